/-! X6_wanted -/
def wp_X6_wanted (S0 : CS) (x1 : Int32) (x2 : Int32) (Q : Int32 → CS → Prop) : Prop := wp_X2_areTwo S0.2.1 x1 x2 (fun r_1 u_2 => ∀ S_3, S_3 = (xf S0 u_2) → (((¬ r_1 = 0) → (wp_X5_leastDances S_3.2.2.2.2.2.1 S_3.2.1 x1 x2 (fun r_6 u_7 u_8 => ∀ S_10, S_10 = (xf (xw S_3 u_7) u_8) → (Q r_6 S_10)))) ∧ ((r_1 = 0) → (wp_X6_refuse S_3 (-1 : Int32) (fun r_12 u_13 => Q r_12 u_13)))))
abbrev rmX6_wanted : Room := { frames := 15, cells := 0, slots := 0, locals := 378 }
set_option maxRecDepth 100000 in
set_option maxHeartbeats 4000000 in
theorem c_X6_wanted (l : Launch) (D : va_G) (k : Nat → ClassId) (a : Nat → Nat) (S0 : CS) (sz : Nat) (x1 : Int32) (x2 : Int32) (Q : Int32 → CS → Prop) (h : wp_X6_wanted S0 x1 x2 Q) : Met l yX6_wanted wsX6_wanted rmX6_wanted (cPc D k (wMa k a S0) [.ref (a 0), .int x1, .int x2] sz) (va_Qi (fun (r : Int32) (u : CS) => Q r u) (cB D k (va_A (wMa k a S0) sz) (fun u : CS => wMa k a u)) (va_A (wMa k a S0) sz)) 0 0 (va_A (wMa k a S0) sz) := by
  refine ct_entry (cc := cX6_wanted) (maxL := 3) (ret := (some .int)) (Rn := RX6) (Qc := fun A => (va_Qi (fun (r : Int32) (u : CS) => Q r u) (cB D k A (fun u : CS => wMa k a u)) A)) (by decide) rfl rfl (Nat.le_of_ble_eq_true rfl) ?_
  intro p e s m below meth c hx hb hr hlocks hml hts hown hnw hK A hA H locs hP hD hS ls hl
  have hl : lv_has ls 3 [(0, .ref (a 0)), (1, .int x1), (2, .int x2)] := hl
  have ln_10 := hts (.fieldLink RX6 10 "WithTheSameOne" "floor" "LWithTheSameOne$Floor;") (by decide +kernel)
  have ln_36 := hts (.fieldLink RX6 36 "WithTheSameOne" "wishes" "LWithTheSameOne$Wishes;") (by decide +kernel)
  have in_Ma : ∀ w ∈ wsX60, w ∈ wsX6_wanted := fun _ h => List.mem_cons_of_mem _ (List.mem_append_left _ (List.mem_append_left _ (List.mem_append_right _ h)))
  unfold wp_X6_wanted at h
  refine lv_aload_n hx hb dX6_wanted_0 rfl (lv_at hl 0 rfl) ?_
  refine va_get (D := D) (ci := 6) (v := .ref (a 2)) (C := RX6) (T := TX6) (N := 8) hx hb hts in_Ma hown hK hP 0 rfl rfl 0 (by decide) ln_10 (fun _ h9 => h9) rfl dX6_wanted_1 ?_
  refine lv_iload_n hx hb dX6_wanted_4 rfl (lv_at hl 1 rfl) ?_
  refine lv_iload_n hx hb dX6_wanted_5 rfl (lv_at hl 2 rfl) ?_
  have hPc := fc22_P hP
  have hDc := fc22_D hD
  have hFc := fr_self hDc hS hA
  refine gv_i (va_runV (As := [.int x1, .int x2]) (rest := []) ⟨hx, hb, hml, hown, hts⟩ (c_X2_areTwo l D k (sh a 2) S0.2.1 H.size x1 x2 _ h) (cwV 2 hts gX6_wanted_X2_areTwo rfl rfl rfl (by decide +kernel) ⟨Nat.le_of_ble_eq_true rfl, Nat.le_of_ble_eq_true rfl⟩) (gv_preV hK hnw hPc hDc (ci := 2) rfl 0 rfl) rfl rfl hl.1 rfl (lv_room (Nat.le_of_ble_eq_true rfl)) dX6_wanted_6 ⟨Nat.zero_le _, Nat.zero_le _⟩) hS hFc (fun r_1 u_2 H locs h hP1 hD1 hk1 hS => ?_)
  obtain ⟨hP, hD⟩ := fc22_J hP hD hk1 hFc hP1 hD1
  obtain ⟨S_3, e_4⟩ : ∃ z : CS, z = (xf S0 u_2) := ⟨_, rfl⟩
  have h := h S_3 e_4
  have hP : va_P D vwCl (wMa k a S_3) H := by rw [e_4]; exact hP
  have hD : va_D A (wMa k a S_3) := by rw [e_4]; exact hD
  refine lv_if_ne (tgt := 18) hx hb dX6_wanted_9 (by decide) (fun c_5 => ?_) (fun c_5 => ?_)
  · have h := h.1 c_5
    refine lv_aload_n hx hb dX6_wanted_18 rfl (lv_at hl 0 rfl) ?_
    refine va_get (D := D) (ci := 6) (v := .ref (a 37)) (C := RX6) (T := TX6) (N := 8) hx hb hts in_Ma hown hK hP 0 rfl rfl 4 (by decide) ln_36 (fun _ h9 => h9) rfl dX6_wanted_19 ?_
    refine lv_aload_n hx hb dX6_wanted_22 rfl (lv_at hl 0 rfl) ?_
    refine va_get (D := D) (ci := 6) (v := .ref (a 2)) (C := RX6) (T := TX6) (N := 8) hx hb hts in_Ma hown hK hP 0 rfl rfl 0 (by decide) ln_10 (fun _ h9 => h9) rfl dX6_wanted_23 ?_
    refine lv_iload_n hx hb dX6_wanted_26 rfl (lv_at hl 1 rfl) ?_
    refine lv_iload_n hx hb dX6_wanted_27 rfl (lv_at hl 2 rfl) ?_
    have hPc := fc24_P hP
    have hDc := fc24_D hD
    have hFc := fr_self hDc hS hA
    refine gv_i (va_runV (As := [.ref (a 2), .int x1, .int x2]) (rest := []) ⟨hx, hb, hml, hown, hts⟩ (c_X5_leastDances l D k (sh a 37) (sh a 2) S_3.2.2.2.2.2.1 S_3.2.1 H.size x1 x2 _ h) (cwV 3 hts gX6_wanted_X5_leastDances rfl rfl rfl (by decide +kernel) ⟨Nat.le_of_ble_eq_true rfl, Nat.le_of_ble_eq_true rfl⟩) (gv_preV hK hnw hPc hDc (ci := 5) rfl 0 rfl) rfl rfl hl.1 rfl (lv_room (Nat.le_of_ble_eq_true rfl)) dX6_wanted_28 ⟨Nat.zero_le _, Nat.zero_le _⟩) hS hFc (fun r_6 w_9 H locs h hP1 hD1 hk1 hS => ?_)
    obtain ⟨u_7, u_8⟩ := w_9
    obtain ⟨hP, hD⟩ := fc24_J hP hD hk1 hFc hP1 hD1
    obtain ⟨S_10, e_11⟩ : ∃ z : CS, z = (xf (xw S_3 u_7) u_8) := ⟨_, rfl⟩
    have h := h S_10 e_11
    have hP : va_P D vwCl (wMa k a S_10) H := by rw [e_11]; exact hP
    have hD : va_D A (wMa k a S_10) := by rw [e_11]; exact hD
    exact W.iret (v := r_6) hx hb hr (fun t ht hW => ⟨⟨r_6, S_10, rfl, h, by rw [ht]; exact hP, va_K.moved hW.alike hK, hD⟩, hS.F ht⟩) hS.2.2 dX6_wanted_31
  · have h := h.2 c_5
    refine lv_aload_n hx hb dX6_wanted_12 rfl (lv_at hl 0 rfl) ?_
    refine lv_iconst (v := (-1 : Int32)) hx hb dX6_wanted_13 (by decide) ?_
    have hFc := fr_self hD hS hA
    refine gv_i (va_runV (As := [.int (-1 : Int32)]) (rest := []) ⟨hx, hb, hml, hown, hts⟩ (c_X6_refuse l D k a S_3 H.size (-1 : Int32) _ h) (cwV 1 hts gX6_wanted_X6_refuse rfl rfl rfl (by decide +kernel) ⟨Nat.le_of_ble_eq_true rfl, Nat.le_of_ble_eq_true rfl⟩) (gv_preV hK hnw hP hD (ci := 6) rfl 0 rfl) rfl rfl hl.1 rfl (lv_room (Nat.le_of_ble_eq_true rfl)) dX6_wanted_14 ⟨Nat.zero_le _, Nat.zero_le _⟩) hS hFc (fun r_12 u_13 H locs h hP1 hD1 hk1 hS => ?_)
    have hP := hP1
    have hD := hD1.weaken (fun _ _ _ z => hFc _ z)
    exact W.iret (v := r_12) hx hb hr (fun t ht hW => ⟨⟨r_12, u_13, rfl, h, by rw [ht]; exact hP, va_K.moved hW.alike hK, hD⟩, hS.F ht⟩) hS.2.2 dX6_wanted_17
/-! X6_off -/
def wp_X6_off (S0 : CS) (x1 : Int32) (x2 : Int32) (Q : Int32 → CS → Prop) : Prop := wp_X2_areTwo S0.2.1 x1 x2 (fun r_1 u_2 => ∀ S_3, S_3 = (xf S0 u_2) → (((¬ r_1 = 0) → (wp_X3_fewestWithout S_3.2.2.2.2.1 S_3.2.1 x1 x2 (fun r_6 u_7 u_8 => ∀ S_10, S_10 = (xf (xh S_3 u_7) u_8) → (Q r_6 S_10)))) ∧ ((r_1 = 0) → (wp_X6_refuse S_3 (-1 : Int32) (fun r_12 u_13 => Q r_12 u_13)))))
abbrev rmX6_off : Room := { frames := 7, cells := 0, slots := 0, locals := 162 }
set_option maxRecDepth 100000 in
set_option maxHeartbeats 4000000 in
theorem c_X6_off (l : Launch) (D : va_G) (k : Nat → ClassId) (a : Nat → Nat) (S0 : CS) (sz : Nat) (x1 : Int32) (x2 : Int32) (Q : Int32 → CS → Prop) (h : wp_X6_off S0 x1 x2 Q) : Met l yX6_off wsX6_off rmX6_off (cPc D k (wMa k a S0) [.ref (a 0), .int x1, .int x2] sz) (va_Qi (fun (r : Int32) (u : CS) => Q r u) (cB D k (va_A (wMa k a S0) sz) (fun u : CS => wMa k a u)) (va_A (wMa k a S0) sz)) 0 0 (va_A (wMa k a S0) sz) := by
  refine ct_entry (cc := cX6_off) (maxL := 3) (ret := (some .int)) (Rn := RX6) (Qc := fun A => (va_Qi (fun (r : Int32) (u : CS) => Q r u) (cB D k A (fun u : CS => wMa k a u)) A)) (by decide) rfl rfl (Nat.le_of_ble_eq_true rfl) ?_
  intro p e s m below meth c hx hb hr hlocks hml hts hown hnw hK A hA H locs hP hD hS ls hl
  have hl : lv_has ls 3 [(0, .ref (a 0)), (1, .int x1), (2, .int x2)] := hl
  have ln_10 := hts (.fieldLink RX6 10 "WithTheSameOne" "floor" "LWithTheSameOne$Floor;") (by decide +kernel)
  have ln_29 := hts (.fieldLink RX6 29 "WithTheSameOne" "hopes" "LWithTheSameOne$Hopes;") (by decide +kernel)
  have in_Ma : ∀ w ∈ wsX60, w ∈ wsX6_off := fun _ h => List.mem_cons_of_mem _ (List.mem_append_left _ (List.mem_append_left _ (List.mem_append_left _ (List.mem_append_right _ h))))
  unfold wp_X6_off at h
  refine lv_aload_n hx hb dX6_off_0 rfl (lv_at hl 0 rfl) ?_
  refine va_get (D := D) (ci := 6) (v := .ref (a 2)) (C := RX6) (T := TX6) (N := 8) hx hb hts in_Ma hown hK hP 0 rfl rfl 0 (by decide) ln_10 (fun _ h9 => h9) rfl dX6_off_1 ?_
  refine lv_iload_n hx hb dX6_off_4 rfl (lv_at hl 1 rfl) ?_
  refine lv_iload_n hx hb dX6_off_5 rfl (lv_at hl 2 rfl) ?_
  have hPc := fc22_P hP
  have hDc := fc22_D hD
  have hFc := fr_self hDc hS hA
  refine gv_i (va_runV (As := [.int x1, .int x2]) (rest := []) ⟨hx, hb, hml, hown, hts⟩ (c_X2_areTwo l D k (sh a 2) S0.2.1 H.size x1 x2 _ h) (cwV 2 hts gX6_off_X2_areTwo rfl rfl rfl (by decide +kernel) ⟨Nat.le_of_ble_eq_true rfl, Nat.le_of_ble_eq_true rfl⟩) (gv_preV hK hnw hPc hDc (ci := 2) rfl 0 rfl) rfl rfl hl.1 rfl (lv_room (Nat.le_of_ble_eq_true rfl)) dX6_off_6 ⟨Nat.zero_le _, Nat.zero_le _⟩) hS hFc (fun r_1 u_2 H locs h hP1 hD1 hk1 hS => ?_)
  obtain ⟨hP, hD⟩ := fc22_J hP hD hk1 hFc hP1 hD1
  obtain ⟨S_3, e_4⟩ : ∃ z : CS, z = (xf S0 u_2) := ⟨_, rfl⟩
  have h := h S_3 e_4
  have hP : va_P D vwCl (wMa k a S_3) H := by rw [e_4]; exact hP
  have hD : va_D A (wMa k a S_3) := by rw [e_4]; exact hD
  refine lv_if_ne (tgt := 18) hx hb dX6_off_9 (by decide) (fun c_5 => ?_) (fun c_5 => ?_)
  · have h := h.1 c_5
    refine lv_aload_n hx hb dX6_off_18 rfl (lv_at hl 0 rfl) ?_
    refine va_get (D := D) (ci := 6) (v := .ref (a 19)) (C := RX6) (T := TX6) (N := 8) hx hb hts in_Ma hown hK hP 0 rfl rfl 3 (by decide) ln_29 (fun _ h9 => h9) rfl dX6_off_19 ?_
    refine lv_aload_n hx hb dX6_off_22 rfl (lv_at hl 0 rfl) ?_
    refine va_get (D := D) (ci := 6) (v := .ref (a 2)) (C := RX6) (T := TX6) (N := 8) hx hb hts in_Ma hown hK hP 0 rfl rfl 0 (by decide) ln_10 (fun _ h9 => h9) rfl dX6_off_23 ?_
    refine lv_iload_n hx hb dX6_off_26 rfl (lv_at hl 1 rfl) ?_
    refine lv_iload_n hx hb dX6_off_27 rfl (lv_at hl 2 rfl) ?_
    have hPc := fc23_P hP
    have hDc := fc23_D hD
    have hFc := fr_self hDc hS hA
    refine gv_i (va_runV (As := [.ref (a 2), .int x1, .int x2]) (rest := []) ⟨hx, hb, hml, hown, hts⟩ (c_X3_fewestWithout l D k (sh a 19) (sh a 2) S_3.2.2.2.2.1 S_3.2.1 H.size x1 x2 _ h) (cwV 3 hts gX6_off_X3_fewestWithout rfl rfl rfl (by decide +kernel) ⟨Nat.le_of_ble_eq_true rfl, Nat.le_of_ble_eq_true rfl⟩) (gv_preV hK hnw hPc hDc (ci := 3) rfl 0 rfl) rfl rfl hl.1 rfl (lv_room (Nat.le_of_ble_eq_true rfl)) dX6_off_28 ⟨Nat.zero_le _, Nat.zero_le _⟩) hS hFc (fun r_6 w_9 H locs h hP1 hD1 hk1 hS => ?_)
    obtain ⟨u_7, u_8⟩ := w_9
    obtain ⟨hP, hD⟩ := fc23_J hP hD hk1 hFc hP1 hD1
    obtain ⟨S_10, e_11⟩ : ∃ z : CS, z = (xf (xh S_3 u_7) u_8) := ⟨_, rfl⟩
    have h := h S_10 e_11
    have hP : va_P D vwCl (wMa k a S_10) H := by rw [e_11]; exact hP
    have hD : va_D A (wMa k a S_10) := by rw [e_11]; exact hD
    exact W.iret (v := r_6) hx hb hr (fun t ht hW => ⟨⟨r_6, S_10, rfl, h, by rw [ht]; exact hP, va_K.moved hW.alike hK, hD⟩, hS.F ht⟩) hS.2.2 dX6_off_31
  · have h := h.2 c_5
    refine lv_aload_n hx hb dX6_off_12 rfl (lv_at hl 0 rfl) ?_
    refine lv_iconst (v := (-1 : Int32)) hx hb dX6_off_13 (by decide) ?_
    have hFc := fr_self hD hS hA
    refine gv_i (va_runV (As := [.int (-1 : Int32)]) (rest := []) ⟨hx, hb, hml, hown, hts⟩ (c_X6_refuse l D k a S_3 H.size (-1 : Int32) _ h) (cwV 1 hts gX6_off_X6_refuse rfl rfl rfl (by decide +kernel) ⟨Nat.le_of_ble_eq_true rfl, Nat.le_of_ble_eq_true rfl⟩) (gv_preV hK hnw hP hD (ci := 6) rfl 0 rfl) rfl rfl hl.1 rfl (lv_room (Nat.le_of_ble_eq_true rfl)) dX6_off_14 ⟨Nat.zero_le _, Nat.zero_le _⟩) hS hFc (fun r_12 u_13 H locs h hP1 hD1 hk1 hS => ?_)
    have hP := hP1
    have hD := hD1.weaken (fun _ _ _ z => hFc _ z)
    exact W.iret (v := r_12) hx hb hr (fun t ht hW => ⟨⟨r_12, u_13, rfl, h, by rw [ht]; exact hP, va_K.moved hW.alike hK, hD⟩, hS.F ht⟩) hS.2.2 dX6_off_17
/-! X6_worth -/
def wp_X6_worth (S0 : CS) (x1 : Int32) (Q : Int32 → CS → Prop) : Prop := wp_X2_isThere S0.2.1 x1 (fun r_1 u_2 => ∀ S_3, S_3 = (xf S0 u_2) → (((¬ r_1 = 0) → (wp_X3_lostWithoutBringer S_3.2.2.2.2.1 S_3.2.1 x1 (fun r_6 u_7 u_8 => ∀ S_10, S_10 = (xf (xh S_3 u_7) u_8) → (Q r_6 S_10)))) ∧ ((r_1 = 0) → (wp_X6_refuse S_3 (-1 : Int32) (fun r_12 u_13 => Q r_12 u_13)))))
abbrev rmX6_worth : Room := { frames := 6, cells := 0, slots := 0, locals := 134 }
set_option maxRecDepth 100000 in
set_option maxHeartbeats 4000000 in
theorem c_X6_worth (l : Launch) (D : va_G) (k : Nat → ClassId) (a : Nat → Nat) (S0 : CS) (sz : Nat) (x1 : Int32) (Q : Int32 → CS → Prop) (h : wp_X6_worth S0 x1 Q) : Met l yX6_worth wsX6_worth rmX6_worth (cPc D k (wMa k a S0) [.ref (a 0), .int x1] sz) (va_Qi (fun (r : Int32) (u : CS) => Q r u) (cB D k (va_A (wMa k a S0) sz) (fun u : CS => wMa k a u)) (va_A (wMa k a S0) sz)) 0 0 (va_A (wMa k a S0) sz) := by
  refine ct_entry (cc := cX6_worth) (maxL := 2) (ret := (some .int)) (Rn := RX6) (Qc := fun A => (va_Qi (fun (r : Int32) (u : CS) => Q r u) (cB D k A (fun u : CS => wMa k a u)) A)) (by decide) rfl rfl (Nat.le_of_ble_eq_true rfl) ?_
  intro p e s m below meth c hx hb hr hlocks hml hts hown hnw hK A hA H locs hP hD hS ls hl
  have hl : lv_has ls 2 [(0, .ref (a 0)), (1, .int x1)] := hl
  have ln_10 := hts (.fieldLink RX6 10 "WithTheSameOne" "floor" "LWithTheSameOne$Floor;") (by decide +kernel)
  have ln_29 := hts (.fieldLink RX6 29 "WithTheSameOne" "hopes" "LWithTheSameOne$Hopes;") (by decide +kernel)
  have in_Ma : ∀ w ∈ wsX60, w ∈ wsX6_worth := fun _ h => List.mem_cons_of_mem _ (List.mem_append_left _ (List.mem_append_left _ (List.mem_append_left _ (List.mem_append_right _ h))))
  unfold wp_X6_worth at h
  refine lv_aload_n hx hb dX6_worth_0 rfl (lv_at hl 0 rfl) ?_
  refine va_get (D := D) (ci := 6) (v := .ref (a 2)) (C := RX6) (T := TX6) (N := 8) hx hb hts in_Ma hown hK hP 0 rfl rfl 0 (by decide) ln_10 (fun _ h9 => h9) rfl dX6_worth_1 ?_
  refine lv_iload_n hx hb dX6_worth_4 rfl (lv_at hl 1 rfl) ?_
  have hPc := fc22_P hP
  have hDc := fc22_D hD
  have hFc := fr_self hDc hS hA
  refine gv_i (va_runV (As := [.int x1]) (rest := []) ⟨hx, hb, hml, hown, hts⟩ (c_X2_isThere l D k (sh a 2) S0.2.1 H.size x1 _ h) (cwV 1 hts gX6_worth_X2_isThere rfl rfl rfl (by decide +kernel) ⟨Nat.le_of_ble_eq_true rfl, Nat.le_of_ble_eq_true rfl⟩) (gv_preV hK hnw hPc hDc (ci := 2) rfl 0 rfl) rfl rfl hl.1 rfl (lv_room (Nat.le_of_ble_eq_true rfl)) dX6_worth_5 ⟨Nat.zero_le _, Nat.zero_le _⟩) hS hFc (fun r_1 u_2 H locs h hP1 hD1 hk1 hS => ?_)
  obtain ⟨hP, hD⟩ := fc22_J hP hD hk1 hFc hP1 hD1
  obtain ⟨S_3, e_4⟩ : ∃ z : CS, z = (xf S0 u_2) := ⟨_, rfl⟩
  have h := h S_3 e_4
  have hP : va_P D vwCl (wMa k a S_3) H := by rw [e_4]; exact hP
  have hD : va_D A (wMa k a S_3) := by rw [e_4]; exact hD
  refine lv_if_ne (tgt := 17) hx hb dX6_worth_8 (by decide) (fun c_5 => ?_) (fun c_5 => ?_)
  · have h := h.1 c_5
    refine lv_aload_n hx hb dX6_worth_17 rfl (lv_at hl 0 rfl) ?_
    refine va_get (D := D) (ci := 6) (v := .ref (a 19)) (C := RX6) (T := TX6) (N := 8) hx hb hts in_Ma hown hK hP 0 rfl rfl 3 (by decide) ln_29 (fun _ h9 => h9) rfl dX6_worth_18 ?_
    refine lv_aload_n hx hb dX6_worth_21 rfl (lv_at hl 0 rfl) ?_
    refine va_get (D := D) (ci := 6) (v := .ref (a 2)) (C := RX6) (T := TX6) (N := 8) hx hb hts in_Ma hown hK hP 0 rfl rfl 0 (by decide) ln_10 (fun _ h9 => h9) rfl dX6_worth_22 ?_
    refine lv_iload_n hx hb dX6_worth_25 rfl (lv_at hl 1 rfl) ?_
    have hPc := fc23_P hP
    have hDc := fc23_D hD
    have hFc := fr_self hDc hS hA
    refine gv_i (va_runV (As := [.ref (a 2), .int x1]) (rest := []) ⟨hx, hb, hml, hown, hts⟩ (c_X3_lostWithoutBringer l D k (sh a 19) (sh a 2) S_3.2.2.2.2.1 S_3.2.1 H.size x1 _ h) (cwV 2 hts gX6_worth_X3_lostWithoutBringer rfl rfl rfl (by decide +kernel) ⟨Nat.le_of_ble_eq_true rfl, Nat.le_of_ble_eq_true rfl⟩) (gv_preV hK hnw hPc hDc (ci := 3) rfl 0 rfl) rfl rfl hl.1 rfl (lv_room (Nat.le_of_ble_eq_true rfl)) dX6_worth_26 ⟨Nat.zero_le _, Nat.zero_le _⟩) hS hFc (fun r_6 w_9 H locs h hP1 hD1 hk1 hS => ?_)
    obtain ⟨u_7, u_8⟩ := w_9
    obtain ⟨hP, hD⟩ := fc23_J hP hD hk1 hFc hP1 hD1
    obtain ⟨S_10, e_11⟩ : ∃ z : CS, z = (xf (xh S_3 u_7) u_8) := ⟨_, rfl⟩
    have h := h S_10 e_11
    have hP : va_P D vwCl (wMa k a S_10) H := by rw [e_11]; exact hP
    have hD : va_D A (wMa k a S_10) := by rw [e_11]; exact hD
    exact W.iret (v := r_6) hx hb hr (fun t ht hW => ⟨⟨r_6, S_10, rfl, h, by rw [ht]; exact hP, va_K.moved hW.alike hK, hD⟩, hS.F ht⟩) hS.2.2 dX6_worth_29
  · have h := h.2 c_5
    refine lv_aload_n hx hb dX6_worth_11 rfl (lv_at hl 0 rfl) ?_
    refine lv_iconst (v := (-1 : Int32)) hx hb dX6_worth_12 (by decide) ?_
    have hFc := fr_self hD hS hA
    refine gv_i (va_runV (As := [.int (-1 : Int32)]) (rest := []) ⟨hx, hb, hml, hown, hts⟩ (c_X6_refuse l D k a S_3 H.size (-1 : Int32) _ h) (cwV 1 hts gX6_worth_X6_refuse rfl rfl rfl (by decide +kernel) ⟨Nat.le_of_ble_eq_true rfl, Nat.le_of_ble_eq_true rfl⟩) (gv_preV hK hnw hP hD (ci := 6) rfl 0 rfl) rfl rfl hl.1 rfl (lv_room (Nat.le_of_ble_eq_true rfl)) dX6_worth_13 ⟨Nat.zero_le _, Nat.zero_le _⟩) hS hFc (fun r_12 u_13 H locs h hP1 hD1 hk1 hS => ?_)
    have hP := hP1
    have hD := hD1.weaken (fun _ _ _ z => hFc _ z)
    exact W.iret (v := r_12) hx hb hr (fun t ht hW => ⟨⟨r_12, u_13, rfl, h, by rw [ht]; exact hP, va_K.moved hW.alike hK, hD⟩, hS.F ht⟩) hS.2.2 dX6_worth_16
/-! X6_byLaw -/
def wp_X6_byLaw (S0 : CS) (x1 : Int32) (Q : Int32 → CS → Prop) : Prop := wp_X6_isLaw x1 (fun r_1 => ((¬ r_1 = 0) → (wp_X3_pairsInTheEnd S0.2.2.2.2.1 S0.2.1 x1 (fun r_3 u_4 u_5 => ∀ S_7, S_7 = (xf (xh S0 u_4) u_5) → (Q r_3 S_7)))) ∧ ((r_1 = 0) → (wp_X6_refuse S0 (-2 : Int32) (fun r_9 u_10 => Q r_9 u_10))))
abbrev rmX6_byLaw : Room := { frames := 5, cells := 0, slots := 0, locals := 111 }
set_option maxRecDepth 100000 in
set_option maxHeartbeats 4000000 in
theorem c_X6_byLaw (l : Launch) (D : va_G) (k : Nat → ClassId) (a : Nat → Nat) (S0 : CS) (sz : Nat) (x1 : Int32) (Q : Int32 → CS → Prop) (h : wp_X6_byLaw S0 x1 Q) : Met l yX6_byLaw wsX6_byLaw rmX6_byLaw (cPc D k (wMa k a S0) [.ref (a 0), .int x1] sz) (va_Qi (fun (r : Int32) (u : CS) => Q r u) (cB D k (va_A (wMa k a S0) sz) (fun u : CS => wMa k a u)) (va_A (wMa k a S0) sz)) 0 0 (va_A (wMa k a S0) sz) := by
  refine ct_entry (cc := cX6_byLaw) (maxL := 2) (ret := (some .int)) (Rn := RX6) (Qc := fun A => (va_Qi (fun (r : Int32) (u : CS) => Q r u) (cB D k A (fun u : CS => wMa k a u)) A)) (by decide) rfl rfl (Nat.le_of_ble_eq_true rfl) ?_
  intro p e s m below meth c hx hb hr hlocks hml hts hown hnw hK A hA H locs hP hD hS ls hl
  have hl : lv_has ls 2 [(0, .ref (a 0)), (1, .int x1)] := hl
  have ln_10 := hts (.fieldLink RX6 10 "WithTheSameOne" "floor" "LWithTheSameOne$Floor;") (by decide +kernel)
  have ln_29 := hts (.fieldLink RX6 29 "WithTheSameOne" "hopes" "LWithTheSameOne$Hopes;") (by decide +kernel)
  have in_Ma : ∀ w ∈ wsX60, w ∈ wsX6_byLaw := fun _ h => List.mem_cons_of_mem _ (List.mem_append_left _ (List.mem_append_left _ (List.mem_append_left _ (List.mem_append_right _ h))))
  unfold wp_X6_byLaw at h
  refine lv_iload_n hx hb dX6_byLaw_0 rfl (lv_at hl 1 rfl) ?_
  refine gs_i (va_runS (As := [.int x1]) (rest := []) ⟨hx, hb, hml, hown, hts⟩ (c_X6_isLaw l x1 _ h) (va_cwS 1 hts gX6_byLaw_X6_isLaw rfl rfl rfl (by decide +kernel) ⟨Nat.le_of_ble_eq_true rfl, Nat.le_of_ble_eq_true rfl⟩) preEq rfl rfl hl.1 rfl (lv_room (Nat.le_of_ble_eq_true rfl)) dX6_byLaw_1 ⟨Nat.zero_le _, Nat.zero_le _⟩) (fun r_1 h => ?_)
  refine lv_if_ne (tgt := 14) hx hb dX6_byLaw_4 (by decide) (fun c_2 => ?_) (fun c_2 => ?_)
  · have h := h.1 c_2
    refine lv_aload_n hx hb dX6_byLaw_14 rfl (lv_at hl 0 rfl) ?_
    refine va_get (D := D) (ci := 6) (v := .ref (a 19)) (C := RX6) (T := TX6) (N := 8) hx hb hts in_Ma hown hK hP 0 rfl rfl 3 (by decide) ln_29 (fun _ h9 => h9) rfl dX6_byLaw_15 ?_
    refine lv_aload_n hx hb dX6_byLaw_18 rfl (lv_at hl 0 rfl) ?_
    refine va_get (D := D) (ci := 6) (v := .ref (a 2)) (C := RX6) (T := TX6) (N := 8) hx hb hts in_Ma hown hK hP 0 rfl rfl 0 (by decide) ln_10 (fun _ h9 => h9) rfl dX6_byLaw_19 ?_
    refine lv_iload_n hx hb dX6_byLaw_22 rfl (lv_at hl 1 rfl) ?_
    have hPc := fc23_P hP
    have hDc := fc23_D hD
    have hFc := fr_self hDc hS hA
    refine gv_i (va_runV (As := [.ref (a 2), .int x1]) (rest := []) ⟨hx, hb, hml, hown, hts⟩ (c_X3_pairsInTheEnd l D k (sh a 19) (sh a 2) S0.2.2.2.2.1 S0.2.1 H.size x1 _ h) (cwV 2 hts gX6_byLaw_X3_pairsInTheEnd rfl rfl rfl (by decide +kernel) ⟨Nat.le_of_ble_eq_true rfl, Nat.le_of_ble_eq_true rfl⟩) (gv_preV hK hnw hPc hDc (ci := 3) rfl 0 rfl) rfl rfl hl.1 rfl (lv_room (Nat.le_of_ble_eq_true rfl)) dX6_byLaw_23 ⟨Nat.zero_le _, Nat.zero_le _⟩) hS hFc (fun r_3 w_6 H locs h hP1 hD1 hk1 hS => ?_)
    obtain ⟨u_4, u_5⟩ := w_6
    obtain ⟨hP, hD⟩ := fc23_J hP hD hk1 hFc hP1 hD1
    obtain ⟨S_7, e_8⟩ : ∃ z : CS, z = (xf (xh S0 u_4) u_5) := ⟨_, rfl⟩
    have h := h S_7 e_8
    have hP : va_P D vwCl (wMa k a S_7) H := by rw [e_8]; exact hP
    have hD : va_D A (wMa k a S_7) := by rw [e_8]; exact hD
    exact W.iret (v := r_3) hx hb hr (fun t ht hW => ⟨⟨r_3, S_7, rfl, h, by rw [ht]; exact hP, va_K.moved hW.alike hK, hD⟩, hS.F ht⟩) hS.2.2 dX6_byLaw_26
  · have h := h.2 c_2
    refine lv_aload_n hx hb dX6_byLaw_7 rfl (lv_at hl 0 rfl) ?_
    refine lv_bipush (v := (-2 : Int32)) hx hb dX6_byLaw_8 (by decide) ?_
    have hFc := fr_self hD hS hA
    refine gv_i (va_runV (As := [.int (-2 : Int32)]) (rest := []) ⟨hx, hb, hml, hown, hts⟩ (c_X6_refuse l D k a S0 H.size (-2 : Int32) _ h) (cwV 1 hts gX6_byLaw_X6_refuse rfl rfl rfl (by decide +kernel) ⟨Nat.le_of_ble_eq_true rfl, Nat.le_of_ble_eq_true rfl⟩) (gv_preV hK hnw hP hD (ci := 6) rfl 0 rfl) rfl rfl hl.1 rfl (lv_room (Nat.le_of_ble_eq_true rfl)) dX6_byLaw_10 ⟨Nat.zero_le _, Nat.zero_le _⟩) hS hFc (fun r_9 u_10 H locs h hP1 hD1 hk1 hS => ?_)
    have hP := hP1
    have hD := hD1.weaken (fun _ _ _ z => hFc _ z)
    exact W.iret (v := r_9) hx hb hr (fun t ht hW => ⟨⟨r_9, u_10, rfl, h, by rw [ht]; exact hP, va_K.moved hW.alike hK, hD⟩, hS.F ht⟩) hS.2.2 dX6_byLaw_13
/-! X6_row -/
def wp_X6_row (S0 : CS) (x1 : Int32) (Q : Int32 → CS → Prop) : Prop := ((0 ≤ x1) → ((((99 : Int32) < x1) → (wp_X6_refuse S0 (-6 : Int32) (fun r_3 u_4 => Q r_3 u_4))) ∧ ((¬ (99 : Int32) < x1) → ((((S0.2.2.2.2.2.2.1.1 0) < (6 : Int32)) → (wp_X1_append S0.2.2.2.2.2.2 x1 (fun r_6 u_7 => ∀ S_8, S_8 = (xe S0 u_7) → (Q r_6 S_8)))) ∧ ((¬ (S0.2.2.2.2.2.2.1.1 0) < (6 : Int32)) → (wp_X6_refuse S0 (-6 : Int32) (fun r_10 u_11 => Q r_10 u_11))))))) ∧ ((¬ 0 ≤ x1) → (wp_X6_refuse S0 (-4 : Int32) (fun r_12 u_13 => Q r_12 u_13)))
abbrev rmX6_row : Room := { frames := 1, cells := 0, slots := 0, locals := 21 }
set_option maxRecDepth 100000 in
set_option maxHeartbeats 4000000 in
theorem c_X6_row (l : Launch) (D : va_G) (k : Nat → ClassId) (a : Nat → Nat) (S0 : CS) (sz : Nat) (x1 : Int32) (Q : Int32 → CS → Prop) (h : wp_X6_row S0 x1 Q) : Met l yX6_row wsX6_row rmX6_row (cPc D k (wMa k a S0) [.ref (a 0), .int x1] sz) (va_Qi (fun (r : Int32) (u : CS) => Q r u) (cB D k (va_A (wMa k a S0) sz) (fun u : CS => wMa k a u)) (va_A (wMa k a S0) sz)) 0 0 (va_A (wMa k a S0) sz) := by
  refine ct_entry (cc := cX6_row) (maxL := 2) (ret := (some .int)) (Rn := RX6) (Qc := fun A => (va_Qi (fun (r : Int32) (u : CS) => Q r u) (cB D k A (fun u : CS => wMa k a u)) A)) (by decide) rfl rfl (Nat.le_of_ble_eq_true rfl) ?_
  intro p e s m below meth c hx hb hr hlocks hml hts hown hnw hK A hA H locs hP hD hS ls hl
  have hl : lv_has ls 2 [(0, .ref (a 0)), (1, .int x1)] := hl
  have ln_169 := hts (.fieldLink RX6 169 "WithTheSameOne$Evening" "size" "I") (by decide +kernel)
  have ln_43 := hts (.fieldLink RX6 43 "WithTheSameOne" "evening" "LWithTheSameOne$Evening;") (by decide +kernel)
  have in_Ma : ∀ w ∈ wsX60, w ∈ wsX6_row := fun _ h => List.mem_cons_of_mem _ (List.mem_append_left _ (List.mem_append_right _ h))
  have in_Ev : ∀ w ∈ wsX10, w ∈ wsX6_row := fun _ h => List.mem_cons_of_mem _ (List.mem_append_right _ h)
  unfold wp_X6_row at h
  refine lv_iload_n hx hb dX6_row_0 rfl (lv_at hl 1 rfl) ?_
  refine lv_if_ge (tgt := 11) hx hb dX6_row_1 (by decide) (fun c_1 => ?_) (fun c_1 => ?_)
  · have h := h.1 c_1
    refine lv_iload_n hx hb dX6_row_11 rfl (lv_at hl 1 rfl) ?_
    refine lv_bipush (v := (99 : Int32)) hx hb dX6_row_12 (by decide) ?_
    refine lv_icmp_gt (tgt := 29) hx hb dX6_row_14 (by decide) (fun c_2 => ?_) (fun c_2 => ?_)
    · have h := h.1 c_2
      refine lv_aload_n hx hb dX6_row_29 rfl (lv_at hl 0 rfl) ?_
      refine lv_bipush (v := (-6 : Int32)) hx hb dX6_row_30 (by decide) ?_
      have hFc := fr_self hD hS hA
      refine gv_i (va_runV (As := [.int (-6 : Int32)]) (rest := []) ⟨hx, hb, hml, hown, hts⟩ (c_X6_refuse l D k a S0 H.size (-6 : Int32) _ h) (cwV 1 hts gX6_row_X6_refuse rfl rfl rfl (by decide +kernel) ⟨Nat.le_of_ble_eq_true rfl, Nat.le_of_ble_eq_true rfl⟩) (gv_preV hK hnw hP hD (ci := 6) rfl 0 rfl) rfl rfl hl.1 rfl (lv_room (Nat.le_of_ble_eq_true rfl)) dX6_row_32 ⟨Nat.zero_le _, Nat.zero_le _⟩) hS hFc (fun r_3 u_4 H locs h hP1 hD1 hk1 hS => ?_)
      have hP := hP1
      have hD := hD1.weaken (fun _ _ _ z => hFc _ z)
      exact W.iret (v := r_3) hx hb hr (fun t ht hW => ⟨⟨r_3, u_4, rfl, h, by rw [ht]; exact hP, va_K.moved hW.alike hK, hD⟩, hS.F ht⟩) hS.2.2 dX6_row_35
    · have h := h.2 c_2
      refine lv_aload_n hx hb dX6_row_17 rfl (lv_at hl 0 rfl) ?_
      refine va_get (D := D) (ci := 6) (v := .ref (a 54)) (C := RX6) (T := TX6) (N := 8) hx hb hts in_Ma hown hK hP 0 rfl rfl 5 (by decide) ln_43 (fun _ h9 => h9) rfl dX6_row_18 ?_
      refine va_get (D := D) (ci := 1) (v := .int (S0.2.2.2.2.2.2.1.1 0)) (C := RX1) (T := TX1) (N := 3) hx hb hts in_Ev hown hK hP 54 rfl rfl 0 (by decide) ln_169 (fun _ h9 => h9) rfl dX6_row_21 ?_
      refine lv_bipush (v := (6 : Int32)) hx hb dX6_row_24 (by decide) ?_
      refine lv_icmp_lt (tgt := 36) hx hb dX6_row_26 (by decide) (fun c_5 => ?_) (fun c_5 => ?_)
      · have h := h.1 c_5
        refine lv_aload_n hx hb dX6_row_36 rfl (lv_at hl 0 rfl) ?_
        refine va_get (D := D) (ci := 6) (v := .ref (a 54)) (C := RX6) (T := TX6) (N := 8) hx hb hts in_Ma hown hK hP 0 rfl rfl 5 (by decide) ln_43 (fun _ h9 => h9) rfl dX6_row_37 ?_
        refine lv_iload_n hx hb dX6_row_40 rfl (lv_at hl 1 rfl) ?_
        have hPc := fc25_P hP
        have hDc := fc25_D hD
        have hFc := fr_self hDc hS hA
        refine gv_i (va_runV (As := [.int x1]) (rest := []) ⟨hx, hb, hml, hown, hts⟩ (c_X1_append l D k (sh a 54) S0.2.2.2.2.2.2 H.size x1 _ h) (cwV 1 hts gX6_row_X1_append rfl rfl rfl (by decide +kernel) ⟨Nat.le_of_ble_eq_true rfl, Nat.le_of_ble_eq_true rfl⟩) (gv_preV hK hnw hPc hDc (ci := 1) rfl 0 rfl) rfl rfl hl.1 rfl (lv_room (Nat.le_of_ble_eq_true rfl)) dX6_row_41 ⟨Nat.zero_le _, Nat.zero_le _⟩) hS hFc (fun r_6 u_7 H locs h hP1 hD1 hk1 hS => ?_)
        obtain ⟨hP, hD⟩ := fc25_J hP hD hk1 hFc hP1 hD1
        obtain ⟨S_8, e_9⟩ : ∃ z : CS, z = (xe S0 u_7) := ⟨_, rfl⟩
        have h := h S_8 e_9
        have hP : va_P D vwCl (wMa k a S_8) H := by rw [e_9]; exact hP
        have hD : va_D A (wMa k a S_8) := by rw [e_9]; exact hD
        exact W.iret (v := r_6) hx hb hr (fun t ht hW => ⟨⟨r_6, S_8, rfl, h, by rw [ht]; exact hP, va_K.moved hW.alike hK, hD⟩, hS.F ht⟩) hS.2.2 dX6_row_44
      · have h := h.2 c_5
        refine lv_aload_n hx hb dX6_row_29 rfl (lv_at hl 0 rfl) ?_
        refine lv_bipush (v := (-6 : Int32)) hx hb dX6_row_30 (by decide) ?_
        have hFc := fr_self hD hS hA
        refine gv_i (va_runV (As := [.int (-6 : Int32)]) (rest := []) ⟨hx, hb, hml, hown, hts⟩ (c_X6_refuse l D k a S0 H.size (-6 : Int32) _ h) (cwV 1 hts gX6_row_X6_refuse rfl rfl rfl (by decide +kernel) ⟨Nat.le_of_ble_eq_true rfl, Nat.le_of_ble_eq_true rfl⟩) (gv_preV hK hnw hP hD (ci := 6) rfl 0 rfl) rfl rfl hl.1 rfl (lv_room (Nat.le_of_ble_eq_true rfl)) dX6_row_32 ⟨Nat.zero_le _, Nat.zero_le _⟩) hS hFc (fun r_10 u_11 H locs h hP1 hD1 hk1 hS => ?_)
        have hP := hP1
        have hD := hD1.weaken (fun _ _ _ z => hFc _ z)
        exact W.iret (v := r_10) hx hb hr (fun t ht hW => ⟨⟨r_10, u_11, rfl, h, by rw [ht]; exact hP, va_K.moved hW.alike hK, hD⟩, hS.F ht⟩) hS.2.2 dX6_row_35
  · have h := h.2 c_1
    refine lv_aload_n hx hb dX6_row_4 rfl (lv_at hl 0 rfl) ?_
    refine lv_bipush (v := (-4 : Int32)) hx hb dX6_row_5 (by decide) ?_
    have hFc := fr_self hD hS hA
    refine gv_i (va_runV (As := [.int (-4 : Int32)]) (rest := []) ⟨hx, hb, hml, hown, hts⟩ (c_X6_refuse l D k a S0 H.size (-4 : Int32) _ h) (cwV 1 hts gX6_row_X6_refuse rfl rfl rfl (by decide +kernel) ⟨Nat.le_of_ble_eq_true rfl, Nat.le_of_ble_eq_true rfl⟩) (gv_preV hK hnw hP hD (ci := 6) rfl 0 rfl) rfl rfl hl.1 rfl (lv_room (Nat.le_of_ble_eq_true rfl)) dX6_row_7 ⟨Nat.zero_le _, Nat.zero_le _⟩) hS hFc (fun r_12 u_13 H locs h hP1 hD1 hk1 hS => ?_)
    have hP := hP1
    have hD := hD1.weaken (fun _ _ _ z => hFc _ z)
    exact W.iret (v := r_12) hx hb hr (fun t ht hW => ⟨⟨r_12, u_13, rfl, h, by rw [ht]; exact hP, va_K.moved hW.alike hK, hD⟩, hS.F ht⟩) hS.2.2 dX6_row_10
/-! X6_judge -/
def wp_X6_judge (S0 : CS) (Q : Int32 → CS → Prop) : Prop := wp_X1_firstWrong S0.2.2.2.2.2.2 S0.2.1 (fun r_1 u_2 u_3 => ∀ S_5, S_5 = (xf (xe S0 u_2) u_3) → (Q r_1 S_5))
abbrev rmX6_judge : Room := { frames := 6, cells := 0, slots := 0, locals := 142 }
set_option maxRecDepth 100000 in
set_option maxHeartbeats 4000000 in
theorem c_X6_judge (l : Launch) (D : va_G) (k : Nat → ClassId) (a : Nat → Nat) (S0 : CS) (sz : Nat) (Q : Int32 → CS → Prop) (h : wp_X6_judge S0 Q) : Met l yX6_judge wsX6_judge rmX6_judge (cPc D k (wMa k a S0) [.ref (a 0)] sz) (va_Qi (fun (r : Int32) (u : CS) => Q r u) (cB D k (va_A (wMa k a S0) sz) (fun u : CS => wMa k a u)) (va_A (wMa k a S0) sz)) 0 0 (va_A (wMa k a S0) sz) := by
  refine ct_entry (cc := cX6_judge) (maxL := 1) (ret := (some .int)) (Rn := RX6) (Qc := fun A => (va_Qi (fun (r : Int32) (u : CS) => Q r u) (cB D k A (fun u : CS => wMa k a u)) A)) (by decide) rfl rfl (Nat.le_of_ble_eq_true rfl) ?_
  intro p e s m below meth c hx hb hr hlocks hml hts hown hnw hK A hA H locs hP hD hS ls hl
  have hl : lv_has ls 1 [(0, .ref (a 0))] := hl
  have ln_10 := hts (.fieldLink RX6 10 "WithTheSameOne" "floor" "LWithTheSameOne$Floor;") (by decide +kernel)
  have ln_43 := hts (.fieldLink RX6 43 "WithTheSameOne" "evening" "LWithTheSameOne$Evening;") (by decide +kernel)
  have in_Ma : ∀ w ∈ wsX60, w ∈ wsX6_judge := fun _ h => List.mem_cons_of_mem _ (List.mem_append_left _ (List.mem_append_left _ (List.mem_append_right _ h)))
  unfold wp_X6_judge at h
  refine lv_aload_n hx hb dX6_judge_0 rfl (lv_at hl 0 rfl) ?_
  refine va_get (D := D) (ci := 6) (v := .ref (a 54)) (C := RX6) (T := TX6) (N := 8) hx hb hts in_Ma hown hK hP 0 rfl rfl 5 (by decide) ln_43 (fun _ h9 => h9) rfl dX6_judge_1 ?_
  refine lv_aload_n hx hb dX6_judge_4 rfl (lv_at hl 0 rfl) ?_
  refine va_get (D := D) (ci := 6) (v := .ref (a 2)) (C := RX6) (T := TX6) (N := 8) hx hb hts in_Ma hown hK hP 0 rfl rfl 0 (by decide) ln_10 (fun _ h9 => h9) rfl dX6_judge_5 ?_
  have hPc := fc26_P hP
  have hDc := fc26_D hD
  have hFc := fr_self hDc hS hA
  refine gv_i (va_runV (As := [.ref (a 2)]) (rest := []) ⟨hx, hb, hml, hown, hts⟩ (c_X1_firstWrong l D k (sh a 54) (sh a 2) S0.2.2.2.2.2.2 S0.2.1 H.size _ h) (cwV 1 hts gX6_judge_X1_firstWrong rfl rfl rfl (by decide +kernel) ⟨Nat.le_of_ble_eq_true rfl, Nat.le_of_ble_eq_true rfl⟩) (gv_preV hK hnw hPc hDc (ci := 1) rfl 0 rfl) rfl rfl hl.1 rfl (lv_room (Nat.le_of_ble_eq_true rfl)) dX6_judge_8 ⟨Nat.zero_le _, Nat.zero_le _⟩) hS hFc (fun r_1 w_4 H locs h hP1 hD1 hk1 hS => ?_)
  obtain ⟨u_2, u_3⟩ := w_4
  obtain ⟨hP, hD⟩ := fc26_J hP hD hk1 hFc hP1 hD1
  obtain ⟨S_5, e_6⟩ : ∃ z : CS, z = (xf (xe S0 u_2) u_3) := ⟨_, rfl⟩
  have h := h S_5 e_6
  have hP : va_P D vwCl (wMa k a S_5) H := by rw [e_6]; exact hP
  have hD : va_D A (wMa k a S_5) := by rw [e_6]; exact hD
  exact W.iret (v := r_1) hx hb hr (fun t ht hW => ⟨⟨r_1, S_5, rfl, h, by rw [ht]; exact hP, va_K.moved hW.alike hK, hD⟩, hS.F ht⟩) hS.2.2 dX6_judge_11
/-! X6_load -/
def wp_X6_load (S0 : CS) (Q : Int32 → CS → Prop) : Prop := ((¬ (S0.2.1.1 1) = (1 : Int32)) → (wp_X1_leastLoad S0.2.2.2.2.2.2 S0.2.1 (fun r_2 u_3 u_4 => ∀ S_6, S_6 = (xf (xe S0 u_3) u_4) → (Q r_2 S_6)))) ∧ (((S0.2.1.1 1) = (1 : Int32)) → (wp_X6_refuse S0 (-3 : Int32) (fun r_8 u_9 => Q r_8 u_9)))
abbrev rmX6_load : Room := { frames := 14, cells := 0, slots := 0, locals := 407 }
set_option maxRecDepth 100000 in
set_option maxHeartbeats 4000000 in
theorem c_X6_load (l : Launch) (D : va_G) (k : Nat → ClassId) (a : Nat → Nat) (S0 : CS) (sz : Nat) (Q : Int32 → CS → Prop) (h : wp_X6_load S0 Q) : Met l yX6_load wsX6_load rmX6_load (cPc D k (wMa k a S0) [.ref (a 0)] sz) (va_Qi (fun (r : Int32) (u : CS) => Q r u) (cB D k (va_A (wMa k a S0) sz) (fun u : CS => wMa k a u)) (va_A (wMa k a S0) sz)) 0 0 (va_A (wMa k a S0) sz) := by
  refine ct_entry (cc := cX6_load) (maxL := 1) (ret := (some .int)) (Rn := RX6) (Qc := fun A => (va_Qi (fun (r : Int32) (u : CS) => Q r u) (cB D k A (fun u : CS => wMa k a u)) A)) (by decide) rfl rfl (Nat.le_of_ble_eq_true rfl) ?_
  intro p e s m below meth c hx hb hr hlocks hml hts hown hnw hK A hA H locs hP hD hS ls hl
  have hl : lv_has ls 1 [(0, .ref (a 0))] := hl
  have ln_10 := hts (.fieldLink RX6 10 "WithTheSameOne" "floor" "LWithTheSameOne$Floor;") (by decide +kernel)
  have ln_43 := hts (.fieldLink RX6 43 "WithTheSameOne" "evening" "LWithTheSameOne$Evening;") (by decide +kernel)
  have ln_94 := hts (.fieldLink RX6 94 "WithTheSameOne$Floor" "law" "I") (by decide +kernel)
  have in_Ma : ∀ w ∈ wsX60, w ∈ wsX6_load := fun _ h => List.mem_cons_of_mem _ (List.mem_append_left _ (List.mem_append_left _ (List.mem_append_right _ h)))
  have in_Fl : ∀ w ∈ wsX20, w ∈ wsX6_load := fun _ h => List.mem_cons_of_mem _ (List.mem_append_left _ (List.mem_append_right _ h))
  unfold wp_X6_load at h
  refine lv_aload_n hx hb dX6_load_0 rfl (lv_at hl 0 rfl) ?_
  refine va_get (D := D) (ci := 6) (v := .ref (a 2)) (C := RX6) (T := TX6) (N := 8) hx hb hts in_Ma hown hK hP 0 rfl rfl 0 (by decide) ln_10 (fun _ h9 => h9) rfl dX6_load_1 ?_
  refine va_get (D := D) (ci := 2) (v := .int (S0.2.1.1 1)) (C := RX2) (T := TX2) (N := 6) hx hb hts in_Fl hown hK hP 2 rfl rfl 1 (by decide) ln_94 (fun _ h9 => h9) rfl dX6_load_4 ?_
  refine lv_iconst (v := (1 : Int32)) hx hb dX6_load_7 (by decide) ?_
  refine lv_icmp_ne (tgt := 18) hx hb dX6_load_8 (by decide) (fun c_1 => ?_) (fun c_1 => ?_)
  · have h := h.1 c_1
    refine lv_aload_n hx hb dX6_load_18 rfl (lv_at hl 0 rfl) ?_
    refine va_get (D := D) (ci := 6) (v := .ref (a 54)) (C := RX6) (T := TX6) (N := 8) hx hb hts in_Ma hown hK hP 0 rfl rfl 5 (by decide) ln_43 (fun _ h9 => h9) rfl dX6_load_19 ?_
    refine lv_aload_n hx hb dX6_load_22 rfl (lv_at hl 0 rfl) ?_
    refine va_get (D := D) (ci := 6) (v := .ref (a 2)) (C := RX6) (T := TX6) (N := 8) hx hb hts in_Ma hown hK hP 0 rfl rfl 0 (by decide) ln_10 (fun _ h9 => h9) rfl dX6_load_23 ?_
    have hPc := fc26_P hP
    have hDc := fc26_D hD
    have hFc := fr_self hDc hS hA
    refine gv_i (va_runV (As := [.ref (a 2)]) (rest := []) ⟨hx, hb, hml, hown, hts⟩ (c_X1_leastLoad l D k (sh a 54) (sh a 2) S0.2.2.2.2.2.2 S0.2.1 H.size _ h) (cwV 1 hts gX6_load_X1_leastLoad rfl rfl rfl (by decide +kernel) ⟨Nat.le_of_ble_eq_true rfl, Nat.le_of_ble_eq_true rfl⟩) (gv_preV hK hnw hPc hDc (ci := 1) rfl 0 rfl) rfl rfl hl.1 rfl (lv_room (Nat.le_of_ble_eq_true rfl)) dX6_load_26 ⟨Nat.zero_le _, Nat.zero_le _⟩) hS hFc (fun r_2 w_5 H locs h hP1 hD1 hk1 hS => ?_)
    obtain ⟨u_3, u_4⟩ := w_5
    obtain ⟨hP, hD⟩ := fc26_J hP hD hk1 hFc hP1 hD1
    obtain ⟨S_6, e_7⟩ : ∃ z : CS, z = (xf (xe S0 u_3) u_4) := ⟨_, rfl⟩
    have h := h S_6 e_7
    have hP : va_P D vwCl (wMa k a S_6) H := by rw [e_7]; exact hP
    have hD : va_D A (wMa k a S_6) := by rw [e_7]; exact hD
    exact W.iret (v := r_2) hx hb hr (fun t ht hW => ⟨⟨r_2, S_6, rfl, h, by rw [ht]; exact hP, va_K.moved hW.alike hK, hD⟩, hS.F ht⟩) hS.2.2 dX6_load_29
  · have h := h.2 c_1
    refine lv_aload_n hx hb dX6_load_11 rfl (lv_at hl 0 rfl) ?_
    refine lv_bipush (v := (-3 : Int32)) hx hb dX6_load_12 (by decide) ?_
    have hFc := fr_self hD hS hA
    refine gv_i (va_runV (As := [.int (-3 : Int32)]) (rest := []) ⟨hx, hb, hml, hown, hts⟩ (c_X6_refuse l D k a S0 H.size (-3 : Int32) _ h) (cwV 1 hts gX6_load_X6_refuse rfl rfl rfl (by decide +kernel) ⟨Nat.le_of_ble_eq_true rfl, Nat.le_of_ble_eq_true rfl⟩) (gv_preV hK hnw hP hD (ci := 6) rfl 0 rfl) rfl rfl hl.1 rfl (lv_room (Nat.le_of_ble_eq_true rfl)) dX6_load_14 ⟨Nat.zero_le _, Nat.zero_le _⟩) hS hFc (fun r_8 u_9 H locs h hP1 hD1 hk1 hS => ?_)
    have hP := hP1
    have hD := hD1.weaken (fun _ _ _ z => hFc _ z)
    exact W.iret (v := r_8) hx hb hr (fun t ht hW => ⟨⟨r_8, u_9, rfl, h, by rw [ht]; exact hP, va_K.moved hW.alike hK, hD⟩, hS.F ht⟩) hS.2.2 dX6_load_17
/-! X6_cards -/
def wp_X6_cards (S0 : CS) (Q : Int32 → CS → Prop) : Prop := (((S0.2.2.2.2.2.2.1.1 0) ≤ (5 : Int32)) → (wp_X1_goodOrders S0.2.2.2.2.2.2 S0.2.1 (fun r_2 u_3 u_4 => ∀ S_6, S_6 = (xf (xe S0 u_3) u_4) → (Q r_2 S_6)))) ∧ ((¬ (S0.2.2.2.2.2.2.1.1 0) ≤ (5 : Int32)) → (wp_X6_refuse S0 (-6 : Int32) (fun r_8 u_9 => Q r_8 u_9)))
abbrev rmX6_cards : Room := { frames := 15, cells := 0, slots := 0, locals := 365 }
set_option maxRecDepth 100000 in
set_option maxHeartbeats 4000000 in
theorem c_X6_cards (l : Launch) (D : va_G) (k : Nat → ClassId) (a : Nat → Nat) (S0 : CS) (sz : Nat) (Q : Int32 → CS → Prop) (h : wp_X6_cards S0 Q) : Met l yX6_cards wsX6_cards rmX6_cards (cPc D k (wMa k a S0) [.ref (a 0)] sz) (va_Qi (fun (r : Int32) (u : CS) => Q r u) (cB D k (va_A (wMa k a S0) sz) (fun u : CS => wMa k a u)) (va_A (wMa k a S0) sz)) 0 0 (va_A (wMa k a S0) sz) := by
  refine ct_entry (cc := cX6_cards) (maxL := 1) (ret := (some .int)) (Rn := RX6) (Qc := fun A => (va_Qi (fun (r : Int32) (u : CS) => Q r u) (cB D k A (fun u : CS => wMa k a u)) A)) (by decide) rfl rfl (Nat.le_of_ble_eq_true rfl) ?_
  intro p e s m below meth c hx hb hr hlocks hml hts hown hnw hK A hA H locs hP hD hS ls hl
  have hl : lv_has ls 1 [(0, .ref (a 0))] := hl
  have ln_10 := hts (.fieldLink RX6 10 "WithTheSameOne" "floor" "LWithTheSameOne$Floor;") (by decide +kernel)
  have ln_169 := hts (.fieldLink RX6 169 "WithTheSameOne$Evening" "size" "I") (by decide +kernel)
  have ln_43 := hts (.fieldLink RX6 43 "WithTheSameOne" "evening" "LWithTheSameOne$Evening;") (by decide +kernel)
  have in_Ma : ∀ w ∈ wsX60, w ∈ wsX6_cards := fun _ h => List.mem_cons_of_mem _ (List.mem_append_left _ (List.mem_append_left _ (List.mem_append_right _ h)))
  have in_Ev : ∀ w ∈ wsX10, w ∈ wsX6_cards := fun _ h => List.mem_cons_of_mem _ (List.mem_append_left _ (List.mem_append_right _ h))
  unfold wp_X6_cards at h
  refine lv_aload_n hx hb dX6_cards_0 rfl (lv_at hl 0 rfl) ?_
  refine va_get (D := D) (ci := 6) (v := .ref (a 54)) (C := RX6) (T := TX6) (N := 8) hx hb hts in_Ma hown hK hP 0 rfl rfl 5 (by decide) ln_43 (fun _ h9 => h9) rfl dX6_cards_1 ?_
  refine va_get (D := D) (ci := 1) (v := .int (S0.2.2.2.2.2.2.1.1 0)) (C := RX1) (T := TX1) (N := 3) hx hb hts in_Ev hown hK hP 54 rfl rfl 0 (by decide) ln_169 (fun _ h9 => h9) rfl dX6_cards_4 ?_
  refine lv_iconst (v := (5 : Int32)) hx hb dX6_cards_7 (by decide) ?_
  refine lv_icmp_le (tgt := 18) hx hb dX6_cards_8 (by decide) (fun c_1 => ?_) (fun c_1 => ?_)
  · have h := h.1 c_1
    refine lv_aload_n hx hb dX6_cards_18 rfl (lv_at hl 0 rfl) ?_
    refine va_get (D := D) (ci := 6) (v := .ref (a 54)) (C := RX6) (T := TX6) (N := 8) hx hb hts in_Ma hown hK hP 0 rfl rfl 5 (by decide) ln_43 (fun _ h9 => h9) rfl dX6_cards_19 ?_
    refine lv_aload_n hx hb dX6_cards_22 rfl (lv_at hl 0 rfl) ?_
    refine va_get (D := D) (ci := 6) (v := .ref (a 2)) (C := RX6) (T := TX6) (N := 8) hx hb hts in_Ma hown hK hP 0 rfl rfl 0 (by decide) ln_10 (fun _ h9 => h9) rfl dX6_cards_23 ?_
    have hPc := fc26_P hP
    have hDc := fc26_D hD
    have hFc := fr_self hDc hS hA
    refine gv_i (va_runV (As := [.ref (a 2)]) (rest := []) ⟨hx, hb, hml, hown, hts⟩ (c_X1_goodOrders l D k (sh a 54) (sh a 2) S0.2.2.2.2.2.2 S0.2.1 H.size _ h) (cwV 1 hts gX6_cards_X1_goodOrders rfl rfl rfl (by decide +kernel) ⟨Nat.le_of_ble_eq_true rfl, Nat.le_of_ble_eq_true rfl⟩) (gv_preV hK hnw hPc hDc (ci := 1) rfl 0 rfl) rfl rfl hl.1 rfl (lv_room (Nat.le_of_ble_eq_true rfl)) dX6_cards_26 ⟨Nat.zero_le _, Nat.zero_le _⟩) hS hFc (fun r_2 w_5 H locs h hP1 hD1 hk1 hS => ?_)
    obtain ⟨u_3, u_4⟩ := w_5
    obtain ⟨hP, hD⟩ := fc26_J hP hD hk1 hFc hP1 hD1
    obtain ⟨S_6, e_7⟩ : ∃ z : CS, z = (xf (xe S0 u_3) u_4) := ⟨_, rfl⟩
    have h := h S_6 e_7
    have hP : va_P D vwCl (wMa k a S_6) H := by rw [e_7]; exact hP
    have hD : va_D A (wMa k a S_6) := by rw [e_7]; exact hD
    exact W.iret (v := r_2) hx hb hr (fun t ht hW => ⟨⟨r_2, S_6, rfl, h, by rw [ht]; exact hP, va_K.moved hW.alike hK, hD⟩, hS.F ht⟩) hS.2.2 dX6_cards_29
  · have h := h.2 c_1
    refine lv_aload_n hx hb dX6_cards_11 rfl (lv_at hl 0 rfl) ?_
    refine lv_bipush (v := (-6 : Int32)) hx hb dX6_cards_12 (by decide) ?_
    have hFc := fr_self hD hS hA
    refine gv_i (va_runV (As := [.int (-6 : Int32)]) (rest := []) ⟨hx, hb, hml, hown, hts⟩ (c_X6_refuse l D k a S0 H.size (-6 : Int32) _ h) (cwV 1 hts gX6_cards_X6_refuse rfl rfl rfl (by decide +kernel) ⟨Nat.le_of_ble_eq_true rfl, Nat.le_of_ble_eq_true rfl⟩) (gv_preV hK hnw hP hD (ci := 6) rfl 0 rfl) rfl rfl hl.1 rfl (lv_room (Nat.le_of_ble_eq_true rfl)) dX6_cards_14 ⟨Nat.zero_le _, Nat.zero_le _⟩) hS hFc (fun r_8 u_9 H locs h hP1 hD1 hk1 hS => ?_)
    have hP := hP1
    have hD := hD1.weaken (fun _ _ _ z => hFc _ z)
    exact W.iret (v := r_8) hx hb hr (fun t ht hW => ⟨⟨r_8, u_9, rfl, h, by rw [ht]; exact hP, va_K.moved hW.alike hK, hD⟩, hS.F ht⟩) hS.2.2 dX6_cards_17
/-! X6_clear -/
def wp_X6_clear (S0 : CS) (Q : Int32 → CS → Prop) : Prop := wp_X1_empty S0.2.2.2.2.2.2 (fun r_1 u_2 => ∀ S_3, S_3 = (xe S0 u_2) → (Q r_1 S_3))
abbrev rmX6_clear : Room := { frames := 1, cells := 0, slots := 0, locals := 21 }
set_option maxRecDepth 100000 in
set_option maxHeartbeats 4000000 in
theorem c_X6_clear (l : Launch) (D : va_G) (k : Nat → ClassId) (a : Nat → Nat) (S0 : CS) (sz : Nat) (Q : Int32 → CS → Prop) (h : wp_X6_clear S0 Q) : Met l yX6_clear wsX6_clear rmX6_clear (cPc D k (wMa k a S0) [.ref (a 0)] sz) (va_Qi (fun (r : Int32) (u : CS) => Q r u) (cB D k (va_A (wMa k a S0) sz) (fun u : CS => wMa k a u)) (va_A (wMa k a S0) sz)) 0 0 (va_A (wMa k a S0) sz) := by
  refine ct_entry (cc := cX6_clear) (maxL := 1) (ret := (some .int)) (Rn := RX6) (Qc := fun A => (va_Qi (fun (r : Int32) (u : CS) => Q r u) (cB D k A (fun u : CS => wMa k a u)) A)) (by decide) rfl rfl (Nat.le_of_ble_eq_true rfl) ?_
  intro p e s m below meth c hx hb hr hlocks hml hts hown hnw hK A hA H locs hP hD hS ls hl
  have hl : lv_has ls 1 [(0, .ref (a 0))] := hl
  have ln_43 := hts (.fieldLink RX6 43 "WithTheSameOne" "evening" "LWithTheSameOne$Evening;") (by decide +kernel)
  have in_Ma : ∀ w ∈ wsX60, w ∈ wsX6_clear := fun _ h => List.mem_cons_of_mem _ (List.mem_append_left _ (List.mem_append_right _ h))
  unfold wp_X6_clear at h
  refine lv_aload_n hx hb dX6_clear_0 rfl (lv_at hl 0 rfl) ?_
  refine va_get (D := D) (ci := 6) (v := .ref (a 54)) (C := RX6) (T := TX6) (N := 8) hx hb hts in_Ma hown hK hP 0 rfl rfl 5 (by decide) ln_43 (fun _ h9 => h9) rfl dX6_clear_1 ?_
  have hPc := fc25_P hP
  have hDc := fc25_D hD
  have hFc := fr_self hDc hS hA
  refine gv_i (va_runV (As := []) (rest := []) ⟨hx, hb, hml, hown, hts⟩ (c_X1_empty l D k (sh a 54) S0.2.2.2.2.2.2 H.size _ h) (cwV 0 hts gX6_clear_X1_empty rfl rfl rfl (by decide +kernel) ⟨Nat.le_of_ble_eq_true rfl, Nat.le_of_ble_eq_true rfl⟩) (gv_preV hK hnw hPc hDc (ci := 1) rfl 0 rfl) rfl rfl hl.1 rfl (lv_room (Nat.le_of_ble_eq_true rfl)) dX6_clear_4 ⟨Nat.zero_le _, Nat.zero_le _⟩) hS hFc (fun r_1 u_2 H locs h hP1 hD1 hk1 hS => ?_)
  obtain ⟨hP, hD⟩ := fc25_J hP hD hk1 hFc hP1 hD1
  obtain ⟨S_3, e_4⟩ : ∃ z : CS, z = (xe S0 u_2) := ⟨_, rfl⟩
  have h := h S_3 e_4
  have hP : va_P D vwCl (wMa k a S_3) H := by rw [e_4]; exact hP
  have hD : va_D A (wMa k a S_3) := by rw [e_4]; exact hD
  exact W.iret (v := r_1) hx hb hr (fun t ht hW => ⟨⟨r_1, S_3, rfl, h, by rw [ht]; exact hP, va_K.moved hW.alike hK, hD⟩, hS.F ht⟩) hS.2.2 dX6_clear_7
/-! X6_seeds -/
def wp_X6_seeds (S0 : CS) (x1 : Int32) (x2 : Int32) (Q : Int32 → CS → Prop) : Prop := (((1 : Int32) ≤ x1) → (((x1 ≤ (40 : Int32)) → (((¬ (S0.2.1.1 0) = 0) → (wp_X1_pairsBySeed S0.2.2.2.2.2.2 S0.2.1 x1 x2 (fun r_4 u_5 u_6 => ∀ S_8, S_8 = (xf (xe S0 u_5) u_6) → (Q r_4 S_8)))) ∧ (((S0.2.1.1 0) = 0) → (wp_X6_refuse S0 (-3 : Int32) (fun r_10 u_11 => Q r_10 u_11))))) ∧ ((¬ x1 ≤ (40 : Int32)) → (wp_X6_refuse S0 (-6 : Int32) (fun r_12 u_13 => Q r_12 u_13))))) ∧ ((¬ (1 : Int32) ≤ x1) → (wp_X6_refuse S0 (-4 : Int32) (fun r_14 u_15 => Q r_14 u_15)))
abbrev rmX6_seeds : Room := { frames := 6, cells := 0, slots := 0, locals := 147 }
set_option maxRecDepth 100000 in
set_option maxHeartbeats 4000000 in
theorem c_X6_seeds (l : Launch) (D : va_G) (k : Nat → ClassId) (a : Nat → Nat) (S0 : CS) (sz : Nat) (x1 : Int32) (x2 : Int32) (Q : Int32 → CS → Prop) (h : wp_X6_seeds S0 x1 x2 Q) : Met l yX6_seeds wsX6_seeds rmX6_seeds (cPc D k (wMa k a S0) [.ref (a 0), .int x1, .int x2] sz) (va_Qi (fun (r : Int32) (u : CS) => Q r u) (cB D k (va_A (wMa k a S0) sz) (fun u : CS => wMa k a u)) (va_A (wMa k a S0) sz)) 0 0 (va_A (wMa k a S0) sz) := by
  refine ct_entry (cc := cX6_seeds) (maxL := 3) (ret := (some .int)) (Rn := RX6) (Qc := fun A => (va_Qi (fun (r : Int32) (u : CS) => Q r u) (cB D k A (fun u : CS => wMa k a u)) A)) (by decide) rfl rfl (Nat.le_of_ble_eq_true rfl) ?_
  intro p e s m below meth c hx hb hr hlocks hml hts hown hnw hK A hA H locs hP hD hS ls hl
  have hl : lv_has ls 3 [(0, .ref (a 0)), (1, .int x1), (2, .int x2)] := hl
  have ln_10 := hts (.fieldLink RX6 10 "WithTheSameOne" "floor" "LWithTheSameOne$Floor;") (by decide +kernel)
  have ln_185 := hts (.fieldLink RX6 185 "WithTheSameOne$Floor" "size" "I") (by decide +kernel)
  have ln_43 := hts (.fieldLink RX6 43 "WithTheSameOne" "evening" "LWithTheSameOne$Evening;") (by decide +kernel)
  have in_Ma : ∀ w ∈ wsX60, w ∈ wsX6_seeds := fun _ h => List.mem_cons_of_mem _ (List.mem_append_left _ (List.mem_append_left _ (List.mem_append_right _ h)))
  have in_Fl : ∀ w ∈ wsX20, w ∈ wsX6_seeds := fun _ h => List.mem_cons_of_mem _ (List.mem_append_left _ (List.mem_append_right _ h))
  unfold wp_X6_seeds at h
  refine lv_iload_n hx hb dX6_seeds_0 rfl (lv_at hl 1 rfl) ?_
  refine lv_iconst (v := (1 : Int32)) hx hb dX6_seeds_1 (by decide) ?_
  refine lv_icmp_ge (tgt := 12) hx hb dX6_seeds_2 (by decide) (fun c_1 => ?_) (fun c_1 => ?_)
  · have h := h.1 c_1
    refine lv_iload_n hx hb dX6_seeds_12 rfl (lv_at hl 1 rfl) ?_
    refine lv_bipush (v := (40 : Int32)) hx hb dX6_seeds_13 (by decide) ?_
    refine lv_icmp_le (tgt := 25) hx hb dX6_seeds_15 (by decide) (fun c_2 => ?_) (fun c_2 => ?_)
    · have h := h.1 c_2
      refine lv_aload_n hx hb dX6_seeds_25 rfl (lv_at hl 0 rfl) ?_
      refine va_get (D := D) (ci := 6) (v := .ref (a 2)) (C := RX6) (T := TX6) (N := 8) hx hb hts in_Ma hown hK hP 0 rfl rfl 0 (by decide) ln_10 (fun _ h9 => h9) rfl dX6_seeds_26 ?_
      refine va_get (D := D) (ci := 2) (v := .int (S0.2.1.1 0)) (C := RX2) (T := TX2) (N := 6) hx hb hts in_Fl hown hK hP 2 rfl rfl 0 (by decide) ln_185 (fun _ h9 => h9) rfl dX6_seeds_29 ?_
      refine lv_if_ne (tgt := 42) hx hb dX6_seeds_32 (by decide) (fun c_3 => ?_) (fun c_3 => ?_)
      · have h := h.1 c_3
        refine lv_aload_n hx hb dX6_seeds_42 rfl (lv_at hl 0 rfl) ?_
        refine va_get (D := D) (ci := 6) (v := .ref (a 54)) (C := RX6) (T := TX6) (N := 8) hx hb hts in_Ma hown hK hP 0 rfl rfl 5 (by decide) ln_43 (fun _ h9 => h9) rfl dX6_seeds_43 ?_
        refine lv_aload_n hx hb dX6_seeds_46 rfl (lv_at hl 0 rfl) ?_
        refine va_get (D := D) (ci := 6) (v := .ref (a 2)) (C := RX6) (T := TX6) (N := 8) hx hb hts in_Ma hown hK hP 0 rfl rfl 0 (by decide) ln_10 (fun _ h9 => h9) rfl dX6_seeds_47 ?_
        refine lv_iload_n hx hb dX6_seeds_50 rfl (lv_at hl 1 rfl) ?_
        refine lv_iload_n hx hb dX6_seeds_51 rfl (lv_at hl 2 rfl) ?_
        have hPc := fc26_P hP
        have hDc := fc26_D hD
        have hFc := fr_self hDc hS hA
        refine gv_i (va_runV (As := [.ref (a 2), .int x1, .int x2]) (rest := []) ⟨hx, hb, hml, hown, hts⟩ (c_X1_pairsBySeed l D k (sh a 54) (sh a 2) S0.2.2.2.2.2.2 S0.2.1 H.size x1 x2 _ h) (cwV 3 hts gX6_seeds_X1_pairsBySeed rfl rfl rfl (by decide +kernel) ⟨Nat.le_of_ble_eq_true rfl, Nat.le_of_ble_eq_true rfl⟩) (gv_preV hK hnw hPc hDc (ci := 1) rfl 0 rfl) rfl rfl hl.1 rfl (lv_room (Nat.le_of_ble_eq_true rfl)) dX6_seeds_52 ⟨Nat.zero_le _, Nat.zero_le _⟩) hS hFc (fun r_4 w_7 H locs h hP1 hD1 hk1 hS => ?_)
        obtain ⟨u_5, u_6⟩ := w_7
        obtain ⟨hP, hD⟩ := fc26_J hP hD hk1 hFc hP1 hD1
        obtain ⟨S_8, e_9⟩ : ∃ z : CS, z = (xf (xe S0 u_5) u_6) := ⟨_, rfl⟩
        have h := h S_8 e_9
        have hP : va_P D vwCl (wMa k a S_8) H := by rw [e_9]; exact hP
        have hD : va_D A (wMa k a S_8) := by rw [e_9]; exact hD
        exact W.iret (v := r_4) hx hb hr (fun t ht hW => ⟨⟨r_4, S_8, rfl, h, by rw [ht]; exact hP, va_K.moved hW.alike hK, hD⟩, hS.F ht⟩) hS.2.2 dX6_seeds_55
      · have h := h.2 c_3
        refine lv_aload_n hx hb dX6_seeds_35 rfl (lv_at hl 0 rfl) ?_
        refine lv_bipush (v := (-3 : Int32)) hx hb dX6_seeds_36 (by decide) ?_
        have hFc := fr_self hD hS hA
        refine gv_i (va_runV (As := [.int (-3 : Int32)]) (rest := []) ⟨hx, hb, hml, hown, hts⟩ (c_X6_refuse l D k a S0 H.size (-3 : Int32) _ h) (cwV 1 hts gX6_seeds_X6_refuse rfl rfl rfl (by decide +kernel) ⟨Nat.le_of_ble_eq_true rfl, Nat.le_of_ble_eq_true rfl⟩) (gv_preV hK hnw hP hD (ci := 6) rfl 0 rfl) rfl rfl hl.1 rfl (lv_room (Nat.le_of_ble_eq_true rfl)) dX6_seeds_38 ⟨Nat.zero_le _, Nat.zero_le _⟩) hS hFc (fun r_10 u_11 H locs h hP1 hD1 hk1 hS => ?_)
        have hP := hP1
        have hD := hD1.weaken (fun _ _ _ z => hFc _ z)
        exact W.iret (v := r_10) hx hb hr (fun t ht hW => ⟨⟨r_10, u_11, rfl, h, by rw [ht]; exact hP, va_K.moved hW.alike hK, hD⟩, hS.F ht⟩) hS.2.2 dX6_seeds_41
    · have h := h.2 c_2
      refine lv_aload_n hx hb dX6_seeds_18 rfl (lv_at hl 0 rfl) ?_
      refine lv_bipush (v := (-6 : Int32)) hx hb dX6_seeds_19 (by decide) ?_
      have hFc := fr_self hD hS hA
      refine gv_i (va_runV (As := [.int (-6 : Int32)]) (rest := []) ⟨hx, hb, hml, hown, hts⟩ (c_X6_refuse l D k a S0 H.size (-6 : Int32) _ h) (cwV 1 hts gX6_seeds_X6_refuse rfl rfl rfl (by decide +kernel) ⟨Nat.le_of_ble_eq_true rfl, Nat.le_of_ble_eq_true rfl⟩) (gv_preV hK hnw hP hD (ci := 6) rfl 0 rfl) rfl rfl hl.1 rfl (lv_room (Nat.le_of_ble_eq_true rfl)) dX6_seeds_21 ⟨Nat.zero_le _, Nat.zero_le _⟩) hS hFc (fun r_12 u_13 H locs h hP1 hD1 hk1 hS => ?_)
      have hP := hP1
      have hD := hD1.weaken (fun _ _ _ z => hFc _ z)
      exact W.iret (v := r_12) hx hb hr (fun t ht hW => ⟨⟨r_12, u_13, rfl, h, by rw [ht]; exact hP, va_K.moved hW.alike hK, hD⟩, hS.F ht⟩) hS.2.2 dX6_seeds_24
  · have h := h.2 c_1
    refine lv_aload_n hx hb dX6_seeds_5 rfl (lv_at hl 0 rfl) ?_
    refine lv_bipush (v := (-4 : Int32)) hx hb dX6_seeds_6 (by decide) ?_
    have hFc := fr_self hD hS hA
    refine gv_i (va_runV (As := [.int (-4 : Int32)]) (rest := []) ⟨hx, hb, hml, hown, hts⟩ (c_X6_refuse l D k a S0 H.size (-4 : Int32) _ h) (cwV 1 hts gX6_seeds_X6_refuse rfl rfl rfl (by decide +kernel) ⟨Nat.le_of_ble_eq_true rfl, Nat.le_of_ble_eq_true rfl⟩) (gv_preV hK hnw hP hD (ci := 6) rfl 0 rfl) rfl rfl hl.1 rfl (lv_room (Nat.le_of_ble_eq_true rfl)) dX6_seeds_8 ⟨Nat.zero_le _, Nat.zero_le _⟩) hS hFc (fun r_14 u_15 H locs h hP1 hD1 hk1 hS => ?_)
    have hP := hP1
    have hD := hD1.weaken (fun _ _ _ z => hFc _ z)
    exact W.iret (v := r_14) hx hb hr (fun t ht hW => ⟨⟨r_14, u_15, rfl, h, by rw [ht]; exact hP, va_K.moved hW.alike hK, hD⟩, hS.F ht⟩) hS.2.2 dX6_seeds_11
/-! X6_image -/
def wp_X6_image (S0 : CS) (Q : Int32 → CS → Prop) : Prop := wp_X2_copyFrom S0.2.2.1 S0.2.1 (fun u_2 u_3 => ∀ S_5, S_5 = (xf (xt S0 u_2) u_3) → (∀ S_7, S_7 = (xo S_5 (sI S_5.1 7 (1 : Int32))) → (wp_X2_pairsDanced S_7.2.1 (fun r_9 u_10 => ∀ S_11, S_11 = (xf S_7 u_10) → (Q r_9 S_11)))))
abbrev rmX6_image : Room := { frames := 2, cells := 0, slots := 0, locals := 42 }
set_option maxRecDepth 100000 in
set_option maxHeartbeats 4000000 in
theorem c_X6_image (l : Launch) (D : va_G) (k : Nat → ClassId) (a : Nat → Nat) (S0 : CS) (sz : Nat) (Q : Int32 → CS → Prop) (h : wp_X6_image S0 Q) : Met l yX6_image wsX6_image rmX6_image (cPc D k (wMa k a S0) [.ref (a 0)] sz) (va_Qi (fun (r : Int32) (u : CS) => Q r u) (cB D k (va_A (wMa k a S0) sz) (fun u : CS => wMa k a u)) (va_A (wMa k a S0) sz)) 0 0 (va_A (wMa k a S0) sz) := by
  refine ct_entry (cc := cX6_image) (maxL := 1) (ret := (some .int)) (Rn := RX6) (Qc := fun A => (va_Qi (fun (r : Int32) (u : CS) => Q r u) (cB D k A (fun u : CS => wMa k a u)) A)) (by decide) rfl rfl (Nat.le_of_ble_eq_true rfl) ?_
  intro p e s m below meth c hx hb hr hlocks hml hts hown hnw hK A hA H locs hP hD hS ls hl
  have hl : lv_has ls 1 [(0, .ref (a 0))] := hl
  have ln_10 := hts (.fieldLink RX6 10 "WithTheSameOne" "floor" "LWithTheSameOne$Floor;") (by decide +kernel)
  have ln_16 := hts (.fieldLink RX6 16 "WithTheSameOne" "taken" "LWithTheSameOne$Floor;") (by decide +kernel)
  have ln_51 := hts (.fieldLink RX6 51 "WithTheSameOne" "imageTaken" "Z") (by decide +kernel)
  have in_Ma : ∀ w ∈ wsX60, w ∈ wsX6_image := fun _ h => List.mem_cons_of_mem _ (List.mem_append_left _ (List.mem_append_right _ h))
  unfold wp_X6_image at h
  refine lv_aload_n hx hb dX6_image_0 rfl (lv_at hl 0 rfl) ?_
  refine va_get (D := D) (ci := 6) (v := .ref (a 7)) (C := RX6) (T := TX6) (N := 8) hx hb hts in_Ma hown hK hP 0 rfl rfl 1 (by decide) ln_16 (fun _ h9 => h9) rfl dX6_image_1 ?_
  refine lv_aload_n hx hb dX6_image_4 rfl (lv_at hl 0 rfl) ?_
  refine va_get (D := D) (ci := 6) (v := .ref (a 2)) (C := RX6) (T := TX6) (N := 8) hx hb hts in_Ma hown hK hP 0 rfl rfl 0 (by decide) ln_10 (fun _ h9 => h9) rfl dX6_image_5 ?_
  have hPc := fc27_P hP
  have hDc := fc27_D hD
  have hFc := fr_self hDc hS hA
  refine gv_v (va_runV (As := [.ref (a 2)]) (rest := []) ⟨hx, hb, hml, hown, hts⟩ (c_X2_copyFrom l D k (sh a 7) (sh a 2) S0.2.2.1 S0.2.1 H.size _ h) (cwV 1 hts gX6_image_X2_copyFrom rfl rfl rfl (by decide +kernel) ⟨Nat.le_of_ble_eq_true rfl, Nat.le_of_ble_eq_true rfl⟩) (gv_preV hK hnw hPc hDc (ci := 2) rfl 0 rfl) rfl rfl hl.1 rfl (lv_room (Nat.le_of_ble_eq_true rfl)) dX6_image_8 ⟨Nat.zero_le _, Nat.zero_le _⟩) hS hFc (fun w_4 H locs h hP1 hD1 hk1 hS => ?_)
  obtain ⟨u_2, u_3⟩ := w_4
  obtain ⟨hP, hD⟩ := fc27_J hP hD hk1 hFc hP1 hD1
  obtain ⟨S_5, e_6⟩ : ∃ z : CS, z = (xf (xt S0 u_2) u_3) := ⟨_, rfl⟩
  have h := h S_5 e_6
  have hP : va_P D vwCl (wMa k a S_5) H := by rw [e_6]; exact hP
  have hD : va_D A (wMa k a S_5) := by rw [e_6]; exact hD
  refine lv_aload_n hx hb dX6_image_11 rfl (lv_at hl 0 rfl) ?_
  refine lv_iconst (v := (1 : Int32)) hx hb dX6_image_12 (by decide) ?_
  refine va_put (D := D) (ci := 6) (v := .int (1 : Int32)) (ty := .boolean) (C := RX6) (T := TX6) (N := 8) hx hb hts in_Ma tyX6 tyX6_ok nmX6 hown hK hP hD hS 0 rfl rfl 7 (by decide) ln_51 (fun _ h9 => h9) rfl (by decide +kernel) rfl rfl (Nat.le_of_ble_eq_true rfl) dX6_image_13 (fun H locs hP hD hS => ?_)
  obtain ⟨S_7, e_8⟩ : ∃ z : CS, z = (xo S_5 (sI S_5.1 7 (1 : Int32))) := ⟨_, rfl⟩
  have h := h S_7 e_8
  have hP : va_P D vwCl (wMa k a S_7) H := by rw [e_8]; exact hP
  have hD : va_D A (wMa k a S_7) := by rw [e_8]; exact hD
  refine lv_aload_n hx hb dX6_image_16 rfl (lv_at hl 0 rfl) ?_
  refine va_get (D := D) (ci := 6) (v := .ref (a 2)) (C := RX6) (T := TX6) (N := 8) hx hb hts in_Ma hown hK hP 0 rfl rfl 0 (by decide) ln_10 (fun _ h9 => h9) rfl dX6_image_17 ?_
  have hPc := fc22_P hP
  have hDc := fc22_D hD
  have hFc := fr_self hDc hS hA
  refine gv_i (va_runV (As := []) (rest := []) ⟨hx, hb, hml, hown, hts⟩ (c_X2_pairsDanced l D k (sh a 2) S_7.2.1 H.size _ h) (cwV 0 hts gX6_image_X2_pairsDanced rfl rfl rfl (by decide +kernel) ⟨Nat.le_of_ble_eq_true rfl, Nat.le_of_ble_eq_true rfl⟩) (gv_preV hK hnw hPc hDc (ci := 2) rfl 0 rfl) rfl rfl hl.1 rfl (lv_room (Nat.le_of_ble_eq_true rfl)) dX6_image_20 ⟨Nat.zero_le _, Nat.zero_le _⟩) hS hFc (fun r_9 u_10 H locs h hP1 hD1 hk1 hS => ?_)
  obtain ⟨hP, hD⟩ := fc22_J hP hD hk1 hFc hP1 hD1
  obtain ⟨S_11, e_12⟩ : ∃ z : CS, z = (xf S_7 u_10) := ⟨_, rfl⟩
  have h := h S_11 e_12
  have hP : va_P D vwCl (wMa k a S_11) H := by rw [e_12]; exact hP
  have hD : va_D A (wMa k a S_11) := by rw [e_12]; exact hD
  exact W.iret (v := r_9) hx hb hr (fun t ht hW => ⟨⟨r_9, S_11, rfl, h, by rw [ht]; exact hP, va_K.moved hW.alike hK, hD⟩, hS.F ht⟩) hS.2.2 dX6_image_23
/-! X6_restore -/
def wp_X6_restore (S0 : CS) (Q : Int32 → CS → Prop) : Prop := ((¬ (S0.1.1 7) = 0) → (wp_X2_copyFrom S0.2.1 S0.2.2.1 (fun u_3 u_4 => ∀ S_6, S_6 = (xt (xf S0 u_3) u_4) → (wp_X2_pairsDanced S_6.2.1 (fun r_8 u_9 => ∀ S_10, S_10 = (xf S_6 u_9) → (Q r_8 S_10)))))) ∧ (((S0.1.1 7) = 0) → (wp_X6_refuse S0 (-3 : Int32) (fun r_12 u_13 => Q r_12 u_13)))
abbrev rmX6_restore : Room := { frames := 2, cells := 0, slots := 0, locals := 42 }
set_option maxRecDepth 100000 in
set_option maxHeartbeats 4000000 in
theorem c_X6_restore (l : Launch) (D : va_G) (k : Nat → ClassId) (a : Nat → Nat) (S0 : CS) (sz : Nat) (Q : Int32 → CS → Prop) (h : wp_X6_restore S0 Q) : Met l yX6_restore wsX6_restore rmX6_restore (cPc D k (wMa k a S0) [.ref (a 0)] sz) (va_Qi (fun (r : Int32) (u : CS) => Q r u) (cB D k (va_A (wMa k a S0) sz) (fun u : CS => wMa k a u)) (va_A (wMa k a S0) sz)) 0 0 (va_A (wMa k a S0) sz) := by
  refine ct_entry (cc := cX6_restore) (maxL := 1) (ret := (some .int)) (Rn := RX6) (Qc := fun A => (va_Qi (fun (r : Int32) (u : CS) => Q r u) (cB D k A (fun u : CS => wMa k a u)) A)) (by decide) rfl rfl (Nat.le_of_ble_eq_true rfl) ?_
  intro p e s m below meth c hx hb hr hlocks hml hts hown hnw hK A hA H locs hP hD hS ls hl
  have hl : lv_has ls 1 [(0, .ref (a 0))] := hl
  have ln_10 := hts (.fieldLink RX6 10 "WithTheSameOne" "floor" "LWithTheSameOne$Floor;") (by decide +kernel)
  have ln_16 := hts (.fieldLink RX6 16 "WithTheSameOne" "taken" "LWithTheSameOne$Floor;") (by decide +kernel)
  have ln_51 := hts (.fieldLink RX6 51 "WithTheSameOne" "imageTaken" "Z") (by decide +kernel)
  have in_Ma : ∀ w ∈ wsX60, w ∈ wsX6_restore := fun _ h => List.mem_cons_of_mem _ (List.mem_append_left _ (List.mem_append_right _ h))
  unfold wp_X6_restore at h
  refine lv_aload_n hx hb dX6_restore_0 rfl (lv_at hl 0 rfl) ?_
  refine va_get (D := D) (ci := 6) (v := .int (S0.1.1 7)) (C := RX6) (T := TX6) (N := 8) hx hb hts in_Ma hown hK hP 0 rfl rfl 7 (by decide) ln_51 (fun _ h9 => h9) rfl dX6_restore_1 ?_
  refine lv_if_ne (tgt := 14) hx hb dX6_restore_4 (by decide) (fun c_1 => ?_) (fun c_1 => ?_)
  · have h := h.1 c_1
    refine lv_aload_n hx hb dX6_restore_14 rfl (lv_at hl 0 rfl) ?_
    refine va_get (D := D) (ci := 6) (v := .ref (a 2)) (C := RX6) (T := TX6) (N := 8) hx hb hts in_Ma hown hK hP 0 rfl rfl 0 (by decide) ln_10 (fun _ h9 => h9) rfl dX6_restore_15 ?_
    refine lv_aload_n hx hb dX6_restore_18 rfl (lv_at hl 0 rfl) ?_
    refine va_get (D := D) (ci := 6) (v := .ref (a 7)) (C := RX6) (T := TX6) (N := 8) hx hb hts in_Ma hown hK hP 0 rfl rfl 1 (by decide) ln_16 (fun _ h9 => h9) rfl dX6_restore_19 ?_
    have hPc := fc28_P hP
    have hDc := fc28_D hD
    have hFc := fr_self hDc hS hA
    refine gv_v (va_runV (As := [.ref (a 7)]) (rest := []) ⟨hx, hb, hml, hown, hts⟩ (c_X2_copyFrom l D k (sh a 2) (sh a 7) S0.2.1 S0.2.2.1 H.size _ h) (cwV 1 hts gX6_restore_X2_copyFrom rfl rfl rfl (by decide +kernel) ⟨Nat.le_of_ble_eq_true rfl, Nat.le_of_ble_eq_true rfl⟩) (gv_preV hK hnw hPc hDc (ci := 2) rfl 0 rfl) rfl rfl hl.1 rfl (lv_room (Nat.le_of_ble_eq_true rfl)) dX6_restore_22 ⟨Nat.zero_le _, Nat.zero_le _⟩) hS hFc (fun w_5 H locs h hP1 hD1 hk1 hS => ?_)
    obtain ⟨u_3, u_4⟩ := w_5
    obtain ⟨hP, hD⟩ := fc28_J hP hD hk1 hFc hP1 hD1
    obtain ⟨S_6, e_7⟩ : ∃ z : CS, z = (xt (xf S0 u_3) u_4) := ⟨_, rfl⟩
    have h := h S_6 e_7
    have hP : va_P D vwCl (wMa k a S_6) H := by rw [e_7]; exact hP
    have hD : va_D A (wMa k a S_6) := by rw [e_7]; exact hD
    refine lv_aload_n hx hb dX6_restore_25 rfl (lv_at hl 0 rfl) ?_
    refine va_get (D := D) (ci := 6) (v := .ref (a 2)) (C := RX6) (T := TX6) (N := 8) hx hb hts in_Ma hown hK hP 0 rfl rfl 0 (by decide) ln_10 (fun _ h9 => h9) rfl dX6_restore_26 ?_
    have hPc := fc22_P hP
    have hDc := fc22_D hD
    have hFc := fr_self hDc hS hA
    refine gv_i (va_runV (As := []) (rest := []) ⟨hx, hb, hml, hown, hts⟩ (c_X2_pairsDanced l D k (sh a 2) S_6.2.1 H.size _ h) (cwV 0 hts gX6_restore_X2_pairsDanced rfl rfl rfl (by decide +kernel) ⟨Nat.le_of_ble_eq_true rfl, Nat.le_of_ble_eq_true rfl⟩) (gv_preV hK hnw hPc hDc (ci := 2) rfl 0 rfl) rfl rfl hl.1 rfl (lv_room (Nat.le_of_ble_eq_true rfl)) dX6_restore_29 ⟨Nat.zero_le _, Nat.zero_le _⟩) hS hFc (fun r_8 u_9 H locs h hP1 hD1 hk1 hS => ?_)
    obtain ⟨hP, hD⟩ := fc22_J hP hD hk1 hFc hP1 hD1
    obtain ⟨S_10, e_11⟩ : ∃ z : CS, z = (xf S_6 u_9) := ⟨_, rfl⟩
    have h := h S_10 e_11
    have hP : va_P D vwCl (wMa k a S_10) H := by rw [e_11]; exact hP
    have hD : va_D A (wMa k a S_10) := by rw [e_11]; exact hD
    exact W.iret (v := r_8) hx hb hr (fun t ht hW => ⟨⟨r_8, S_10, rfl, h, by rw [ht]; exact hP, va_K.moved hW.alike hK, hD⟩, hS.F ht⟩) hS.2.2 dX6_restore_32
  · have h := h.2 c_1
    refine lv_aload_n hx hb dX6_restore_7 rfl (lv_at hl 0 rfl) ?_
    refine lv_bipush (v := (-3 : Int32)) hx hb dX6_restore_8 (by decide) ?_
    have hFc := fr_self hD hS hA
    refine gv_i (va_runV (As := [.int (-3 : Int32)]) (rest := []) ⟨hx, hb, hml, hown, hts⟩ (c_X6_refuse l D k a S0 H.size (-3 : Int32) _ h) (cwV 1 hts gX6_restore_X6_refuse rfl rfl rfl (by decide +kernel) ⟨Nat.le_of_ble_eq_true rfl, Nat.le_of_ble_eq_true rfl⟩) (gv_preV hK hnw hP hD (ci := 6) rfl 0 rfl) rfl rfl hl.1 rfl (lv_room (Nat.le_of_ble_eq_true rfl)) dX6_restore_10 ⟨Nat.zero_le _, Nat.zero_le _⟩) hS hFc (fun r_12 u_13 H locs h hP1 hD1 hk1 hS => ?_)
    have hP := hP1
    have hD := hD1.weaken (fun _ _ _ z => hFc _ z)
    exact W.iret (v := r_12) hx hb hr (fun t ht hW => ⟨⟨r_12, u_13, rfl, h, by rw [ht]; exact hP, va_K.moved hW.alike hK, hD⟩, hS.F ht⟩) hS.2.2 dX6_restore_13
/-! X6_count -/
def wp_X6_count_22 (x1 : Int32) (Q : Int32 → CS → Prop) (S0 : CS) : Prop := (x1 = (0 : Int32) → (Q (S0.2.1.1 0) S0)) ∧ (¬ x1 = (0 : Int32) → ((x1 = (1 : Int32) → (wp_X2_pairsDanced S0.2.1 (fun r_4 u_5 => ∀ S_6, S_6 = (xf S0 u_5) → (Q r_4 S_6)))) ∧ (¬ x1 = (1 : Int32) → ((x1 = (2 : Int32) → (wp_X2_pairsAllowed S0.2.1 (fun r_9 u_10 => ∀ S_11, S_11 = (xf S0 u_10) → (Q r_9 S_11)))) ∧ (¬ x1 = (2 : Int32) → ((x1 = (3 : Int32) → (Q (S0.2.1.1 1) S0)) ∧ (¬ x1 = (3 : Int32) → ((x1 = (4 : Int32) → (wp_X2_allBrought S0.2.1 (fun r_15 u_16 => ∀ S_17, S_17 = (xf S0 u_16) → (Q r_15 S_17)))) ∧ (¬ x1 = (4 : Int32) → ((x1 = (5 : Int32) → (Q (S0.2.2.2.1.1.1 0) S0)) ∧ (¬ x1 = (5 : Int32) → ((x1 = (6 : Int32) → (Q (S0.2.2.2.2.2.2.1.1 0) S0)) ∧ (¬ x1 = (6 : Int32) → (Q (-9 : Int32) S0))))))))))))))
def wp_X6_count (S0 : CS) (x1 : Int32) (Q : Int32 → CS → Prop) : Prop := ((x1 < (11 : Int32)) → (wp_X6_count_22 x1 Q S0)) ∧ ((¬ x1 < (11 : Int32)) → ((((16 : Int32) < x1) → (wp_X6_count_22 x1 Q S0)) ∧ ((¬ (16 : Int32) < x1) → (vp_in (x1 - (10 : Int32)) 7 ∧ (Q (S0.1.2 6 (x1 - (10 : Int32)).toNatClampNeg) S0)))))
abbrev rmX6_count : Room := { frames := 6, cells := 0, slots := 0, locals := 141 }
set_option maxRecDepth 100000 in
set_option maxHeartbeats 4000000 in
theorem c_X6_count (l : Launch) (D : va_G) (k : Nat → ClassId) (a : Nat → Nat) (S0 : CS) (sz : Nat) (x1 : Int32) (Q : Int32 → CS → Prop) (h : wp_X6_count S0 x1 Q) : Met l yX6_count wsX6_count rmX6_count (cPc D k (wMa k a S0) [.ref (a 0), .int x1] sz) (va_Qi (fun (r : Int32) (u : CS) => Q r u) (cB D k (va_A (wMa k a S0) sz) (fun u : CS => wMa k a u)) (va_A (wMa k a S0) sz)) 0 0 (va_A (wMa k a S0) sz) := by
  refine ct_entry (cc := cX6_count) (maxL := 2) (ret := (some .int)) (Rn := RX6) (Qc := fun A => (va_Qi (fun (r : Int32) (u : CS) => Q r u) (cB D k A (fun u : CS => wMa k a u)) A)) (by decide) rfl rfl (Nat.le_of_ble_eq_true rfl) ?_
  intro p e s m below meth c hx hb hr hlocks hml hts hown hnw hK A hA H locs hP hD hS ls hl
  have hl : lv_has ls 2 [(0, .ref (a 0)), (1, .int x1)] := hl
  have ln_10 := hts (.fieldLink RX6 10 "WithTheSameOne" "floor" "LWithTheSameOne$Floor;") (by decide +kernel)
  have ln_169 := hts (.fieldLink RX6 169 "WithTheSameOne$Evening" "size" "I") (by decide +kernel)
  have ln_185 := hts (.fieldLink RX6 185 "WithTheSameOne$Floor" "size" "I") (by decide +kernel)
  have ln_22 := hts (.fieldLink RX6 22 "WithTheSameOne" "letters" "LWithTheSameOne$Letters;") (by decide +kernel)
  have ln_43 := hts (.fieldLink RX6 43 "WithTheSameOne" "evening" "LWithTheSameOne$Evening;") (by decide +kernel)
  have ln_47 := hts (.fieldLink RX6 47 "WithTheSameOne" "refusals" "[I") (by decide +kernel)
  have ln_59 := hts (.fieldLink RX6 59 "WithTheSameOne$Letters" "length" "I") (by decide +kernel)
  have ln_94 := hts (.fieldLink RX6 94 "WithTheSameOne$Floor" "law" "I") (by decide +kernel)
  have in_Ma : ∀ w ∈ wsX60, w ∈ wsX6_count := fun _ h => List.mem_cons_of_mem _ (List.mem_append_left _ (List.mem_append_left _ (List.mem_append_left _ (List.mem_append_right _ h))))
  have in_Fl : ∀ w ∈ wsX20, w ∈ wsX6_count := fun _ h => List.mem_cons_of_mem _ (List.mem_append_left _ (List.mem_append_left _ (List.mem_append_right _ h)))
  have in_Le : ∀ w ∈ wsX40, w ∈ wsX6_count := fun _ h => List.mem_cons_of_mem _ (List.mem_append_left _ (List.mem_append_right _ h))
  have in_Ev : ∀ w ∈ wsX10, w ∈ wsX6_count := fun _ h => List.mem_cons_of_mem _ (List.mem_append_right _ h)
  have L_22 : ∀ (S0 : CS), ∀ (H : Heap) (locs : List Loc) (ls : Array Slot), va_P D vwCl (wMa k a S0) H → va_D A (wMa k a S0) → va_S A s.heap H locs → lv_has ls 2 [(0, .ref (a 0)), (1, .int x1)] → wp_X6_count_22 x1 Q S0 → W p l e rmX6_count s m ([.ref (a 0), .int x1] : List Value).toArray below meth c H locs 0 0 (MQ below (va_Qi (fun (r : Int32) (u : CS) => Q r u) (cB D k A (fun u : CS => wMa k a u)) A) ([.ref (a 0), .int x1] : List Value).toArray s 0 0 A) (F0 m 22 ls []) := by
    intro S0 H locs ls hP hD hS hl h
    unfold wp_X6_count_22 at h
    refine lv_iload_n hx hb dX6_count_22 rfl (lv_at hl 1 rfl) ?_
    by_cases c_2 : x1 = (0 : Int32)
    · have h := h.1 c_2
      refine lv_tableIn (off := 41) (tgt := 64) hx hb dX6_count_23 (by rw [c_2]; decide) (by rw [c_2]; decide) (by rw [c_2]; rfl) (by decide) ?_
      refine lv_aload_n hx hb dX6_count_64 rfl (lv_at hl 0 rfl) ?_
      refine va_get (D := D) (ci := 6) (v := .ref (a 2)) (C := RX6) (T := TX6) (N := 8) hx hb hts in_Ma hown hK hP 0 rfl rfl 0 (by decide) ln_10 (fun _ h9 => h9) rfl dX6_count_65 ?_
      refine va_get (D := D) (ci := 2) (v := .int (S0.2.1.1 0)) (C := RX2) (T := TX2) (N := 6) hx hb hts in_Fl hown hK hP 2 rfl rfl 0 (by decide) ln_185 (fun _ h9 => h9) rfl dX6_count_68 ?_
      exact W.iret (v := (S0.2.1.1 0)) hx hb hr (fun t ht hW => ⟨⟨(S0.2.1.1 0), S0, rfl, h, by rw [ht]; exact hP, va_K.moved hW.alike hK, hD⟩, hS.F ht⟩) hS.2.2 dX6_count_71
    · have h := h.2 c_2
      by_cases c_3 : x1 = (1 : Int32)
      · have h := h.1 c_3
        refine lv_tableIn (off := 49) (tgt := 72) hx hb dX6_count_23 (by rw [c_3]; decide) (by rw [c_3]; decide) (by rw [c_3]; rfl) (by decide) ?_
        refine lv_aload_n hx hb dX6_count_72 rfl (lv_at hl 0 rfl) ?_
        refine va_get (D := D) (ci := 6) (v := .ref (a 2)) (C := RX6) (T := TX6) (N := 8) hx hb hts in_Ma hown hK hP 0 rfl rfl 0 (by decide) ln_10 (fun _ h9 => h9) rfl dX6_count_73 ?_
        have hPc := fc22_P hP
        have hDc := fc22_D hD
        have hFc := fr_self hDc hS hA
        refine gv_i (va_runV (As := []) (rest := []) ⟨hx, hb, hml, hown, hts⟩ (c_X2_pairsDanced l D k (sh a 2) S0.2.1 H.size _ h) (cwV 0 hts gX6_count_X2_pairsDanced rfl rfl rfl (by decide +kernel) ⟨Nat.le_of_ble_eq_true rfl, Nat.le_of_ble_eq_true rfl⟩) (gv_preV hK hnw hPc hDc (ci := 2) rfl 0 rfl) rfl rfl hl.1 rfl (lv_room (Nat.le_of_ble_eq_true rfl)) dX6_count_76 ⟨Nat.zero_le _, Nat.zero_le _⟩) hS hFc (fun r_4 u_5 H locs h hP1 hD1 hk1 hS => ?_)
        obtain ⟨hP, hD⟩ := fc22_J hP hD hk1 hFc hP1 hD1
        obtain ⟨S_6, e_7⟩ : ∃ z : CS, z = (xf S0 u_5) := ⟨_, rfl⟩
        have h := h S_6 e_7
        have hP : va_P D vwCl (wMa k a S_6) H := by rw [e_7]; exact hP
        have hD : va_D A (wMa k a S_6) := by rw [e_7]; exact hD
        exact W.iret (v := r_4) hx hb hr (fun t ht hW => ⟨⟨r_4, S_6, rfl, h, by rw [ht]; exact hP, va_K.moved hW.alike hK, hD⟩, hS.F ht⟩) hS.2.2 dX6_count_79
      · have h := h.2 c_3
        by_cases c_8 : x1 = (2 : Int32)
        · have h := h.1 c_8
          refine lv_tableIn (off := 57) (tgt := 80) hx hb dX6_count_23 (by rw [c_8]; decide) (by rw [c_8]; decide) (by rw [c_8]; rfl) (by decide) ?_
          refine lv_aload_n hx hb dX6_count_80 rfl (lv_at hl 0 rfl) ?_
          refine va_get (D := D) (ci := 6) (v := .ref (a 2)) (C := RX6) (T := TX6) (N := 8) hx hb hts in_Ma hown hK hP 0 rfl rfl 0 (by decide) ln_10 (fun _ h9 => h9) rfl dX6_count_81 ?_
          have hPc := fc22_P hP
          have hDc := fc22_D hD
          have hFc := fr_self hDc hS hA
          refine gv_i (va_runV (As := []) (rest := []) ⟨hx, hb, hml, hown, hts⟩ (c_X2_pairsAllowed l D k (sh a 2) S0.2.1 H.size _ h) (cwV 0 hts gX6_count_X2_pairsAllowed rfl rfl rfl (by decide +kernel) ⟨Nat.le_of_ble_eq_true rfl, Nat.le_of_ble_eq_true rfl⟩) (gv_preV hK hnw hPc hDc (ci := 2) rfl 0 rfl) rfl rfl hl.1 rfl (lv_room (Nat.le_of_ble_eq_true rfl)) dX6_count_84 ⟨Nat.zero_le _, Nat.zero_le _⟩) hS hFc (fun r_9 u_10 H locs h hP1 hD1 hk1 hS => ?_)
          obtain ⟨hP, hD⟩ := fc22_J hP hD hk1 hFc hP1 hD1
          obtain ⟨S_11, e_12⟩ : ∃ z : CS, z = (xf S0 u_10) := ⟨_, rfl⟩
          have h := h S_11 e_12
          have hP : va_P D vwCl (wMa k a S_11) H := by rw [e_12]; exact hP
          have hD : va_D A (wMa k a S_11) := by rw [e_12]; exact hD
          exact W.iret (v := r_9) hx hb hr (fun t ht hW => ⟨⟨r_9, S_11, rfl, h, by rw [ht]; exact hP, va_K.moved hW.alike hK, hD⟩, hS.F ht⟩) hS.2.2 dX6_count_87
        · have h := h.2 c_8
          by_cases c_13 : x1 = (3 : Int32)
          · have h := h.1 c_13
            refine lv_tableIn (off := 65) (tgt := 88) hx hb dX6_count_23 (by rw [c_13]; decide) (by rw [c_13]; decide) (by rw [c_13]; rfl) (by decide) ?_
            refine lv_aload_n hx hb dX6_count_88 rfl (lv_at hl 0 rfl) ?_
            refine va_get (D := D) (ci := 6) (v := .ref (a 2)) (C := RX6) (T := TX6) (N := 8) hx hb hts in_Ma hown hK hP 0 rfl rfl 0 (by decide) ln_10 (fun _ h9 => h9) rfl dX6_count_89 ?_
            refine va_get (D := D) (ci := 2) (v := .int (S0.2.1.1 1)) (C := RX2) (T := TX2) (N := 6) hx hb hts in_Fl hown hK hP 2 rfl rfl 1 (by decide) ln_94 (fun _ h9 => h9) rfl dX6_count_92 ?_
            exact W.iret (v := (S0.2.1.1 1)) hx hb hr (fun t ht hW => ⟨⟨(S0.2.1.1 1), S0, rfl, h, by rw [ht]; exact hP, va_K.moved hW.alike hK, hD⟩, hS.F ht⟩) hS.2.2 dX6_count_95
          · have h := h.2 c_13
            by_cases c_14 : x1 = (4 : Int32)
            · have h := h.1 c_14
              refine lv_tableIn (off := 73) (tgt := 96) hx hb dX6_count_23 (by rw [c_14]; decide) (by rw [c_14]; decide) (by rw [c_14]; rfl) (by decide) ?_
              refine lv_aload_n hx hb dX6_count_96 rfl (lv_at hl 0 rfl) ?_
              refine va_get (D := D) (ci := 6) (v := .ref (a 2)) (C := RX6) (T := TX6) (N := 8) hx hb hts in_Ma hown hK hP 0 rfl rfl 0 (by decide) ln_10 (fun _ h9 => h9) rfl dX6_count_97 ?_
              have hPc := fc22_P hP
              have hDc := fc22_D hD
              have hFc := fr_self hDc hS hA
              refine gv_i (va_runV (As := []) (rest := []) ⟨hx, hb, hml, hown, hts⟩ (c_X2_allBrought l D k (sh a 2) S0.2.1 H.size _ h) (cwV 0 hts gX6_count_X2_allBrought rfl rfl rfl (by decide +kernel) ⟨Nat.le_of_ble_eq_true rfl, Nat.le_of_ble_eq_true rfl⟩) (gv_preV hK hnw hPc hDc (ci := 2) rfl 0 rfl) rfl rfl hl.1 rfl (lv_room (Nat.le_of_ble_eq_true rfl)) dX6_count_100 ⟨Nat.zero_le _, Nat.zero_le _⟩) hS hFc (fun r_15 u_16 H locs h hP1 hD1 hk1 hS => ?_)
              obtain ⟨hP, hD⟩ := fc22_J hP hD hk1 hFc hP1 hD1
              obtain ⟨S_17, e_18⟩ : ∃ z : CS, z = (xf S0 u_16) := ⟨_, rfl⟩
              have h := h S_17 e_18
              have hP : va_P D vwCl (wMa k a S_17) H := by rw [e_18]; exact hP
              have hD : va_D A (wMa k a S_17) := by rw [e_18]; exact hD
              exact W.iret (v := r_15) hx hb hr (fun t ht hW => ⟨⟨r_15, S_17, rfl, h, by rw [ht]; exact hP, va_K.moved hW.alike hK, hD⟩, hS.F ht⟩) hS.2.2 dX6_count_103
            · have h := h.2 c_14
              by_cases c_19 : x1 = (5 : Int32)
              · have h := h.1 c_19
                refine lv_tableIn (off := 81) (tgt := 104) hx hb dX6_count_23 (by rw [c_19]; decide) (by rw [c_19]; decide) (by rw [c_19]; rfl) (by decide) ?_
                refine lv_aload_n hx hb dX6_count_104 rfl (lv_at hl 0 rfl) ?_
                refine va_get (D := D) (ci := 6) (v := .ref (a 12)) (C := RX6) (T := TX6) (N := 8) hx hb hts in_Ma hown hK hP 0 rfl rfl 2 (by decide) ln_22 (fun _ h9 => h9) rfl dX6_count_105 ?_
                refine va_get (D := D) (ci := 4) (v := .int (S0.2.2.2.1.1.1 0)) (C := RX4) (T := TX4) (N := 3) hx hb hts in_Le hown hK hP 12 rfl rfl 0 (by decide) ln_59 (fun _ h9 => h9) rfl dX6_count_108 ?_
                exact W.iret (v := (S0.2.2.2.1.1.1 0)) hx hb hr (fun t ht hW => ⟨⟨(S0.2.2.2.1.1.1 0), S0, rfl, h, by rw [ht]; exact hP, va_K.moved hW.alike hK, hD⟩, hS.F ht⟩) hS.2.2 dX6_count_111
              · have h := h.2 c_19
                by_cases c_20 : x1 = (6 : Int32)
                · have h := h.1 c_20
                  refine lv_tableIn (off := 89) (tgt := 112) hx hb dX6_count_23 (by rw [c_20]; decide) (by rw [c_20]; decide) (by rw [c_20]; rfl) (by decide) ?_
                  refine lv_aload_n hx hb dX6_count_112 rfl (lv_at hl 0 rfl) ?_
                  refine va_get (D := D) (ci := 6) (v := .ref (a 54)) (C := RX6) (T := TX6) (N := 8) hx hb hts in_Ma hown hK hP 0 rfl rfl 5 (by decide) ln_43 (fun _ h9 => h9) rfl dX6_count_113 ?_
                  refine va_get (D := D) (ci := 1) (v := .int (S0.2.2.2.2.2.2.1.1 0)) (C := RX1) (T := TX1) (N := 3) hx hb hts in_Ev hown hK hP 54 rfl rfl 0 (by decide) ln_169 (fun _ h9 => h9) rfl dX6_count_116 ?_
                  exact W.iret (v := (S0.2.2.2.2.2.2.1.1 0)) hx hb hr (fun t ht hW => ⟨⟨(S0.2.2.2.2.2.2.1.1 0), S0, rfl, h, by rw [ht]; exact hP, va_K.moved hW.alike hK, hD⟩, hS.F ht⟩) hS.2.2 dX6_count_119
                · have h := h.2 c_20
                  refine lv_tableD (tgt := 120) hx hb dX6_count_23 (by
      have n0 := lv_neT (k := (0 : Int32)) (a := 0) c_2 (by decide)
      have n1 := lv_neT (k := (1 : Int32)) (a := 1) c_3 (by decide)
      have n2 := lv_neT (k := (2 : Int32)) (a := 2) c_8 (by decide)
      have n3 := lv_neT (k := (3 : Int32)) (a := 3) c_13 (by decide)
      have n4 := lv_neT (k := (4 : Int32)) (a := 4) c_14 (by decide)
      have n5 := lv_neT (k := (5 : Int32)) (a := 5) c_19 (by decide)
      have n6 := lv_neT (k := (6 : Int32)) (a := 6) c_20 (by decide)
      rcases (show x1.toInt < 0 ∨ 6 < x1.toInt by omega) with q | q
      · exact Or.inl q
      · exact Or.inr (Or.inl q)) (by decide) ?_
                  refine lv_bipush (v := (-9 : Int32)) hx hb dX6_count_120 (by decide) ?_
                  exact W.iret (v := (-9 : Int32)) hx hb hr (fun t ht hW => ⟨⟨(-9 : Int32), S0, rfl, h, by rw [ht]; exact hP, va_K.moved hW.alike hK, hD⟩, hS.F ht⟩) hS.2.2 dX6_count_122
  unfold wp_X6_count at h
  refine lv_iload_n hx hb dX6_count_0 rfl (lv_at hl 1 rfl) ?_
  refine lv_bipush (v := (11 : Int32)) hx hb dX6_count_1 (by decide) ?_
  refine lv_icmp_lt (tgt := 22) hx hb dX6_count_3 (by decide) (fun c_1 => ?_) (fun c_1 => ?_)
  · have h := h.1 c_1
    exact L_22 S0 H locs ls hP hD hS (lv_sub hl [0, 1] rfl) h
  · have h := h.2 c_1
    refine lv_iload_n hx hb dX6_count_6 rfl (lv_at hl 1 rfl) ?_
    refine lv_bipush (v := (16 : Int32)) hx hb dX6_count_7 (by decide) ?_
    refine lv_icmp_gt (tgt := 22) hx hb dX6_count_9 (by decide) (fun c_21 => ?_) (fun c_21 => ?_)
    · have h := h.1 c_21
      exact L_22 S0 H locs ls hP hD hS (lv_sub hl [0, 1] rfl) h
    · have h := h.2 c_21
      refine lv_aload_n hx hb dX6_count_12 rfl (lv_at hl 0 rfl) ?_
      refine va_get (D := D) (ci := 6) (v := .ref (a 1)) (C := RX6) (T := TX6) (N := 8) hx hb hts in_Ma hown hK hP 0 rfl rfl 6 (by decide) ln_47 (fun _ h9 => h9) rfl dX6_count_13 ?_
      refine lv_iload_n hx hb dX6_count_16 rfl (lv_at hl 1 rfl) ?_
      refine lv_bipush (v := (10 : Int32)) hx hb dX6_count_17 (by decide) ?_
      refine lv_isub hx hb dX6_count_19 ?_
      refine va_iald hx hb hK hP 1 0 rfl rfl h.1 dX6_count_20 ?_
      have h := h.2
      exact W.iret (v := (S0.1.2 6 (x1 - (10 : Int32)).toNatClampNeg)) hx hb hr (fun t ht hW => ⟨⟨(S0.1.2 6 (x1 - (10 : Int32)).toNatClampNeg), S0, rfl, h, by rw [ht]; exact hP, va_K.moved hW.alike hK, hD⟩, hS.F ht⟩) hS.2.2 dX6_count_21
/-! X7_no -/
def wp_X7_no (S0 : St) (x1 : Int32) (Q : Int32 → St → Prop) : Prop := vp_in (-x1) 7 ∧ (vp_in (-x1) 7 ∧ (∀ S_1, S_1 = (sA S0 0 (-x1).toNatClampNeg ((S0.2 0 (-x1).toNatClampNeg) + (1 : Int32))) → (Q x1 S_1)))
abbrev rmX7_no : Room := { frames := 0, cells := 0, slots := 0, locals := 0 }
set_option maxRecDepth 100000 in
set_option maxHeartbeats 4000000 in
theorem c_X7_no (l : Launch) (D : va_G) (k : Nat → ClassId) (a : Nat → Nat) (S0 : St) (sz : Nat) (x1 : Int32) (Q : Int32 → St → Prop) (h : wp_X7_no S0 x1 Q) : Met l yX7_no wsX7_no rmX7_no (cPc D k (wMo k a S0) [.ref (a 0), .int x1] sz) (va_Qi (fun (r : Int32) (u : St) => Q r u) (cB D k (va_A (wMo k a S0) sz) (fun u : St => wMo k a u)) (va_A (wMo k a S0) sz)) 0 0 (va_A (wMo k a S0) sz) := by
  refine ct_entry (cc := cX7_no) (maxL := 2) (ret := (some .int)) (Rn := RX7) (Qc := fun A => (va_Qi (fun (r : Int32) (u : St) => Q r u) (cB D k A (fun u : St => wMo k a u)) A)) (by decide) rfl rfl (Nat.le_of_ble_eq_true rfl) ?_
  intro p e s m below meth c hx hb hr hlocks hml hts hown hnw hK A hA H locs hP hD hS ls hl
  have hl : lv_has ls 2 [(0, .ref (a 0)), (1, .int x1)] := hl
  have ln_7 := hts (.fieldLink RX7 7 "WithTheSameOneModel" "refused" "[I") (by decide +kernel)
  have in_Mo : ∀ w ∈ wsX70, w ∈ wsX7_no := fun _ h => List.mem_cons_of_mem _ (List.mem_append_right _ h)
  unfold wp_X7_no at h
  refine lv_aload_n hx hb dX7_no_0 rfl (lv_at hl 0 rfl) ?_
  refine va_get (D := D) (ci := 7) (v := .ref (a 1)) (C := RX7) (T := TX7) (N := 33) hx hb hts in_Mo hown hK hP 0 rfl rfl 0 (by decide) ln_7 (fun _ h9 => h9) rfl dX7_no_1 ?_
  refine lv_iload_n hx hb dX7_no_4 rfl (lv_at hl 1 rfl) ?_
  refine lv_ineg hx hb dX7_no_5 ?_
  refine lv_dup2_11 hx hb dX7_no_6 rfl rfl ?_
  refine va_iald hx hb hK hP 1 0 rfl rfl h.1 dX7_no_7 ?_
  have h := h.2
  refine lv_iconst (v := (1 : Int32)) hx hb dX7_no_8 (by decide) ?_
  refine lv_iadd hx hb dX7_no_9 ?_
  refine va_iast hx hb hK hP hD hS 1 0 rfl rfl h.1 dX7_no_10 (fun H locs hP hD hS => ?_)
  have h := h.2
  obtain ⟨S_1, e_2⟩ : ∃ z : St, z = (sA S0 0 (-x1).toNatClampNeg ((S0.2 0 (-x1).toNatClampNeg) + (1 : Int32))) := ⟨_, rfl⟩
  have h := h S_1 e_2
  have hP : va_P D vwCl (wMo k a S_1) H := by rw [e_2]; exact hP
  have hD : va_D A (wMo k a S_1) := by rw [e_2]; exact hD
  refine lv_iload_n hx hb dX7_no_11 rfl (lv_at hl 1 rfl) ?_
  exact W.iret (v := x1) hx hb hr (fun t ht hW => ⟨⟨x1, S_1, rfl, h, by rw [ht]; exact hP, va_K.moved hW.alike hK, hD⟩, hS.F ht⟩) hS.2.2 dX7_no_12
/-! X7_isIn -/
def wp_X7_isIn (x0 : Int32) (x1 : Int32) (x2 : Int32) (Q : Int32 → Prop) : Prop := ((x0 < x1) → (Q (0 : Int32))) ∧ ((¬ x0 < x1) → (((x2 < x0) → (Q (0 : Int32))) ∧ ((¬ x2 < x0) → (Q (1 : Int32)))))
abbrev rmX7_isIn : Room := { frames := 0, cells := 0, slots := 0, locals := 0 }
set_option maxRecDepth 100000 in
set_option maxHeartbeats 4000000 in
theorem c_X7_isIn (l : Launch) (x0 : Int32) (x1 : Int32) (x2 : Int32) (Q : Int32 → Prop) (h : wp_X7_isIn x0 x1 x2 Q) : Met l yX7_isIn wsX7_isIn rmX7_isIn (fun v _ => v = ([.int x0, .int x1, .int x2] : List Value).toArray) (vp_Si Q) 0 0 (fun _ => False) := by
  refine cs_entry (cc := cX7_isIn) (maxL := 3) (ret := (some .boolean)) (Rn := RX7) (by decide) rfl rfl (Nat.le_of_ble_eq_true rfl) ?_
  intro p e s m below meth c hx hb hr hlocks hml hts hown ls hl
  have hl : lv_has ls 3 [(0, .int x0), (1, .int x1), (2, .int x2)] := hl
  unfold wp_X7_isIn at h
  refine lv_iload_n hx hb dX7_isIn_0 rfl (lv_at hl 0 rfl) ?_
  refine lv_iload_n hx hb dX7_isIn_1 rfl (lv_at hl 1 rfl) ?_
  refine lv_icmp_lt (tgt := 14) hx hb dX7_isIn_2 (by decide) (fun c_1 => ?_) (fun c_1 => ?_)
  · have h := h.1 c_1
    refine lv_iconst (v := (0 : Int32)) hx hb dX7_isIn_14 (by decide) ?_
    exact W.zret (v := (0 : Int32)) hx hb hr rfl (fun t ht hW => ⟨(0 : Int32), rfl, h, ht⟩) (fun q hq => by cases hq) dX7_isIn_15
  · have h := h.2 c_1
    refine lv_iload_n hx hb dX7_isIn_5 rfl (lv_at hl 0 rfl) ?_
    refine lv_iload_n hx hb dX7_isIn_6 rfl (lv_at hl 2 rfl) ?_
    refine lv_icmp_gt (tgt := 14) hx hb dX7_isIn_7 (by decide) (fun c_2 => ?_) (fun c_2 => ?_)
    · have h := h.1 c_2
      refine lv_iconst (v := (0 : Int32)) hx hb dX7_isIn_14 (by decide) ?_
      exact W.zret (v := (0 : Int32)) hx hb hr rfl (fun t ht hW => ⟨(0 : Int32), rfl, h, ht⟩) (fun q hq => by cases hq) dX7_isIn_15
    · have h := h.2 c_2
      refine lv_iconst (v := (1 : Int32)) hx hb dX7_isIn_10 (by decide) ?_
      refine lv_goto (tgt := 15) hx hb dX7_isIn_11 (by decide) ?_
      exact W.zret (v := (1 : Int32)) hx hb hr rfl (fun t ht hW => ⟨(1 : Int32), rfl, h, ht⟩) (fun q hq => by cases hq) dX7_isIn_15
/-! X7_bound -/
def wp_X7_bound (x0 : Int32) (x1 : Int32) (x2 : Int32) (Q : Int32 → Prop) : Prop := ((x1 ≤ x0) → (((x0 ≤ x2) → (Q (0 : Int32))) ∧ ((¬ x0 ≤ x2) → (Q (-6 : Int32))))) ∧ ((¬ x1 ≤ x0) → (Q (-4 : Int32)))
abbrev rmX7_bound : Room := { frames := 0, cells := 0, slots := 0, locals := 0 }
set_option maxRecDepth 100000 in
set_option maxHeartbeats 4000000 in
theorem c_X7_bound (l : Launch) (x0 : Int32) (x1 : Int32) (x2 : Int32) (Q : Int32 → Prop) (h : wp_X7_bound x0 x1 x2 Q) : Met l yX7_bound wsX7_bound rmX7_bound (fun v _ => v = ([.int x0, .int x1, .int x2] : List Value).toArray) (vp_Si Q) 0 0 (fun _ => False) := by
  refine cs_entry (cc := cX7_bound) (maxL := 3) (ret := (some .int)) (Rn := RX7) (by decide) rfl rfl (Nat.le_of_ble_eq_true rfl) ?_
  intro p e s m below meth c hx hb hr hlocks hml hts hown ls hl
  have hl : lv_has ls 3 [(0, .int x0), (1, .int x1), (2, .int x2)] := hl
  unfold wp_X7_bound at h
  refine lv_iload_n hx hb dX7_bound_0 rfl (lv_at hl 0 rfl) ?_
  refine lv_iload_n hx hb dX7_bound_1 rfl (lv_at hl 1 rfl) ?_
  refine lv_icmp_ge (tgt := 10) hx hb dX7_bound_2 (by decide) (fun c_1 => ?_) (fun c_1 => ?_)
  · have h := h.1 c_1
    refine lv_iload_n hx hb dX7_bound_10 rfl (lv_at hl 0 rfl) ?_
    refine lv_iload_n hx hb dX7_bound_11 rfl (lv_at hl 2 rfl) ?_
    refine lv_icmp_le (tgt := 20) hx hb dX7_bound_12 (by decide) (fun c_2 => ?_) (fun c_2 => ?_)
    · have h := h.1 c_2
      refine lv_iconst (v := (0 : Int32)) hx hb dX7_bound_20 (by decide) ?_
      exact W.iret (v := (0 : Int32)) hx hb hr (fun t ht hW => ⟨(0 : Int32), rfl, h, ht⟩) (fun q hq => by cases hq) dX7_bound_21
    · have h := h.2 c_2
      refine lv_bipush (v := (-6 : Int32)) hx hb dX7_bound_15 (by decide) ?_
      refine lv_goto (tgt := 21) hx hb dX7_bound_17 (by decide) ?_
      exact W.iret (v := (-6 : Int32)) hx hb hr (fun t ht hW => ⟨(-6 : Int32), rfl, h, ht⟩) (fun q hq => by cases hq) dX7_bound_21
  · have h := h.2 c_1
    refine lv_bipush (v := (-4 : Int32)) hx hb dX7_bound_5 (by decide) ?_
    refine lv_goto (tgt := 21) hx hb dX7_bound_7 (by decide) ?_
    exact W.iret (v := (-4 : Int32)) hx hb hr (fun t ht hW => ⟨(-4 : Int32), rfl, h, ht⟩) (fun q hq => by cases hq) dX7_bound_21
/-! X7_isDancer -/
def wp_X7_isDancer (S0 : St) (x1 : Int32) (Q : Int32 → St → Prop) : Prop := ((x1 < 0) → (Q (0 : Int32) S0)) ∧ ((¬ x1 < 0) → ((((S0.1 5) ≤ x1) → (Q (0 : Int32) S0)) ∧ ((¬ (S0.1 5) ≤ x1) → (Q (1 : Int32) S0))))
abbrev rmX7_isDancer : Room := { frames := 0, cells := 0, slots := 0, locals := 0 }
set_option maxRecDepth 100000 in
set_option maxHeartbeats 4000000 in
theorem c_X7_isDancer (l : Launch) (D : va_G) (k : Nat → ClassId) (a : Nat → Nat) (S0 : St) (sz : Nat) (x1 : Int32) (Q : Int32 → St → Prop) (h : wp_X7_isDancer S0 x1 Q) : Met l yX7_isDancer wsX7_isDancer rmX7_isDancer (cPc D k (wMo k a S0) [.ref (a 0), .int x1] sz) (va_Qi (fun (r : Int32) (u : St) => Q r u) (cB D k (va_A (wMo k a S0) sz) (fun u : St => wMo k a u)) (va_A (wMo k a S0) sz)) 0 0 (va_A (wMo k a S0) sz) := by
  refine ct_entry (cc := cX7_isDancer) (maxL := 2) (ret := (some .boolean)) (Rn := RX7) (Qc := fun A => (va_Qi (fun (r : Int32) (u : St) => Q r u) (cB D k A (fun u : St => wMo k a u)) A)) (by decide) rfl rfl (Nat.le_of_ble_eq_true rfl) ?_
  intro p e s m below meth c hx hb hr hlocks hml hts hown hnw hK A hA H locs hP hD hS ls hl
  have hl : lv_has ls 2 [(0, .ref (a 0)), (1, .int x1)] := hl
  have ln_70 := hts (.fieldLink RX7 70 "WithTheSameOneModel" "dancers" "I") (by decide +kernel)
  have in_Mo : ∀ w ∈ wsX70, w ∈ wsX7_isDancer := fun _ h => List.mem_cons_of_mem _ (List.mem_append_right _ h)
  unfold wp_X7_isDancer at h
  refine lv_iload_n hx hb dX7_isDancer_0 rfl (lv_at hl 1 rfl) ?_
  refine lv_if_lt (tgt := 16) hx hb dX7_isDancer_1 (by decide) (fun c_1 => ?_) (fun c_1 => ?_)
  · have h := h.1 c_1
    refine lv_iconst (v := (0 : Int32)) hx hb dX7_isDancer_16 (by decide) ?_
    exact W.zret (v := (0 : Int32)) hx hb hr rfl (fun t ht hW => ⟨⟨(0 : Int32), S0, rfl, h, by rw [ht]; exact hP, va_K.moved hW.alike hK, hD⟩, hS.F ht⟩) hS.2.2 dX7_isDancer_17
  · have h := h.2 c_1
    refine lv_iload_n hx hb dX7_isDancer_4 rfl (lv_at hl 1 rfl) ?_
    refine lv_aload_n hx hb dX7_isDancer_5 rfl (lv_at hl 0 rfl) ?_
    refine va_get (D := D) (ci := 7) (v := .int (S0.1 5)) (C := RX7) (T := TX7) (N := 33) hx hb hts in_Mo hown hK hP 0 rfl rfl 5 (by decide) ln_70 (fun _ h9 => h9) rfl dX7_isDancer_6 ?_
    refine lv_icmp_ge (tgt := 16) hx hb dX7_isDancer_9 (by decide) (fun c_2 => ?_) (fun c_2 => ?_)
    · have h := h.1 c_2
      refine lv_iconst (v := (0 : Int32)) hx hb dX7_isDancer_16 (by decide) ?_
      exact W.zret (v := (0 : Int32)) hx hb hr rfl (fun t ht hW => ⟨⟨(0 : Int32), S0, rfl, h, by rw [ht]; exact hP, va_K.moved hW.alike hK, hD⟩, hS.F ht⟩) hS.2.2 dX7_isDancer_17
    · have h := h.2 c_2
      refine lv_iconst (v := (1 : Int32)) hx hb dX7_isDancer_12 (by decide) ?_
      refine lv_goto (tgt := 17) hx hb dX7_isDancer_13 (by decide) ?_
      exact W.zret (v := (1 : Int32)) hx hb hr rfl (fun t ht hW => ⟨⟨(1 : Int32), S0, rfl, h, by rw [ht]; exact hP, va_K.moved hW.alike hK, hD⟩, hS.F ht⟩) hS.2.2 dX7_isDancer_17
/-! X7_areTwo -/
def wp_X7_areTwo (S0 : St) (x1 : Int32) (x2 : Int32) (Q : Int32 → St → Prop) : Prop := wp_X7_isDancer S0 x1 (fun r_1 u_2 => ((r_1 = 0) → (Q (0 : Int32) u_2)) ∧ ((¬ r_1 = 0) → (wp_X7_isDancer u_2 x2 (fun r_4 u_5 => ((r_4 = 0) → (Q (0 : Int32) u_5)) ∧ ((¬ r_4 = 0) → (((x1 = x2) → (Q (0 : Int32) u_5)) ∧ ((¬ x1 = x2) → (Q (1 : Int32) u_5))))))))
abbrev rmX7_areTwo : Room := { frames := 1, cells := 0, slots := 0, locals := 21 }
set_option maxRecDepth 100000 in
set_option maxHeartbeats 4000000 in
theorem c_X7_areTwo (l : Launch) (D : va_G) (k : Nat → ClassId) (a : Nat → Nat) (S0 : St) (sz : Nat) (x1 : Int32) (x2 : Int32) (Q : Int32 → St → Prop) (h : wp_X7_areTwo S0 x1 x2 Q) : Met l yX7_areTwo wsX7_areTwo rmX7_areTwo (cPc D k (wMo k a S0) [.ref (a 0), .int x1, .int x2] sz) (va_Qi (fun (r : Int32) (u : St) => Q r u) (cB D k (va_A (wMo k a S0) sz) (fun u : St => wMo k a u)) (va_A (wMo k a S0) sz)) 0 0 (va_A (wMo k a S0) sz) := by
  refine ct_entry (cc := cX7_areTwo) (maxL := 3) (ret := (some .boolean)) (Rn := RX7) (Qc := fun A => (va_Qi (fun (r : Int32) (u : St) => Q r u) (cB D k A (fun u : St => wMo k a u)) A)) (by decide) rfl rfl (Nat.le_of_ble_eq_true rfl) ?_
  intro p e s m below meth c hx hb hr hlocks hml hts hown hnw hK A hA H locs hP hD hS ls hl
  have hl : lv_has ls 3 [(0, .ref (a 0)), (1, .int x1), (2, .int x2)] := hl
  unfold wp_X7_areTwo at h
  refine lv_aload_n hx hb dX7_areTwo_0 rfl (lv_at hl 0 rfl) ?_
  refine lv_iload_n hx hb dX7_areTwo_1 rfl (lv_at hl 1 rfl) ?_
  have hFc := fr_self hD hS hA
  refine gv_i (va_runV (As := [.int x1]) (rest := []) ⟨hx, hb, hml, hown, hts⟩ (c_X7_isDancer l D k a S0 H.size x1 _ h) (cwV 1 hts gX7_areTwo_X7_isDancer rfl rfl rfl (by decide +kernel) ⟨Nat.le_of_ble_eq_true rfl, Nat.le_of_ble_eq_true rfl⟩) (gv_preV hK hnw hP hD (ci := 7) rfl 0 rfl) rfl rfl hl.1 rfl (lv_room (Nat.le_of_ble_eq_true rfl)) dX7_areTwo_2 ⟨Nat.zero_le _, Nat.zero_le _⟩) hS hFc (fun r_1 u_2 H locs h hP1 hD1 hk1 hS => ?_)
  have hP := hP1
  have hD := hD1.weaken (fun _ _ _ z => hFc _ z)
  refine lv_if_eq (tgt := 25) hx hb dX7_areTwo_5 (by decide) (fun c_3 => ?_) (fun c_3 => ?_)
  · have h := h.1 c_3
    refine lv_iconst (v := (0 : Int32)) hx hb dX7_areTwo_25 (by decide) ?_
    exact W.zret (v := (0 : Int32)) hx hb hr rfl (fun t ht hW => ⟨⟨(0 : Int32), u_2, rfl, h, by rw [ht]; exact hP, va_K.moved hW.alike hK, hD⟩, hS.F ht⟩) hS.2.2 dX7_areTwo_26
  · have h := h.2 c_3
    refine lv_aload_n hx hb dX7_areTwo_8 rfl (lv_at hl 0 rfl) ?_
    refine lv_iload_n hx hb dX7_areTwo_9 rfl (lv_at hl 2 rfl) ?_
    have hFc := fr_self hD hS hA
    refine gv_i (va_runV (As := [.int x2]) (rest := []) ⟨hx, hb, hml, hown, hts⟩ (c_X7_isDancer l D k a u_2 H.size x2 _ h) (cwV 1 hts gX7_areTwo_X7_isDancer rfl rfl rfl (by decide +kernel) ⟨Nat.le_of_ble_eq_true rfl, Nat.le_of_ble_eq_true rfl⟩) (gv_preV hK hnw hP hD (ci := 7) rfl 0 rfl) rfl rfl hl.1 rfl (lv_room (Nat.le_of_ble_eq_true rfl)) dX7_areTwo_10 ⟨Nat.zero_le _, Nat.zero_le _⟩) hS hFc (fun r_4 u_5 H locs h hP1 hD1 hk1 hS => ?_)
    have hP := hP1
    have hD := hD1.weaken (fun _ _ _ z => hFc _ z)
    refine lv_if_eq (tgt := 25) hx hb dX7_areTwo_13 (by decide) (fun c_6 => ?_) (fun c_6 => ?_)
    · have h := h.1 c_6
      refine lv_iconst (v := (0 : Int32)) hx hb dX7_areTwo_25 (by decide) ?_
      exact W.zret (v := (0 : Int32)) hx hb hr rfl (fun t ht hW => ⟨⟨(0 : Int32), u_5, rfl, h, by rw [ht]; exact hP, va_K.moved hW.alike hK, hD⟩, hS.F ht⟩) hS.2.2 dX7_areTwo_26
    · have h := h.2 c_6
      refine lv_iload_n hx hb dX7_areTwo_16 rfl (lv_at hl 1 rfl) ?_
      refine lv_iload_n hx hb dX7_areTwo_17 rfl (lv_at hl 2 rfl) ?_
      refine lv_icmp_eq (tgt := 25) hx hb dX7_areTwo_18 (by decide) (fun c_7 => ?_) (fun c_7 => ?_)
      · have h := h.1 c_7
        refine lv_iconst (v := (0 : Int32)) hx hb dX7_areTwo_25 (by decide) ?_
        exact W.zret (v := (0 : Int32)) hx hb hr rfl (fun t ht hW => ⟨⟨(0 : Int32), u_5, rfl, h, by rw [ht]; exact hP, va_K.moved hW.alike hK, hD⟩, hS.F ht⟩) hS.2.2 dX7_areTwo_26
      · have h := h.2 c_7
        refine lv_iconst (v := (1 : Int32)) hx hb dX7_areTwo_21 (by decide) ?_
        refine lv_goto (tgt := 26) hx hb dX7_areTwo_22 (by decide) ?_
        exact W.zret (v := (1 : Int32)) hx hb hr rfl (fun t ht hW => ⟨⟨(1 : Int32), u_5, rfl, h, by rw [ht]; exact hP, va_K.moved hW.alike hK, hD⟩, hS.F ht⟩) hS.2.2 dX7_areTwo_26
/-! X7_haveDanced -/
def wp_X7_haveDanced (S0 : St) (x1 : Int32) (x2 : Int32) (Q : Int32 → St → Prop) : Prop := vp_in x1 8 ∧ (((¬ (((S0.2 4 x1.toNatClampNeg) >>> (x2 &&& 31)) &&& (1 : Int32)) = (1 : Int32)) → (Q (0 : Int32) S0)) ∧ (((((S0.2 4 x1.toNatClampNeg) >>> (x2 &&& 31)) &&& (1 : Int32)) = (1 : Int32)) → (Q (1 : Int32) S0)))
abbrev rmX7_haveDanced : Room := { frames := 0, cells := 0, slots := 0, locals := 0 }
set_option maxRecDepth 100000 in
set_option maxHeartbeats 4000000 in
theorem c_X7_haveDanced (l : Launch) (D : va_G) (k : Nat → ClassId) (a : Nat → Nat) (S0 : St) (sz : Nat) (x1 : Int32) (x2 : Int32) (Q : Int32 → St → Prop) (h : wp_X7_haveDanced S0 x1 x2 Q) : Met l yX7_haveDanced wsX7_haveDanced rmX7_haveDanced (cPc D k (wMo k a S0) [.ref (a 0), .int x1, .int x2] sz) (va_Qi (fun (r : Int32) (u : St) => Q r u) (cB D k (va_A (wMo k a S0) sz) (fun u : St => wMo k a u)) (va_A (wMo k a S0) sz)) 0 0 (va_A (wMo k a S0) sz) := by
  refine ct_entry (cc := cX7_haveDanced) (maxL := 3) (ret := (some .boolean)) (Rn := RX7) (Qc := fun A => (va_Qi (fun (r : Int32) (u : St) => Q r u) (cB D k A (fun u : St => wMo k a u)) A)) (by decide) rfl rfl (Nat.le_of_ble_eq_true rfl) ?_
  intro p e s m below meth c hx hb hr hlocks hml hts hown hnw hK A hA H locs hP hD hS ls hl
  have hl : lv_has ls 3 [(0, .ref (a 0)), (1, .int x1), (2, .int x2)] := hl
  have ln_22 := hts (.fieldLink RX7 22 "WithTheSameOneModel" "with" "[I") (by decide +kernel)
  have in_Mo : ∀ w ∈ wsX70, w ∈ wsX7_haveDanced := fun _ h => List.mem_cons_of_mem _ (List.mem_append_right _ h)
  unfold wp_X7_haveDanced at h
  refine lv_aload_n hx hb dX7_haveDanced_0 rfl (lv_at hl 0 rfl) ?_
  refine va_get (D := D) (ci := 7) (v := .ref (a 5)) (C := RX7) (T := TX7) (N := 33) hx hb hts in_Mo hown hK hP 0 rfl rfl 4 (by decide) ln_22 (fun _ h9 => h9) rfl dX7_haveDanced_1 ?_
  refine lv_iload_n hx hb dX7_haveDanced_4 rfl (lv_at hl 1 rfl) ?_
  refine va_iald hx hb hK hP 5 0 rfl rfl h.1 dX7_haveDanced_5 ?_
  have h := h.2
  refine lv_iload_n hx hb dX7_haveDanced_6 rfl (lv_at hl 2 rfl) ?_
  refine lv_ishr hx hb dX7_haveDanced_7 ?_
  refine lv_iconst (v := (1 : Int32)) hx hb dX7_haveDanced_8 (by decide) ?_
  refine lv_iand hx hb dX7_haveDanced_9 ?_
  refine lv_iconst (v := (1 : Int32)) hx hb dX7_haveDanced_10 (by decide) ?_
  refine lv_icmp_ne (tgt := 18) hx hb dX7_haveDanced_11 (by decide) (fun c_1 => ?_) (fun c_1 => ?_)
  · have h := h.1 c_1
    refine lv_iconst (v := (0 : Int32)) hx hb dX7_haveDanced_18 (by decide) ?_
    exact W.zret (v := (0 : Int32)) hx hb hr rfl (fun t ht hW => ⟨⟨(0 : Int32), S0, rfl, h, by rw [ht]; exact hP, va_K.moved hW.alike hK, hD⟩, hS.F ht⟩) hS.2.2 dX7_haveDanced_19
  · have h := h.2 c_1
    refine lv_iconst (v := (1 : Int32)) hx hb dX7_haveDanced_14 (by decide) ?_
    refine lv_goto (tgt := 19) hx hb dX7_haveDanced_15 (by decide) ?_
    exact W.zret (v := (1 : Int32)) hx hb hr rfl (fun t ht hW => ⟨⟨(1 : Int32), S0, rfl, h, by rw [ht]; exact hP, va_K.moved hW.alike hK, hD⟩, hS.F ht⟩) hS.2.2 dX7_haveDanced_19
/-! X7_joins -/
def wp_X7_joins (S0 : St) (x1 : Int32) (x2 : Int32) (Q : St → Prop) : Prop := vp_in x1 8 ∧ (vp_in x1 8 ∧ (∀ S_1, S_1 = (sA S0 4 x1.toNatClampNeg ((S0.2 4 x1.toNatClampNeg) ||| ((1 : Int32) <<< (x2 &&& 31)))) → (vp_in x2 8 ∧ (vp_in x2 8 ∧ (∀ S_3, S_3 = (sA S_1 4 x2.toNatClampNeg ((S_1.2 4 x2.toNatClampNeg) ||| ((1 : Int32) <<< (x1 &&& 31)))) → (Q S_3))))))
abbrev rmX7_joins : Room := { frames := 0, cells := 0, slots := 0, locals := 0 }
set_option maxRecDepth 100000 in
set_option maxHeartbeats 4000000 in
theorem c_X7_joins (l : Launch) (D : va_G) (k : Nat → ClassId) (a : Nat → Nat) (S0 : St) (sz : Nat) (x1 : Int32) (x2 : Int32) (Q : St → Prop) (h : wp_X7_joins S0 x1 x2 Q) : Met l yX7_joins wsX7_joins rmX7_joins (cPc D k (wMo k a S0) [.ref (a 0), .int x1, .int x2] sz) (va_Qv (fun (u : St) => Q u) (cB D k (va_A (wMo k a S0) sz) (fun u : St => wMo k a u)) (va_A (wMo k a S0) sz)) 0 0 (va_A (wMo k a S0) sz) := by
  refine ct_entry (cc := cX7_joins) (maxL := 3) (ret := none) (Rn := RX7) (Qc := fun A => (va_Qv (fun (u : St) => Q u) (cB D k A (fun u : St => wMo k a u)) A)) (by decide) rfl rfl (Nat.le_of_ble_eq_true rfl) ?_
  intro p e s m below meth c hx hb hr hlocks hml hts hown hnw hK A hA H locs hP hD hS ls hl
  have hl : lv_has ls 3 [(0, .ref (a 0)), (1, .int x1), (2, .int x2)] := hl
  have ln_22 := hts (.fieldLink RX7 22 "WithTheSameOneModel" "with" "[I") (by decide +kernel)
  have in_Mo : ∀ w ∈ wsX70, w ∈ wsX7_joins := fun _ h => List.mem_cons_of_mem _ (List.mem_append_right _ h)
  unfold wp_X7_joins at h
  refine lv_aload_n hx hb dX7_joins_0 rfl (lv_at hl 0 rfl) ?_
  refine va_get (D := D) (ci := 7) (v := .ref (a 5)) (C := RX7) (T := TX7) (N := 33) hx hb hts in_Mo hown hK hP 0 rfl rfl 4 (by decide) ln_22 (fun _ h9 => h9) rfl dX7_joins_1 ?_
  refine lv_iload_n hx hb dX7_joins_4 rfl (lv_at hl 1 rfl) ?_
  refine lv_dup2_11 hx hb dX7_joins_5 rfl rfl ?_
  refine va_iald hx hb hK hP 5 0 rfl rfl h.1 dX7_joins_6 ?_
  have h := h.2
  refine lv_iconst (v := (1 : Int32)) hx hb dX7_joins_7 (by decide) ?_
  refine lv_iload_n hx hb dX7_joins_8 rfl (lv_at hl 2 rfl) ?_
  refine lv_ishl hx hb dX7_joins_9 ?_
  refine lv_ior hx hb dX7_joins_10 ?_
  refine va_iast hx hb hK hP hD hS 5 0 rfl rfl h.1 dX7_joins_11 (fun H locs hP hD hS => ?_)
  have h := h.2
  obtain ⟨S_1, e_2⟩ : ∃ z : St, z = (sA S0 4 x1.toNatClampNeg ((S0.2 4 x1.toNatClampNeg) ||| ((1 : Int32) <<< (x2 &&& 31)))) := ⟨_, rfl⟩
  have h := h S_1 e_2
  have hP : va_P D vwCl (wMo k a S_1) H := by rw [e_2]; exact hP
  have hD : va_D A (wMo k a S_1) := by rw [e_2]; exact hD
  refine lv_aload_n hx hb dX7_joins_12 rfl (lv_at hl 0 rfl) ?_
  refine va_get (D := D) (ci := 7) (v := .ref (a 5)) (C := RX7) (T := TX7) (N := 33) hx hb hts in_Mo hown hK hP 0 rfl rfl 4 (by decide) ln_22 (fun _ h9 => h9) rfl dX7_joins_13 ?_
  refine lv_iload_n hx hb dX7_joins_16 rfl (lv_at hl 2 rfl) ?_
  refine lv_dup2_11 hx hb dX7_joins_17 rfl rfl ?_
  refine va_iald hx hb hK hP 5 0 rfl rfl h.1 dX7_joins_18 ?_
  have h := h.2
  refine lv_iconst (v := (1 : Int32)) hx hb dX7_joins_19 (by decide) ?_
  refine lv_iload_n hx hb dX7_joins_20 rfl (lv_at hl 1 rfl) ?_
  refine lv_ishl hx hb dX7_joins_21 ?_
  refine lv_ior hx hb dX7_joins_22 ?_
  refine va_iast hx hb hK hP hD hS 5 0 rfl rfl h.1 dX7_joins_23 (fun H locs hP hD hS => ?_)
  have h := h.2
  obtain ⟨S_3, e_4⟩ : ∃ z : St, z = (sA S_1 4 x2.toNatClampNeg ((S_1.2 4 x2.toNatClampNeg) ||| ((1 : Int32) <<< (x1 &&& 31)))) := ⟨_, rfl⟩
  have h := h S_3 e_4
  have hP : va_P D vwCl (wMo k a S_3) H := by rw [e_4]; exact hP
  have hD : va_D A (wMo k a S_3) := by rw [e_4]; exact hD
  exact W.vret hx hb hr (fun t ht hW => ⟨⟨S_3, rfl, h, by rw [ht]; exact hP, va_K.moved hW.alike hK, hD⟩, hS.F ht⟩) hS.2.2 dX7_joins_24
/-! X7_parts -/
def wp_X7_parts (S0 : St) (x1 : Int32) (x2 : Int32) (Q : St → Prop) : Prop := vp_in x1 8 ∧ (vp_in x1 8 ∧ (∀ S_1, S_1 = (sA S0 4 x1.toNatClampNeg ((S0.2 4 x1.toNatClampNeg) &&& (((1 : Int32) <<< (x2 &&& 31)) ^^^ (-1 : Int32)))) → (vp_in x2 8 ∧ (vp_in x2 8 ∧ (∀ S_3, S_3 = (sA S_1 4 x2.toNatClampNeg ((S_1.2 4 x2.toNatClampNeg) &&& (((1 : Int32) <<< (x1 &&& 31)) ^^^ (-1 : Int32)))) → (Q S_3))))))
abbrev rmX7_parts : Room := { frames := 0, cells := 0, slots := 0, locals := 0 }
set_option maxRecDepth 100000 in
set_option maxHeartbeats 4000000 in
theorem c_X7_parts (l : Launch) (D : va_G) (k : Nat → ClassId) (a : Nat → Nat) (S0 : St) (sz : Nat) (x1 : Int32) (x2 : Int32) (Q : St → Prop) (h : wp_X7_parts S0 x1 x2 Q) : Met l yX7_parts wsX7_parts rmX7_parts (cPc D k (wMo k a S0) [.ref (a 0), .int x1, .int x2] sz) (va_Qv (fun (u : St) => Q u) (cB D k (va_A (wMo k a S0) sz) (fun u : St => wMo k a u)) (va_A (wMo k a S0) sz)) 0 0 (va_A (wMo k a S0) sz) := by
  refine ct_entry (cc := cX7_parts) (maxL := 3) (ret := none) (Rn := RX7) (Qc := fun A => (va_Qv (fun (u : St) => Q u) (cB D k A (fun u : St => wMo k a u)) A)) (by decide) rfl rfl (Nat.le_of_ble_eq_true rfl) ?_
  intro p e s m below meth c hx hb hr hlocks hml hts hown hnw hK A hA H locs hP hD hS ls hl
  have hl : lv_has ls 3 [(0, .ref (a 0)), (1, .int x1), (2, .int x2)] := hl
  have ln_22 := hts (.fieldLink RX7 22 "WithTheSameOneModel" "with" "[I") (by decide +kernel)
  have in_Mo : ∀ w ∈ wsX70, w ∈ wsX7_parts := fun _ h => List.mem_cons_of_mem _ (List.mem_append_right _ h)
  unfold wp_X7_parts at h
  refine lv_aload_n hx hb dX7_parts_0 rfl (lv_at hl 0 rfl) ?_
  refine va_get (D := D) (ci := 7) (v := .ref (a 5)) (C := RX7) (T := TX7) (N := 33) hx hb hts in_Mo hown hK hP 0 rfl rfl 4 (by decide) ln_22 (fun _ h9 => h9) rfl dX7_parts_1 ?_
  refine lv_iload_n hx hb dX7_parts_4 rfl (lv_at hl 1 rfl) ?_
  refine lv_dup2_11 hx hb dX7_parts_5 rfl rfl ?_
  refine va_iald hx hb hK hP 5 0 rfl rfl h.1 dX7_parts_6 ?_
  have h := h.2
  refine lv_iconst (v := (1 : Int32)) hx hb dX7_parts_7 (by decide) ?_
  refine lv_iload_n hx hb dX7_parts_8 rfl (lv_at hl 2 rfl) ?_
  refine lv_ishl hx hb dX7_parts_9 ?_
  refine lv_iconst (v := (-1 : Int32)) hx hb dX7_parts_10 (by decide) ?_
  refine lv_ixor hx hb dX7_parts_11 ?_
  refine lv_iand hx hb dX7_parts_12 ?_
  refine va_iast hx hb hK hP hD hS 5 0 rfl rfl h.1 dX7_parts_13 (fun H locs hP hD hS => ?_)
  have h := h.2
  obtain ⟨S_1, e_2⟩ : ∃ z : St, z = (sA S0 4 x1.toNatClampNeg ((S0.2 4 x1.toNatClampNeg) &&& (((1 : Int32) <<< (x2 &&& 31)) ^^^ (-1 : Int32)))) := ⟨_, rfl⟩
  have h := h S_1 e_2
  have hP : va_P D vwCl (wMo k a S_1) H := by rw [e_2]; exact hP
  have hD : va_D A (wMo k a S_1) := by rw [e_2]; exact hD
  refine lv_aload_n hx hb dX7_parts_14 rfl (lv_at hl 0 rfl) ?_
  refine va_get (D := D) (ci := 7) (v := .ref (a 5)) (C := RX7) (T := TX7) (N := 33) hx hb hts in_Mo hown hK hP 0 rfl rfl 4 (by decide) ln_22 (fun _ h9 => h9) rfl dX7_parts_15 ?_
  refine lv_iload_n hx hb dX7_parts_18 rfl (lv_at hl 2 rfl) ?_
  refine lv_dup2_11 hx hb dX7_parts_19 rfl rfl ?_
  refine va_iald hx hb hK hP 5 0 rfl rfl h.1 dX7_parts_20 ?_
  have h := h.2
  refine lv_iconst (v := (1 : Int32)) hx hb dX7_parts_21 (by decide) ?_
  refine lv_iload_n hx hb dX7_parts_22 rfl (lv_at hl 1 rfl) ?_
  refine lv_ishl hx hb dX7_parts_23 ?_
  refine lv_iconst (v := (-1 : Int32)) hx hb dX7_parts_24 (by decide) ?_
  refine lv_ixor hx hb dX7_parts_25 ?_
  refine lv_iand hx hb dX7_parts_26 ?_
  refine va_iast hx hb hK hP hD hS 5 0 rfl rfl h.1 dX7_parts_27 (fun H locs hP hD hS => ?_)
  have h := h.2
  obtain ⟨S_3, e_4⟩ : ∃ z : St, z = (sA S_1 4 x2.toNatClampNeg ((S_1.2 4 x2.toNatClampNeg) &&& (((1 : Int32) <<< (x1 &&& 31)) ^^^ (-1 : Int32)))) := ⟨_, rfl⟩
  have h := h S_3 e_4
  have hP : va_P D vwCl (wMo k a S_3) H := by rw [e_4]; exact hP
  have hD : va_D A (wMo k a S_3) := by rw [e_4]; exact hD
  exact W.vret hx hb hr (fun t ht hW => ⟨⟨S_3, rfl, h, by rw [ht]; exact hP, va_K.moved hW.alike hK, hD⟩, hS.F ht⟩) hS.2.2 dX7_parts_28
/-! X7_bits -/
def wp_X7_bits_4 (x0 : Int32) (Q : Int32 → Prop) : Nat → Int32 → Int32 → Prop
  | 0, _, _ => False
  | n + 1, x1, x2 => (((31 : Int32) ≤ x2) → (Q x1)) ∧ ((¬ (31 : Int32) ≤ x2) → (∀ z_2 : Int32, z_2 = (x1 + ((x0 >>> (x2 &&& 31)) &&& (1 : Int32))) → (wp_X7_bits_4 x0 Q n z_2 (x2 + 1))))
def wp_X7_bits (x0 : Int32) (Q : Int32 → Prop) : Prop := ∃ i, wp_X7_bits_4 x0 Q i (0 : Int32) (0 : Int32)
abbrev rmX7_bits : Room := { frames := 0, cells := 0, slots := 0, locals := 0 }
set_option maxRecDepth 100000 in
set_option maxHeartbeats 4000000 in
theorem c_X7_bits (l : Launch) (x0 : Int32) (Q : Int32 → Prop) (h : wp_X7_bits x0 Q) : Met l yX7_bits wsX7_bits rmX7_bits (fun v _ => v = ([.int x0] : List Value).toArray) (vp_Si Q) 0 0 (fun _ => False) := by
  refine cs_entry (cc := cX7_bits) (maxL := 3) (ret := (some .int)) (Rn := RX7) (by decide) rfl rfl (Nat.le_of_ble_eq_true rfl) ?_
  intro p e s m below meth c hx hb hr hlocks hml hts hown ls hl
  have hl : lv_has ls 3 [(0, .int x0)] := hl
  have L_4 : ∀ (n : Nat), ∀ (x1 : Int32) (x2 : Int32), ∀ (ls : Array Slot), lv_has ls 3 [(0, .int x0), (1, .int x1), (2, .int x2)] → wp_X7_bits_4 x0 Q n x1 x2 → W p l e rmX7_bits s m ([.int x0] : List Value).toArray below meth c s.heap [] 0 0 (MQ below (vp_Si Q) ([.int x0] : List Value).toArray s 0 0 (fun _ => False)) (F0 m 4 ls []) := by
    intro n
    induction n with
    | zero => intro x1 x2 ls hl h; exact absurd h (by unfold wp_X7_bits_4; exact id)
    | succ n ih =>
      intro x1 x2 ls hl h
      unfold wp_X7_bits_4 at h
      refine lv_iload_n hx hb dX7_bits_4 rfl (lv_at hl 2 rfl) ?_
      refine lv_bipush (v := (31 : Int32)) hx hb dX7_bits_5 (by decide) ?_
      refine lv_icmp_ge (tgt := 24) hx hb dX7_bits_7 (by decide) (fun c_1 => ?_) (fun c_1 => ?_)
      · have h := h.1 c_1
        refine lv_iload_n hx hb dX7_bits_24 rfl (lv_at hl 1 rfl) ?_
        exact W.iret (v := x1) hx hb hr (fun t ht hW => ⟨x1, rfl, h, ht⟩) (fun q hq => by cases hq) dX7_bits_25
      · have h := h.2 c_1
        refine lv_iload_n hx hb dX7_bits_10 rfl (lv_at hl 1 rfl) ?_
        refine lv_iload_n hx hb dX7_bits_11 rfl (lv_at hl 0 rfl) ?_
        refine lv_iload_n hx hb dX7_bits_12 rfl (lv_at hl 2 rfl) ?_
        refine lv_ishr hx hb dX7_bits_13 ?_
        refine lv_iconst (v := (1 : Int32)) hx hb dX7_bits_14 (by decide) ?_
        refine lv_iand hx hb dX7_bits_15 ?_
        refine lv_iadd hx hb dX7_bits_16 ?_
        refine lv_topi (fun z_2 e_3 => ?_)
        have h := h z_2 e_3
        refine lv_istore_n (lv' := [(1, .int z_2), (0, .int x0), (2, .int x2)]) hx hb dX7_bits_17 rfl hl (by decide) rfl (fun ls hl => ?_)
        refine lv_iinc (v := (x2 + 1)) (lv' := [(2, .int (x2 + 1)), (1, .int z_2), (0, .int x0)]) hx hb dX7_bits_18 hl (k := 2) rfl rfl (by decide) rfl (fun ls hl => ?_)
        refine lv_goto (tgt := 4) hx hb dX7_bits_21 (by decide) ?_
        exact ih z_2 (x2 + 1) ls (lv_sub hl [2, 1, 0] rfl) h
  unfold wp_X7_bits at h
  refine lv_iconst (v := (0 : Int32)) hx hb dX7_bits_0 (by decide) ?_
  refine lv_istore_n (lv' := [(1, .int (0 : Int32)), (0, .int x0)]) hx hb dX7_bits_1 rfl hl (by decide) rfl (fun ls hl => ?_)
  refine lv_iconst (v := (0 : Int32)) hx hb dX7_bits_2 (by decide) ?_
  refine lv_istore_n (lv' := [(2, .int (0 : Int32)), (1, .int (0 : Int32)), (0, .int x0)]) hx hb dX7_bits_3 rfl hl (by decide) rfl (fun ls hl => ?_)
  obtain ⟨n_4, h⟩ := h
  exact L_4 n_4 (0 : Int32) (0 : Int32) ls (lv_sub hl [2, 1, 0] rfl) h
/-! X7_pairsDanced -/
def wp_X7_pairsDanced_4 (Q : Int32 → St → Prop) : Nat → St → Int32 → Int32 → Prop
  | 0, _, _, _ => False
  | n + 1, S0, x1, x2 => (((S0.1 5) ≤ x2) → (Q (x1 / (2 : Int32)) S0)) ∧ ((¬ (S0.1 5) ≤ x2) → (vp_in x2 8 ∧ (wp_X7_bits (S0.2 4 x2.toNatClampNeg) (fun r_2 => wp_X7_pairsDanced_4 Q n S0 (x1 + r_2) (x2 + 1)))))
def wp_X7_pairsDanced (S0 : St) (Q : Int32 → St → Prop) : Prop := ∃ i, wp_X7_pairsDanced_4 Q i S0 (0 : Int32) (0 : Int32)
abbrev rmX7_pairsDanced : Room := { frames := 1, cells := 0, slots := 0, locals := 22 }
set_option maxRecDepth 100000 in
set_option maxHeartbeats 4000000 in
theorem c_X7_pairsDanced (l : Launch) (D : va_G) (k : Nat → ClassId) (a : Nat → Nat) (S0 : St) (sz : Nat) (Q : Int32 → St → Prop) (h : wp_X7_pairsDanced S0 Q) : Met l yX7_pairsDanced wsX7_pairsDanced rmX7_pairsDanced (cPc D k (wMo k a S0) [.ref (a 0)] sz) (va_Qi (fun (r : Int32) (u : St) => Q r u) (cB D k (va_A (wMo k a S0) sz) (fun u : St => wMo k a u)) (va_A (wMo k a S0) sz)) 0 0 (va_A (wMo k a S0) sz) := by
  refine ct_entry (cc := cX7_pairsDanced) (maxL := 3) (ret := (some .int)) (Rn := RX7) (Qc := fun A => (va_Qi (fun (r : Int32) (u : St) => Q r u) (cB D k A (fun u : St => wMo k a u)) A)) (by decide) rfl rfl (Nat.le_of_ble_eq_true rfl) ?_
  intro p e s m below meth c hx hb hr hlocks hml hts hown hnw hK A hA H locs hP hD hS ls hl
  have hl : lv_has ls 3 [(0, .ref (a 0))] := hl
  have ln_22 := hts (.fieldLink RX7 22 "WithTheSameOneModel" "with" "[I") (by decide +kernel)
  have ln_70 := hts (.fieldLink RX7 70 "WithTheSameOneModel" "dancers" "I") (by decide +kernel)
  have in_Mo : ∀ w ∈ wsX70, w ∈ wsX7_pairsDanced := fun _ h => List.mem_cons_of_mem _ (List.mem_append_right _ h)
  have L_4 : ∀ (n : Nat), ∀ (S0 : St) (x1 : Int32) (x2 : Int32), ∀ (H : Heap) (locs : List Loc) (ls : Array Slot), va_P D vwCl (wMo k a S0) H → va_D A (wMo k a S0) → va_S A s.heap H locs → lv_has ls 3 [(0, .ref (a 0)), (1, .int x1), (2, .int x2)] → wp_X7_pairsDanced_4 Q n S0 x1 x2 → W p l e rmX7_pairsDanced s m ([.ref (a 0)] : List Value).toArray below meth c H locs 0 0 (MQ below (va_Qi (fun (r : Int32) (u : St) => Q r u) (cB D k A (fun u : St => wMo k a u)) A) ([.ref (a 0)] : List Value).toArray s 0 0 A) (F0 m 4 ls []) := by
    intro n
    induction n with
    | zero => intro S0 x1 x2 H locs ls hP hD hS hl h; exact absurd h (by unfold wp_X7_pairsDanced_4; exact id)
    | succ n ih =>
      intro S0 x1 x2 H locs ls hP hD hS hl h
      unfold wp_X7_pairsDanced_4 at h
      refine lv_iload_n hx hb dX7_pairsDanced_4 rfl (lv_at hl 2 rfl) ?_
      refine lv_aload_n hx hb dX7_pairsDanced_5 rfl (lv_at hl 0 rfl) ?_
      refine va_get (D := D) (ci := 7) (v := .int (S0.1 5)) (C := RX7) (T := TX7) (N := 33) hx hb hts in_Mo hown hK hP 0 rfl rfl 5 (by decide) ln_70 (fun _ h9 => h9) rfl dX7_pairsDanced_6 ?_
      refine lv_icmp_ge (tgt := 30) hx hb dX7_pairsDanced_9 (by decide) (fun c_1 => ?_) (fun c_1 => ?_)
      · have h := h.1 c_1
        refine lv_iload_n hx hb dX7_pairsDanced_30 rfl (lv_at hl 1 rfl) ?_
        refine lv_iconst (v := (2 : Int32)) hx hb dX7_pairsDanced_31 (by decide) ?_
        refine lv_idiv hx hb dX7_pairsDanced_32 (by decide) ?_
        exact W.iret (v := (x1 / (2 : Int32))) hx hb hr (fun t ht hW => ⟨⟨(x1 / (2 : Int32)), S0, rfl, h, by rw [ht]; exact hP, va_K.moved hW.alike hK, hD⟩, hS.F ht⟩) hS.2.2 dX7_pairsDanced_33
      · have h := h.2 c_1
        refine lv_iload_n hx hb dX7_pairsDanced_12 rfl (lv_at hl 1 rfl) ?_
        refine lv_aload_n hx hb dX7_pairsDanced_13 rfl (lv_at hl 0 rfl) ?_
        refine va_get (D := D) (ci := 7) (v := .ref (a 5)) (C := RX7) (T := TX7) (N := 33) hx hb hts in_Mo hown hK hP 0 rfl rfl 4 (by decide) ln_22 (fun _ h9 => h9) rfl dX7_pairsDanced_14 ?_
        refine lv_iload_n hx hb dX7_pairsDanced_17 rfl (lv_at hl 2 rfl) ?_
        refine va_iald hx hb hK hP 5 0 rfl rfl h.1 dX7_pairsDanced_18 ?_
        have h := h.2
        refine gs_i (va_runS (As := [.int (S0.2 4 x2.toNatClampNeg)]) (rest := [.int x1]) ⟨hx, hb, hml, hown, hts⟩ (c_X7_bits l (S0.2 4 x2.toNatClampNeg) _ h) (va_cwS 1 hts gX7_pairsDanced_X7_bits rfl rfl rfl (by decide +kernel) ⟨Nat.le_of_ble_eq_true rfl, Nat.le_of_ble_eq_true rfl⟩) preEq rfl rfl hl.1 rfl (lv_room (Nat.le_of_ble_eq_true rfl)) dX7_pairsDanced_19 ⟨Nat.zero_le _, Nat.zero_le _⟩) (fun r_2 h => ?_)
        refine lv_iadd hx hb dX7_pairsDanced_22 ?_
        refine lv_istore_n (lv' := [(1, .int (x1 + r_2)), (0, .ref (a 0)), (2, .int x2)]) hx hb dX7_pairsDanced_23 rfl hl (by decide) rfl (fun ls hl => ?_)
        refine lv_iinc (v := (x2 + 1)) (lv' := [(2, .int (x2 + 1)), (1, .int (x1 + r_2)), (0, .ref (a 0))]) hx hb dX7_pairsDanced_24 hl (k := 2) rfl rfl (by decide) rfl (fun ls hl => ?_)
        refine lv_goto (tgt := 4) hx hb dX7_pairsDanced_27 (by decide) ?_
        exact ih S0 (x1 + r_2) (x2 + 1) H locs ls hP hD hS (lv_sub hl [2, 1, 0] rfl) h
  unfold wp_X7_pairsDanced at h
  refine lv_iconst (v := (0 : Int32)) hx hb dX7_pairsDanced_0 (by decide) ?_
  refine lv_istore_n (lv' := [(1, .int (0 : Int32)), (0, .ref (a 0))]) hx hb dX7_pairsDanced_1 rfl hl (by decide) rfl (fun ls hl => ?_)
  refine lv_iconst (v := (0 : Int32)) hx hb dX7_pairsDanced_2 (by decide) ?_
  refine lv_istore_n (lv' := [(2, .int (0 : Int32)), (1, .int (0 : Int32)), (0, .ref (a 0))]) hx hb dX7_pairsDanced_3 rfl hl (by decide) rfl (fun ls hl => ?_)
  obtain ⟨n_3, h⟩ := h
  exact L_4 n_3 S0 (0 : Int32) (0 : Int32) H locs ls hP hD hS (lv_sub hl [2, 1, 0] rfl) h
/-! X7_feed -/
def wp_X7_feed_25 (x1 : Int32) (Q : Int32 → St → Prop) (S0 : St) (x2 : Int32) : Prop := ((x2 = 0) → (vp_in (S0.1 12) 64 ∧ (∀ S_4, S_4 = (sA S0 7 (S0.1 12).toNatClampNeg x1) → (∀ S_6, S_6 = (sI S_4 12 ((S_4.1 12) + (1 : Int32))) → (Q (S_6.1 12) S_6))))) ∧ ((¬ x2 = 0) → (wp_X7_no S0 x2 (fun r_8 u_9 => Q r_8 u_9)))
def wp_X7_feed (S0 : St) (x1 : Int32) (Q : Int32 → St → Prop) : Prop := wp_X7_bound x1 (0 : Int32) (255 : Int32) (fun r_1 => ((¬ r_1 = 0) → (wp_X7_feed_25 x1 Q S0 r_1)) ∧ ((r_1 = 0) → (((¬ (S0.1 12) = (64 : Int32)) → (wp_X7_feed_25 x1 Q S0 r_1)) ∧ (((S0.1 12) = (64 : Int32)) → (wp_X7_feed_25 x1 Q S0 (-6 : Int32))))))
abbrev rmX7_feed : Room := { frames := 1, cells := 0, slots := 0, locals := 22 }
set_option maxRecDepth 100000 in
set_option maxHeartbeats 4000000 in
theorem c_X7_feed (l : Launch) (D : va_G) (k : Nat → ClassId) (a : Nat → Nat) (S0 : St) (sz : Nat) (x1 : Int32) (Q : Int32 → St → Prop) (h : wp_X7_feed S0 x1 Q) : Met l yX7_feed wsX7_feed rmX7_feed (cPc D k (wMo k a S0) [.ref (a 0), .int x1] sz) (va_Qi (fun (r : Int32) (u : St) => Q r u) (cB D k (va_A (wMo k a S0) sz) (fun u : St => wMo k a u)) (va_A (wMo k a S0) sz)) 0 0 (va_A (wMo k a S0) sz) := by
  refine ct_entry (cc := cX7_feed) (maxL := 3) (ret := (some .int)) (Rn := RX7) (Qc := fun A => (va_Qi (fun (r : Int32) (u : St) => Q r u) (cB D k A (fun u : St => wMo k a u)) A)) (by decide) rfl rfl (Nat.le_of_ble_eq_true rfl) ?_
  intro p e s m below meth c hx hb hr hlocks hml hts hown hnw hK A hA H locs hP hD hS ls hl
  have hl : lv_has ls 3 [(0, .ref (a 0)), (1, .int x1)] := hl
  have ln_25 := hts (.fieldLink RX7 25 "WithTheSameOneModel" "tape" "[I") (by decide +kernel)
  have ln_86 := hts (.fieldLink RX7 86 "WithTheSameOneModel" "taped" "I") (by decide +kernel)
  have in_Mo : ∀ w ∈ wsX70, w ∈ wsX7_feed := fun _ h => List.mem_cons_of_mem _ (List.mem_append_right _ h)
  have L_25 : ∀ (S0 : St) (x2 : Int32), ∀ (H : Heap) (locs : List Loc) (ls : Array Slot), va_P D vwCl (wMo k a S0) H → va_D A (wMo k a S0) → va_S A s.heap H locs → lv_has ls 3 [(0, .ref (a 0)), (1, .int x1), (2, .int x2)] → wp_X7_feed_25 x1 Q S0 x2 → W p l e rmX7_feed s m ([.ref (a 0), .int x1] : List Value).toArray below meth c H locs 0 0 (MQ below (va_Qi (fun (r : Int32) (u : St) => Q r u) (cB D k A (fun u : St => wMo k a u)) A) ([.ref (a 0), .int x1] : List Value).toArray s 0 0 A) (F0 m 25 ls []) := by
    intro S0 x2 H locs ls hP hD hS hl h
    unfold wp_X7_feed_25 at h
    refine lv_iload_n hx hb dX7_feed_25 rfl (lv_at hl 2 rfl) ?_
    refine lv_if_eq (tgt := 35) hx hb dX7_feed_26 (by decide) (fun c_3 => ?_) (fun c_3 => ?_)
    · have h := h.1 c_3
      refine lv_aload_n hx hb dX7_feed_35 rfl (lv_at hl 0 rfl) ?_
      refine va_get (D := D) (ci := 7) (v := .ref (a 6)) (C := RX7) (T := TX7) (N := 33) hx hb hts in_Mo hown hK hP 0 rfl rfl 7 (by decide) ln_25 (fun _ h9 => h9) rfl dX7_feed_36 ?_
      refine lv_aload_n hx hb dX7_feed_39 rfl (lv_at hl 0 rfl) ?_
      refine va_get (D := D) (ci := 7) (v := .int (S0.1 12)) (C := RX7) (T := TX7) (N := 33) hx hb hts in_Mo hown hK hP 0 rfl rfl 12 (by decide) ln_86 (fun _ h9 => h9) rfl dX7_feed_40 ?_
      refine lv_iload_n hx hb dX7_feed_43 rfl (lv_at hl 1 rfl) ?_
      refine va_iast hx hb hK hP hD hS 6 0 rfl rfl h.1 dX7_feed_44 (fun H locs hP hD hS => ?_)
      have h := h.2
      obtain ⟨S_4, e_5⟩ : ∃ z : St, z = (sA S0 7 (S0.1 12).toNatClampNeg x1) := ⟨_, rfl⟩
      have h := h S_4 e_5
      have hP : va_P D vwCl (wMo k a S_4) H := by rw [e_5]; exact hP
      have hD : va_D A (wMo k a S_4) := by rw [e_5]; exact hD
      refine lv_aload_n hx hb dX7_feed_45 rfl (lv_at hl 0 rfl) ?_
      refine lv_dup hx hb dX7_feed_46 rfl ?_
      refine va_get (D := D) (ci := 7) (v := .int (S_4.1 12)) (C := RX7) (T := TX7) (N := 33) hx hb hts in_Mo hown hK hP 0 rfl rfl 12 (by decide) ln_86 (fun _ h9 => h9) rfl dX7_feed_47 ?_
      refine lv_iconst (v := (1 : Int32)) hx hb dX7_feed_50 (by decide) ?_
      refine lv_iadd hx hb dX7_feed_51 ?_
      refine va_put (D := D) (ci := 7) (v := .int ((S_4.1 12) + (1 : Int32))) (ty := .int) (C := RX7) (T := TX7) (N := 33) hx hb hts in_Mo tyX7 tyX7_ok nmX7 hown hK hP hD hS 0 rfl rfl 12 (by decide) ln_86 (fun _ h9 => h9) rfl (by decide +kernel) rfl rfl (Nat.le_of_ble_eq_true rfl) dX7_feed_52 (fun H locs hP hD hS => ?_)
      obtain ⟨S_6, e_7⟩ : ∃ z : St, z = (sI S_4 12 ((S_4.1 12) + (1 : Int32))) := ⟨_, rfl⟩
      have h := h S_6 e_7
      have hP : va_P D vwCl (wMo k a S_6) H := by rw [e_7]; exact hP
      have hD : va_D A (wMo k a S_6) := by rw [e_7]; exact hD
      refine lv_aload_n hx hb dX7_feed_55 rfl (lv_at hl 0 rfl) ?_
      refine va_get (D := D) (ci := 7) (v := .int (S_6.1 12)) (C := RX7) (T := TX7) (N := 33) hx hb hts in_Mo hown hK hP 0 rfl rfl 12 (by decide) ln_86 (fun _ h9 => h9) rfl dX7_feed_56 ?_
      exact W.iret (v := (S_6.1 12)) hx hb hr (fun t ht hW => ⟨⟨(S_6.1 12), S_6, rfl, h, by rw [ht]; exact hP, va_K.moved hW.alike hK, hD⟩, hS.F ht⟩) hS.2.2 dX7_feed_59
    · have h := h.2 c_3
      refine lv_aload_n hx hb dX7_feed_29 rfl (lv_at hl 0 rfl) ?_
      refine lv_iload_n hx hb dX7_feed_30 rfl (lv_at hl 2 rfl) ?_
      have hFc := fr_self hD hS hA
      refine gv_i (va_runV (As := [.int x2]) (rest := []) ⟨hx, hb, hml, hown, hts⟩ (c_X7_no l D k a S0 H.size x2 _ h) (cwV 1 hts gX7_feed_X7_no rfl rfl rfl (by decide +kernel) ⟨Nat.le_of_ble_eq_true rfl, Nat.le_of_ble_eq_true rfl⟩) (gv_preV hK hnw hP hD (ci := 7) rfl 0 rfl) rfl rfl hl.1 rfl (lv_room (Nat.le_of_ble_eq_true rfl)) dX7_feed_31 ⟨Nat.zero_le _, Nat.zero_le _⟩) hS hFc (fun r_8 u_9 H locs h hP1 hD1 hk1 hS => ?_)
      have hP := hP1
      have hD := hD1.weaken (fun _ _ _ z => hFc _ z)
      exact W.iret (v := r_8) hx hb hr (fun t ht hW => ⟨⟨r_8, u_9, rfl, h, by rw [ht]; exact hP, va_K.moved hW.alike hK, hD⟩, hS.F ht⟩) hS.2.2 dX7_feed_34
  unfold wp_X7_feed at h
  refine lv_iload_n hx hb dX7_feed_0 rfl (lv_at hl 1 rfl) ?_
  refine lv_iconst (v := (0 : Int32)) hx hb dX7_feed_1 (by decide) ?_
  refine lv_sipush (v := (255 : Int32)) hx hb dX7_feed_2 (by decide) ?_
  refine gs_i (va_runS (As := [.int x1, .int (0 : Int32), .int (255 : Int32)]) (rest := []) ⟨hx, hb, hml, hown, hts⟩ (c_X7_bound l x1 (0 : Int32) (255 : Int32) _ h) (va_cwS 3 hts gX7_feed_X7_bound rfl rfl rfl (by decide +kernel) ⟨Nat.le_of_ble_eq_true rfl, Nat.le_of_ble_eq_true rfl⟩) preEq rfl rfl hl.1 rfl (lv_room (Nat.le_of_ble_eq_true rfl)) dX7_feed_5 ⟨Nat.zero_le _, Nat.zero_le _⟩) (fun r_1 h => ?_)
  refine lv_istore_n (lv' := [(2, .int r_1), (0, .ref (a 0)), (1, .int x1)]) hx hb dX7_feed_8 rfl hl (by decide) rfl (fun ls hl => ?_)
  refine lv_iload_n hx hb dX7_feed_9 rfl (lv_at hl 0 rfl) ?_
  refine lv_if_ne (tgt := 25) hx hb dX7_feed_10 (by decide) (fun c_2 => ?_) (fun c_2 => ?_)
  · have h := h.1 c_2
    exact L_25 S0 r_1 H locs ls hP hD hS (lv_sub hl [1, 2, 0] rfl) h
  · have h := h.2 c_2
    refine lv_aload_n hx hb dX7_feed_13 rfl (lv_at hl 1 rfl) ?_
    refine va_get (D := D) (ci := 7) (v := .int (S0.1 12)) (C := RX7) (T := TX7) (N := 33) hx hb hts in_Mo hown hK hP 0 rfl rfl 12 (by decide) ln_86 (fun _ h9 => h9) rfl dX7_feed_14 ?_
    refine lv_bipush (v := (64 : Int32)) hx hb dX7_feed_17 (by decide) ?_
    refine lv_icmp_ne (tgt := 25) hx hb dX7_feed_19 (by decide) (fun c_10 => ?_) (fun c_10 => ?_)
    · have h := h.1 c_10
      exact L_25 S0 r_1 H locs ls hP hD hS (lv_sub hl [1, 2, 0] rfl) h
    · have h := h.2 c_10
      refine lv_bipush (v := (-6 : Int32)) hx hb dX7_feed_22 (by decide) ?_
      refine lv_istore_n (lv' := [(2, .int (-6 : Int32)), (0, .ref (a 0)), (1, .int x1)]) hx hb dX7_feed_24 rfl hl (by decide) rfl (fun ls hl => ?_)
      exact L_25 S0 (-6 : Int32) H locs ls hP hD hS (lv_sub hl [1, 2, 0] rfl) h
