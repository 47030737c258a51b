/-! X5_isReached -/
def wp_X5_isReached_18 (R : (St × (Nat → St)) → Int32 → Int32 → (Int32 → (St × (Nat → St)) → Prop) → Prop) (x1 : Int32) (x2 : Int32) (Q : Int32 → (St × (Nat → St)) → Prop) (S0 : St × (Nat → St)) : Prop := wp_X2_isAllowed (S0.2 x1.toNatClampNeg) (S0.1.1 1) (S0.1.1 2) (fun r_3 u_4 => ∀ S_5, S_5 = (S0.1, va_up S0.2 x1.toNatClampNeg u_4) → (bz r_3 ∧ Q r_3 S_5))
def wp_X5_isReached_34 (R : (St × (Nat → St)) → Int32 → Int32 → (Int32 → (St × (Nat → St)) → Prop) → Prop) (x1 : Int32) (x2 : Int32) (Q : Int32 → (St × (Nat → St)) → Prop) : Nat → (St × (Nat → St)) → Int32 → Prop
  | 0, _, _ => False
  | n + 1, S0, x4 => (((67 : Int32) < x4) → (Q (0 : Int32) S0)) ∧ ((¬ (67 : Int32) < x4) → (wp_X2_isOpenPair (S0.2 x1.toNatClampNeg) x4 (fun r_9 u_10 => ∀ S_11, S_11 = (S0.1, va_up S0.2 x1.toNatClampNeg u_10) → (((r_9 = 0) → (wp_X5_isReached_34 R x1 x2 Q n S_11 (x4 + 1))) ∧ ((¬ r_9 = 0) → (wp_X5_isReachedBy R S_11 x4 x1 x2 (fun r_14 u_15 => ((r_14 = 0) → (wp_X5_isReached_34 R x1 x2 Q n u_15 (x4 + 1))) ∧ ((¬ r_14 = 0) → (Q (1 : Int32) u_15)))))))))
def wp_X5_isReached_b (R : (St × (Nat → St)) → Int32 → Int32 → (Int32 → (St × (Nat → St)) → Prop) → Prop) (S0 : St × (Nat → St)) (x1 : Int32) (x2 : Int32) (Q : Int32 → (St × (Nat → St)) → Prop) : Prop := vp_in x1 3 ∧ (((x2 ≤ 0) → (wp_X5_isReached_18 R x1 x2 Q S0)) ∧ ((¬ x2 ≤ 0) → ((((x1 + (1 : Int32)) < (3 : Int32)) → (∃ i, wp_X5_isReached_34 R x1 x2 Q i S0 (1 : Int32))) ∧ ((¬ (x1 + (1 : Int32)) < (3 : Int32)) → (wp_X5_isReached_18 R x1 x2 Q S0)))))
def wp_X5_isReached : Nat → (St × (Nat → St)) → Int32 → Int32 → (Int32 → (St × (Nat → St)) → Prop) → Prop
  | 0, _, _, _, _ => False
  | d + 1, S0, x1, x2, Q => wp_X5_isReached_b (wp_X5_isReached d) S0 x1 x2 Q
set_option maxRecDepth 100000 in
set_option maxHeartbeats 4000000 in
theorem c_X5_isReached_b (l : Launch) (D : va_G) (k : Nat → ClassId) (d : Nat) (R : (St × (Nat → St)) → Int32 → Int32 → (Int32 → (St × (Nat → St)) → Prop) → Prop) (hR : ∀ (a : Nat → Nat) (S0 : St × (Nat → St)) (sz : Nat) (x1 : Int32) (x2 : Int32) (Q : Int32 → (St × (Nat → St)) → Prop), R S0 x1 x2 Q → Met l yX5_isReached wsX5_isReached (rmX5_isReached d) (cPc D k (wWi k a S0) [.ref (a 0), .int x1, .int x2] sz) (va_Qi (fun (r : Int32) (u : (St × (Nat → St))) => Q r u) (cB D k (va_A (wWi k a S0) sz) (fun u : (St × (Nat → St)) => wWi k a u)) (va_A (wWi k a S0) sz)) 0 0 (va_A (wWi k a S0) sz)) (a : Nat → Nat) (S0 : St × (Nat → St)) (sz : Nat) (x1 : Int32) (x2 : Int32) (Q : Int32 → (St × (Nat → St)) → Prop) (h : wp_X5_isReached_b R S0 x1 x2 Q) : Met l yX5_isReached wsX5_isReached (rmX5_isReached (d + 1)) (cPc D k (wWi k a S0) [.ref (a 0), .int x1, .int x2] sz) (va_Qi (fun (r : Int32) (u : (St × (Nat → St))) => Q r u) (cB D k (va_A (wWi k a S0) sz) (fun u : (St × (Nat → St)) => wWi k a u)) (va_A (wWi k a S0) sz)) 0 0 (va_A (wWi k a S0) sz) := by
  refine ct_entry (cc := cX5_isReached) (maxL := 5) (ret := (some .boolean)) (Rn := RX5) (Qc := fun A => (va_Qi (fun (r : Int32) (u : (St × (Nat → St))) => Q r u) (cB D k A (fun u : (St × (Nat → St)) => wWi k a u)) A)) (by decide) rfl rfl (Nat.le_of_ble_eq_true rfl) ?_
  intro p e s m below meth c hx hb hr hlocks hml hts hown hnw hK A hA H locs hP hD hS ls hl
  have hl : lv_has ls 5 [(0, .ref (a 0)), (1, .int x1), (2, .int x2)] := hl
  have ln_11 := hts (.fieldLink RX5 11 "WithTheSameOne$Wishes" "minds" "[LWithTheSameOne$Floor;") (by decide +kernel)
  have ln_18 := hts (.fieldLink RX5 18 "WithTheSameOne$Wishes" "one" "I") (by decide +kernel)
  have ln_22 := hts (.fieldLink RX5 22 "WithTheSameOne$Wishes" "other" "I") (by decide +kernel)
  have in_Wi : ∀ w ∈ wsX50, w ∈ wsX5_isReached := fun _ h => List.mem_cons_of_mem _ (List.mem_append_left _ (List.mem_append_right _ h))
  have L_18 : ∀ (S0 : St × (Nat → St)), vp_in x1 3 → ∀ (H : Heap) (locs : List Loc) (ls : Array Slot), va_P D vwCl (wWi k a S0) H → va_D A (wWi k a S0) → va_S A s.heap H locs → lv_has ls 5 [(0, .ref (a 0)), (3, .ref (a (2 + 5 * x1.toNatClampNeg)))] → wp_X5_isReached_18 R x1 x2 Q S0 → W p l e (rmX5_isReached (d + 1)) s m ([.ref (a 0), .int x1, .int x2] : List Value).toArray below meth c H locs 0 0 (MQ below (va_Qi (fun (r : Int32) (u : (St × (Nat → St))) => Q r u) (cB D k A (fun u : (St × (Nat → St)) => wWi k a u)) A) ([.ref (a 0), .int x1, .int x2] : List Value).toArray s 0 0 A) (F0 m 18 ls []) := by
    intro S0 hv_0 H locs ls hP hD hS hl h
    unfold wp_X5_isReached_18 at h
    refine lv_aload_n hx hb dX5_isReached_18 rfl (lv_at hl 1 rfl) ?_
    refine lv_aload_n hx hb dX5_isReached_19 rfl (lv_at hl 0 rfl) ?_
    refine va_get (D := D) (ci := 5) (v := .int (S0.1.1 1)) (C := RX5) (T := TX5) (N := 3) hx hb hts in_Wi hown hK hP 0 rfl rfl 1 (by decide) ln_18 (fun _ h9 => h9) rfl dX5_isReached_20 ?_
    refine lv_aload_n hx hb dX5_isReached_23 rfl (lv_at hl 0 rfl) ?_
    refine va_get (D := D) (ci := 5) (v := .int (S0.1.1 2)) (C := RX5) (T := TX5) (N := 3) hx hb hts in_Wi hown hK hP 0 rfl rfl 2 (by decide) ln_22 (fun _ h9 => h9) rfl dX5_isReached_24 ?_
    have hPc := fc17_P (vp_lt hv_0) hP
    have hDc := fc17_D (vp_lt hv_0) hD
    have hFc := fr_self hDc hS hA
    refine gv_i (va_runV (As := [.int (S0.1.1 1), .int (S0.1.1 2)]) (rest := []) ⟨hx, hb, hml, hown, hts⟩ (c_X2_isAllowed l D k (sh a (2 + 5 * x1.toNatClampNeg)) (S0.2 x1.toNatClampNeg) H.size (S0.1.1 1) (S0.1.1 2) _ h) (cwV 2 hts gX5_isReached_X2_isAllowed rfl rfl rfl (by decide +kernel) ⟨Nat.le_add_right_of_le (Nat.le_of_ble_eq_true rfl), Nat.le_add_right_of_le (Nat.le_of_ble_eq_true rfl)⟩) (gv_preV hK hnw hPc hDc (ci := 2) rfl 0 rfl) rfl rfl hl.1 rfl (lv_room (Nat.le_of_ble_eq_true rfl)) dX5_isReached_27 ⟨Nat.zero_le _, Nat.zero_le _⟩) hS hFc (fun r_3 u_4 H locs h hP1 hD1 hk1 hS => ?_)
    obtain ⟨hP, hD⟩ := fc17_J (vp_lt hv_0) hP hD hk1 hFc hP1 hD1
    obtain ⟨S_5, e_6⟩ : ∃ z : St × (Nat → St), z = (S0.1, va_up S0.2 x1.toNatClampNeg u_4) := ⟨_, rfl⟩
    have h := h S_5 e_6
    have hP : va_P D vwCl (wWi k a S_5) H := by rw [e_6]; exact hP
    have hD : va_D A (wWi k a S_5) := by rw [e_6]; exact hD
    exact W.zret (v := r_3) hx hb hr (bz_narrow h.1) (fun t ht hW => ⟨⟨r_3, S_5, rfl, h.2, by rw [ht]; exact hP, va_K.moved hW.alike hK, hD⟩, hS.F ht⟩) hS.2.2 dX5_isReached_30
  have L_34 : ∀ (n : Nat), ∀ (S0 : St × (Nat → St)) (x4 : Int32), vp_in x1 3 → ∀ (H : Heap) (locs : List Loc) (ls : Array Slot), va_P D vwCl (wWi k a S0) H → va_D A (wWi k a S0) → va_S A s.heap H locs → lv_has ls 5 [(0, .ref (a 0)), (1, .int x1), (2, .int x2), (3, .ref (a (2 + 5 * x1.toNatClampNeg))), (4, .int x4)] → wp_X5_isReached_34 R x1 x2 Q n S0 x4 → W p l e (rmX5_isReached (d + 1)) s m ([.ref (a 0), .int x1, .int x2] : List Value).toArray below meth c H locs 0 0 (MQ below (va_Qi (fun (r : Int32) (u : (St × (Nat → St))) => Q r u) (cB D k A (fun u : (St × (Nat → St)) => wWi k a u)) A) ([.ref (a 0), .int x1, .int x2] : List Value).toArray s 0 0 A) (F0 m 34 ls []) := by
    intro n
    induction n with
    | zero => intro S0 x4 hv_0 H locs ls hP hD hS hl h; exact absurd h (by unfold wp_X5_isReached_34; exact id)
    | succ n ih =>
      intro S0 x4 hv_0 H locs ls hP hD hS hl h
      unfold wp_X5_isReached_34 at h
      refine lv_iload hx hb dX5_isReached_34 (lv_at hl 4 rfl) ?_
      refine lv_bipush (v := (67 : Int32)) hx hb dX5_isReached_36 (by decide) ?_
      refine lv_icmp_gt (tgt := 69) hx hb dX5_isReached_38 (by decide) (fun c_8 => ?_) (fun c_8 => ?_)
      · have h := h.1 c_8
        refine lv_iconst (v := (0 : Int32)) hx hb dX5_isReached_69 (by decide) ?_
        exact W.zret (v := (0 : Int32)) hx hb hr rfl (fun t ht hW => ⟨⟨(0 : Int32), S0, rfl, h, by rw [ht]; exact hP, va_K.moved hW.alike hK, hD⟩, hS.F ht⟩) hS.2.2 dX5_isReached_70
      · have h := h.2 c_8
        refine lv_aload_n hx hb dX5_isReached_41 rfl (lv_at hl 3 rfl) ?_
        refine lv_iload hx hb dX5_isReached_42 (lv_at hl 4 rfl) ?_
        have hPc := fc17_P (vp_lt hv_0) hP
        have hDc := fc17_D (vp_lt hv_0) hD
        have hFc := fr_self hDc hS hA
        refine gv_i (va_runV (As := [.int x4]) (rest := []) ⟨hx, hb, hml, hown, hts⟩ (c_X2_isOpenPair l D k (sh a (2 + 5 * x1.toNatClampNeg)) (S0.2 x1.toNatClampNeg) H.size x4 _ h) (cwV 1 hts gX5_isReached_X2_isOpenPair rfl rfl rfl (by decide +kernel) ⟨Nat.le_add_right_of_le (Nat.le_of_ble_eq_true rfl), Nat.le_add_right_of_le (Nat.le_of_ble_eq_true rfl)⟩) (gv_preV hK hnw hPc hDc (ci := 2) rfl 0 rfl) rfl rfl hl.1 rfl (lv_room (Nat.le_of_ble_eq_true rfl)) dX5_isReached_44 ⟨Nat.zero_le _, Nat.zero_le _⟩) hS hFc (fun r_9 u_10 H locs h hP1 hD1 hk1 hS => ?_)
        obtain ⟨hP, hD⟩ := fc17_J (vp_lt hv_0) hP hD hk1 hFc hP1 hD1
        obtain ⟨S_11, e_12⟩ : ∃ z : St × (Nat → St), z = (S0.1, va_up S0.2 x1.toNatClampNeg u_10) := ⟨_, rfl⟩
        have h := h S_11 e_12
        have hP : va_P D vwCl (wWi k a S_11) H := by rw [e_12]; exact hP
        have hD : va_D A (wWi k a S_11) := by rw [e_12]; exact hD
        refine lv_if_eq (tgt := 63) hx hb dX5_isReached_47 (by decide) (fun c_13 => ?_) (fun c_13 => ?_)
        · have h := h.1 c_13
          refine lv_iinc (v := (x4 + 1)) (lv' := [(4, .int (x4 + 1)), (0, .ref (a 0)), (1, .int x1), (2, .int x2), (3, .ref (a (2 + 5 * x1.toNatClampNeg)))]) hx hb dX5_isReached_63 hl (k := 4) rfl rfl (by decide) rfl (fun ls hl => ?_)
          refine lv_goto (tgt := 34) hx hb dX5_isReached_66 (by decide) ?_
          exact ih S_11 (x4 + 1) hv_0 H locs ls hP hD hS (lv_sub hl [1, 2, 3, 4, 0] rfl) h
        · have h := h.2 c_13
          refine lv_aload_n hx hb dX5_isReached_50 rfl (lv_at hl 0 rfl) ?_
          refine lv_iload hx hb dX5_isReached_51 (lv_at hl 4 rfl) ?_
          refine lv_iload_n hx hb dX5_isReached_53 rfl (lv_at hl 1 rfl) ?_
          refine lv_iload_n hx hb dX5_isReached_54 rfl (lv_at hl 2 rfl) ?_
          have hFc := fr_self hD hS hA
          refine gv_i (va_runV (As := [.int x4, .int x1, .int x2]) (rest := []) ⟨hx, hb, hml, hown, hts⟩ (c_X5_isReachedBy l D k d R hR a S_11 H.size x4 x1 x2 _ h) (cwV 3 hts gX5_isReached_X5_isReachedBy rfl rfl rfl (by decide +kernel) ⟨by show 5 + (2 * d + 1) + 1 ≤ 5 + (2 * (d + 1)); omega, by show 8 + (10 + 11) + (118 + (53 * d + 24)) ≤ 118 + (53 * (d + 1)); omega⟩) (gv_preV hK hnw hP hD (ci := 5) rfl 0 rfl) rfl rfl hl.1 rfl (lv_room (Nat.le_of_ble_eq_true rfl)) dX5_isReached_55 ⟨Nat.zero_le _, Nat.zero_le _⟩) hS hFc (fun r_14 u_15 H locs h hP1 hD1 hk1 hS => ?_)
          have hP := hP1
          have hD := hD1.weaken (fun _ _ _ z => hFc _ z)
          refine lv_if_eq (tgt := 63) hx hb dX5_isReached_58 (by decide) (fun c_16 => ?_) (fun c_16 => ?_)
          · have h := h.1 c_16
            refine lv_iinc (v := (x4 + 1)) (lv' := [(4, .int (x4 + 1)), (0, .ref (a 0)), (1, .int x1), (2, .int x2), (3, .ref (a (2 + 5 * x1.toNatClampNeg)))]) hx hb dX5_isReached_63 hl (k := 4) rfl rfl (by decide) rfl (fun ls hl => ?_)
            refine lv_goto (tgt := 34) hx hb dX5_isReached_66 (by decide) ?_
            exact ih u_15 (x4 + 1) hv_0 H locs ls hP hD hS (lv_sub hl [1, 2, 3, 4, 0] rfl) h
          · have h := h.2 c_16
            refine lv_iconst (v := (1 : Int32)) hx hb dX5_isReached_61 (by decide) ?_
            exact W.zret (v := (1 : Int32)) hx hb hr rfl (fun t ht hW => ⟨⟨(1 : Int32), u_15, rfl, h, by rw [ht]; exact hP, va_K.moved hW.alike hK, hD⟩, hS.F ht⟩) hS.2.2 dX5_isReached_62
  unfold wp_X5_isReached_b at h
  refine lv_aload_n hx hb dX5_isReached_0 rfl (lv_at hl 0 rfl) ?_
  refine va_get (D := D) (ci := 5) (v := .ref (a 1)) (C := RX5) (T := TX5) (N := 3) hx hb hts in_Wi hown hK hP 0 rfl rfl 0 (by decide) ln_11 (fun _ h9 => h9) rfl dX5_isReached_1 ?_
  refine lv_iload_n hx hb dX5_isReached_4 rfl (lv_at hl 1 rfl) ?_
  refine va_aldq (C := RX2) hx hb hK hP 1 1 rfl rfl h.1 dX5_isReached_5 ?_
  have hv_1 := h.1
  have h := h.2
  refine W.eq (g2 := F0 m 6 ls [.ref (a (2 + 5 * x1.toNatClampNeg))]) rfl ?_
  refine lv_astore_n (lv' := [(3, .ref (a (2 + 5 * x1.toNatClampNeg))), (0, .ref (a 0)), (1, .int x1), (2, .int x2)]) hx hb dX5_isReached_6 rfl hl (by decide) rfl (fun ls hl => ?_)
  refine lv_iload_n hx hb dX5_isReached_7 rfl (lv_at hl 3 rfl) ?_
  refine lv_if_le (tgt := 18) hx hb dX5_isReached_8 (by decide) (fun c_2 => ?_) (fun c_2 => ?_)
  · have h := h.1 c_2
    exact L_18 S0 hv_1 H locs ls hP hD hS (lv_sub hl [1, 0] rfl) h
  · have h := h.2 c_2
    refine lv_iload_n hx hb dX5_isReached_11 rfl (lv_at hl 2 rfl) ?_
    refine lv_iconst (v := (1 : Int32)) hx hb dX5_isReached_12 (by decide) ?_
    refine lv_iadd hx hb dX5_isReached_13 ?_
    refine lv_iconst (v := (3 : Int32)) hx hb dX5_isReached_14 (by decide) ?_
    refine lv_icmp_lt (tgt := 31) hx hb dX5_isReached_15 (by decide) (fun c_7 => ?_) (fun c_7 => ?_)
    · have h := h.1 c_7
      refine lv_iconst (v := (1 : Int32)) hx hb dX5_isReached_31 (by decide) ?_
      refine lv_istore (lv' := [(4, .int (1 : Int32)), (3, .ref (a (2 + 5 * x1.toNatClampNeg))), (0, .ref (a 0)), (1, .int x1), (2, .int x2)]) hx hb dX5_isReached_32 hl (by decide) rfl (fun ls hl => ?_)
      obtain ⟨n_17, h⟩ := h
      exact L_34 n_17 S0 (1 : Int32) hv_1 H locs ls hP hD hS (lv_sub hl [2, 3, 4, 1, 0] rfl) h
    · have h := h.2 c_7
      exact L_18 S0 hv_1 H locs ls hP hD hS (lv_sub hl [1, 0] rfl) h
theorem c_X5_isReached (l : Launch) (D : va_G) (k : Nat → ClassId) : ∀ (d : Nat) (a : Nat → Nat) (S0 : St × (Nat → St)) (sz : Nat) (x1 : Int32) (x2 : Int32) (Q : Int32 → (St × (Nat → St)) → Prop), wp_X5_isReached d S0 x1 x2 Q → Met l yX5_isReached wsX5_isReached (rmX5_isReached d) (cPc D k (wWi k a S0) [.ref (a 0), .int x1, .int x2] sz) (va_Qi (fun (r : Int32) (u : (St × (Nat → St))) => Q r u) (cB D k (va_A (wWi k a S0) sz) (fun u : (St × (Nat → St)) => wWi k a u)) (va_A (wWi k a S0) sz)) 0 0 (va_A (wWi k a S0) sz) := by
  intro d
  induction d with
  | zero => intro a S0 sz x1 x2 Q h; exact absurd h (by unfold wp_X5_isReached; exact id)
  | succ d ih => intro a S0 sz x1 x2 Q h; exact c_X5_isReached_b l D k d (wp_X5_isReached d) ih a S0 sz x1 x2 Q (by unfold wp_X5_isReached at h; exact h)
/-! X5_leastDances -/
def wp_X5_leastDances_34 (x2 : Int32) (x3 : Int32) (Q : Int32 → (St × (Nat → St)) → St → Prop) : Nat → (St × (Nat → St)) → St → Int32 → Prop
  | 0, _, _, _ => False
  | n + 1, S0, S1, x4 => (((3 : Int32) ≤ x4) → (Q (-9 : Int32) S0 S1)) ∧ ((¬ (3 : Int32) ≤ x4) → (wp_X5_isReached 4 S0 (0 : Int32) x4 (fun r_15 u_16 => ((r_15 = 0) → (wp_X5_leastDances_34 x2 x3 Q n u_16 S1 (x4 + 1))) ∧ ((¬ r_15 = 0) → (Q (x4 + (1 : Int32)) u_16 S1)))))
def wp_X5_leastDances (S0 : St × (Nat → St)) (S1 : St) (x2 : Int32) (x3 : Int32) (Q : Int32 → (St × (Nat → St)) → St → Prop) : Prop := wp_X2_haveDanced S1 x2 x3 (fun r_1 u_2 => ((r_1 = 0) → (∀ S_4, S_4 = ((sI S0.1 1 x2), S0.2) → (∀ S_6, S_6 = ((sI S_4.1 2 x3), S_4.2) → (wp_X2_copyFrom (S_6.2 0) u_2 (fun u_9 u_10 => ∀ S_12, S_12 = (S_6.1, va_up S_6.2 0 u_9) → (∃ i, wp_X5_leastDances_34 x2 x3 Q i S_12 u_10 (0 : Int32))))))) ∧ ((¬ r_1 = 0) → (Q (0 : Int32) S0 u_2)))
abbrev rmX5_leastDances : Room := { frames := 14, cells := 0, slots := 0, locals := 354 }
set_option maxRecDepth 100000 in
set_option maxHeartbeats 4000000 in
theorem c_X5_leastDances (l : Launch) (D : va_G) (k : Nat → ClassId) (a : Nat → Nat) (b : Nat → Nat) (S0 : St × (Nat → St)) (S1 : St) (sz : Nat) (x2 : Int32) (x3 : Int32) (Q : Int32 → (St × (Nat → St)) → St → Prop) (h : wp_X5_leastDances S0 S1 x2 x3 Q) : Met l yX5_leastDances wsX5_leastDances rmX5_leastDances (cPc D k (wWi k a S0 ++ wFl k b S1) [.ref (a 0), .ref (b 0), .int x2, .int x3] sz) (va_Qi (fun (r : Int32) (u : (St × (Nat → St)) × St) => Q r u.1 u.2) (cB D k (va_A (wWi k a S0 ++ wFl k b S1) sz) (fun u : (St × (Nat → St)) × St => wWi k a u.1 ++ wFl k b u.2)) (va_A (wWi k a S0 ++ wFl k b S1) sz)) 0 0 (va_A (wWi k a S0 ++ wFl k b S1) sz) := by
  refine ct_entry (cc := cX5_leastDances) (maxL := 5) (ret := (some .int)) (Rn := RX5) (Qc := fun A => (va_Qi (fun (r : Int32) (u : (St × (Nat → St)) × St) => Q r u.1 u.2) (cB D k A (fun u : (St × (Nat → St)) × St => wWi k a u.1 ++ wFl k b u.2)) A)) (by decide) rfl rfl (Nat.le_of_ble_eq_true rfl) ?_
  intro p e s m below meth c hx hb hr hlocks hml hts hown hnw hK A hA H locs hP hD hS ls hl
  have hl : lv_has ls 5 [(0, .ref (a 0)), (1, .ref (b 0)), (2, .int x2), (3, .int x3)] := hl
  have ln_11 := hts (.fieldLink RX5 11 "WithTheSameOne$Wishes" "minds" "[LWithTheSameOne$Floor;") (by decide +kernel)
  have ln_18 := hts (.fieldLink RX5 18 "WithTheSameOne$Wishes" "one" "I") (by decide +kernel)
  have ln_22 := hts (.fieldLink RX5 22 "WithTheSameOne$Wishes" "other" "I") (by decide +kernel)
  have in_Wi : ∀ w ∈ wsX50, w ∈ wsX5_leastDances := fun _ h => List.mem_cons_of_mem _ (List.mem_append_left _ (List.mem_append_right _ h))
  have L_34 : ∀ (n : Nat), ∀ (S0 : St × (Nat → St)) (S1 : St) (x4 : Int32), ∀ (H : Heap) (locs : List Loc) (ls : Array Slot), va_P D vwCl (wWi k a S0 ++ wFl k b S1) H → va_D A (wWi k a S0 ++ wFl k b S1) → va_S A s.heap H locs → lv_has ls 5 [(0, .ref (a 0)), (4, .int x4)] → wp_X5_leastDances_34 x2 x3 Q n S0 S1 x4 → W p l e rmX5_leastDances s m ([.ref (a 0), .ref (b 0), .int x2, .int x3] : List Value).toArray below meth c H locs 0 0 (MQ below (va_Qi (fun (r : Int32) (u : (St × (Nat → St)) × St) => Q r u.1 u.2) (cB D k A (fun u : (St × (Nat → St)) × St => wWi k a u.1 ++ wFl k b u.2)) A) ([.ref (a 0), .ref (b 0), .int x2, .int x3] : List Value).toArray s 0 0 A) (F0 m 34 ls []) := by
    intro n
    induction n with
    | zero => intro S0 S1 x4 H locs ls hP hD hS hl h; exact absurd h (by unfold wp_X5_leastDances_34; exact id)
    | succ n ih =>
      intro S0 S1 x4 H locs ls hP hD hS hl h
      unfold wp_X5_leastDances_34 at h
      refine lv_iload hx hb dX5_leastDances_34 (lv_at hl 1 rfl) ?_
      refine lv_iconst (v := (3 : Int32)) hx hb dX5_leastDances_36 (by decide) ?_
      refine lv_icmp_ge (tgt := 61) hx hb dX5_leastDances_37 (by decide) (fun c_14 => ?_) (fun c_14 => ?_)
      · have h := h.1 c_14
        refine lv_bipush (v := (-9 : Int32)) hx hb dX5_leastDances_61 (by decide) ?_
        exact W.iret (v := (-9 : Int32)) hx hb hr (fun t ht hW => ⟨⟨(-9 : Int32), (S0, S1), rfl, h, by rw [ht]; exact hP, va_K.moved hW.alike hK, hD⟩, hS.F ht⟩) hS.2.2 dX5_leastDances_63
      · have h := h.2 c_14
        refine lv_aload_n hx hb dX5_leastDances_40 rfl (lv_at hl 0 rfl) ?_
        refine lv_iconst (v := (0 : Int32)) hx hb dX5_leastDances_41 (by decide) ?_
        refine lv_iload hx hb dX5_leastDances_42 (lv_at hl 1 rfl) ?_
        have hPc := fc19_P hP
        have hDc := fc19_D hD
        have hFc := fr_self hDc hS hA
        refine gv_i (va_runV (As := [.int (0 : Int32), .int x4]) (rest := []) ⟨hx, hb, hml, hown, hts⟩ (c_X5_isReached l D k 4 a S0 H.size (0 : Int32) x4 _ h) (cwV 2 hts gX5_leastDances_X5_isReached rfl rfl rfl (by decide +kernel) ⟨Nat.le_of_ble_eq_true rfl, Nat.le_of_ble_eq_true rfl⟩) (gv_preV hK hnw hPc hDc (ci := 5) rfl 0 rfl) rfl rfl hl.1 rfl (lv_room (Nat.le_of_ble_eq_true rfl)) dX5_leastDances_44 ⟨Nat.zero_le _, Nat.zero_le _⟩) hS hFc (fun r_15 u_16 H locs h hP1 hD1 hk1 hS => ?_)
        obtain ⟨hP, hD⟩ := fc19_J hP hD hk1 hFc hP1 hD1
        refine lv_if_eq (tgt := 55) hx hb dX5_leastDances_47 (by decide) (fun c_17 => ?_) (fun c_17 => ?_)
        · have h := h.1 c_17
          refine lv_iinc (v := (x4 + 1)) (lv' := [(4, .int (x4 + 1)), (0, .ref (a 0))]) hx hb dX5_leastDances_55 hl (k := 1) rfl rfl (by decide) rfl (fun ls hl => ?_)
          refine lv_goto (tgt := 34) hx hb dX5_leastDances_58 (by decide) ?_
          exact ih u_16 S1 (x4 + 1) H locs ls hP hD hS (lv_sub hl [1, 0] rfl) h
        · have h := h.2 c_17
          refine lv_iload hx hb dX5_leastDances_50 (lv_at hl 1 rfl) ?_
          refine lv_iconst (v := (1 : Int32)) hx hb dX5_leastDances_52 (by decide) ?_
          refine lv_iadd hx hb dX5_leastDances_53 ?_
          exact W.iret (v := (x4 + (1 : Int32))) hx hb hr (fun t ht hW => ⟨⟨(x4 + (1 : Int32)), (u_16, S1), rfl, h, by rw [ht]; exact hP, va_K.moved hW.alike hK, hD⟩, hS.F ht⟩) hS.2.2 dX5_leastDances_54
  unfold wp_X5_leastDances at h
  refine lv_aload_n hx hb dX5_leastDances_0 rfl (lv_at hl 1 rfl) ?_
  refine lv_iload_n hx hb dX5_leastDances_1 rfl (lv_at hl 2 rfl) ?_
  refine lv_iload_n hx hb dX5_leastDances_2 rfl (lv_at hl 3 rfl) ?_
  have hPc := fc15_P hP
  have hDc := fc15_D hD
  have hFc := fr_self hDc hS hA
  refine gv_i (va_runV (As := [.int x2, .int x3]) (rest := []) ⟨hx, hb, hml, hown, hts⟩ (c_X2_haveDanced l D k b S1 H.size x2 x3 _ h) (cwV 2 hts gX5_leastDances_X2_haveDanced rfl rfl rfl (by decide +kernel) ⟨Nat.le_of_ble_eq_true rfl, Nat.le_of_ble_eq_true rfl⟩) (gv_preV hK hnw hPc hDc (ci := 2) rfl 0 rfl) rfl rfl hl.1 rfl (lv_room (Nat.le_of_ble_eq_true rfl)) dX5_leastDances_3 ⟨Nat.zero_le _, Nat.zero_le _⟩) hS hFc (fun r_1 u_2 H locs h hP1 hD1 hk1 hS => ?_)
  obtain ⟨hP, hD⟩ := fc15_J hP hD hk1 hFc hP1 hD1
  refine lv_if_eq (tgt := 11) hx hb dX5_leastDances_6 (by decide) (fun c_3 => ?_) (fun c_3 => ?_)
  · have h := h.1 c_3
    refine lv_aload_n hx hb dX5_leastDances_11 rfl (lv_at hl 0 rfl) ?_
    refine lv_iload_n hx hb dX5_leastDances_12 rfl (lv_at hl 2 rfl) ?_
    refine va_put (D := D) (ci := 5) (v := .int x2) (ty := .int) (C := RX5) (T := TX5) (N := 3) hx hb hts in_Wi tyX5 tyX5_ok nmX5 hown hK hP hD hS 0 rfl rfl 1 (by decide) ln_18 (fun _ h9 => h9) rfl (by decide +kernel) rfl rfl (Nat.le_of_ble_eq_true rfl) dX5_leastDances_13 (fun H locs hP hD hS => ?_)
    obtain ⟨S_4, e_5⟩ : ∃ z : St × (Nat → St), z = ((sI S0.1 1 x2), S0.2) := ⟨_, rfl⟩
    have h := h S_4 e_5
    have hP : va_P D vwCl (wWi k a S_4 ++ wFl k b u_2) H := by rw [e_5]; exact hP
    have hD : va_D A (wWi k a S_4 ++ wFl k b u_2) := by rw [e_5]; exact hD
    refine lv_aload_n hx hb dX5_leastDances_16 rfl (lv_at hl 0 rfl) ?_
    refine lv_iload_n hx hb dX5_leastDances_17 rfl (lv_at hl 3 rfl) ?_
    refine va_put (D := D) (ci := 5) (v := .int x3) (ty := .int) (C := RX5) (T := TX5) (N := 3) hx hb hts in_Wi tyX5 tyX5_ok nmX5 hown hK hP hD hS 0 rfl rfl 2 (by decide) ln_22 (fun _ h9 => h9) rfl (by decide +kernel) rfl rfl (Nat.le_of_ble_eq_true rfl) dX5_leastDances_18 (fun H locs hP hD hS => ?_)
    obtain ⟨S_6, e_7⟩ : ∃ z : St × (Nat → St), z = ((sI S_4.1 2 x3), S_4.2) := ⟨_, rfl⟩
    have h := h S_6 e_7
    have hP : va_P D vwCl (wWi k a S_6 ++ wFl k b u_2) H := by rw [e_7]; exact hP
    have hD : va_D A (wWi k a S_6 ++ wFl k b u_2) := by rw [e_7]; exact hD
    refine lv_aload_n hx hb dX5_leastDances_21 rfl (lv_at hl 0 rfl) ?_
    refine va_get (D := D) (ci := 5) (v := .ref (a 1)) (C := RX5) (T := TX5) (N := 3) hx hb hts in_Wi hown hK hP 0 rfl rfl 0 (by decide) ln_11 (fun _ h9 => h9) rfl dX5_leastDances_22 ?_
    refine lv_iconst (v := (0 : Int32)) hx hb dX5_leastDances_25 (by decide) ?_
    refine va_aldq (C := RX2) hx hb hK hP 1 1 rfl rfl (vp0 (by decide)) dX5_leastDances_26 ?_
    refine W.eq (g2 := F0 m 27 ls [.ref (a 2)]) rfl ?_
    refine lv_aload_n hx hb dX5_leastDances_27 rfl (lv_at hl 1 rfl) ?_
    have hPc := fc16_P hP
    have hDc := fc16_D hD
    have hFc := fr_self hDc hS hA
    refine gv_v (va_runV (As := [.ref (b 0)]) (rest := []) ⟨hx, hb, hml, hown, hts⟩ (c_X2_copyFrom l D k (sh a 2) b (S_6.2 0) u_2 H.size _ h) (cwV 1 hts gX5_leastDances_X2_copyFrom rfl rfl rfl (by decide +kernel) ⟨Nat.le_of_ble_eq_true rfl, Nat.le_of_ble_eq_true rfl⟩) (gv_preV hK hnw hPc hDc (ci := 2) rfl 0 rfl) rfl rfl hl.1 rfl (lv_room (Nat.le_of_ble_eq_true rfl)) dX5_leastDances_28 ⟨Nat.zero_le _, Nat.zero_le _⟩) hS hFc (fun w_11 H locs h hP1 hD1 hk1 hS => ?_)
    obtain ⟨u_9, u_10⟩ := w_11
    obtain ⟨hP, hD⟩ := fc16_J hP hD hk1 hFc hP1 hD1
    obtain ⟨S_12, e_13⟩ : ∃ z : St × (Nat → St), z = (S_6.1, va_up S_6.2 0 u_9) := ⟨_, rfl⟩
    have h := h S_12 e_13
    have hP : va_P D vwCl (wWi k a S_12 ++ wFl k b u_10) H := by rw [e_13]; exact hP
    have hD : va_D A (wWi k a S_12 ++ wFl k b u_10) := by rw [e_13]; exact hD
    refine lv_iconst (v := (0 : Int32)) hx hb dX5_leastDances_31 (by decide) ?_
    refine lv_istore (lv' := [(4, .int (0 : Int32)), (0, .ref (a 0)), (1, .ref (b 0)), (2, .int x2), (3, .int x3)]) hx hb dX5_leastDances_32 hl (by decide) rfl (fun ls hl => ?_)
    obtain ⟨n_18, h⟩ := h
    exact L_34 n_18 S_12 u_10 (0 : Int32) H locs ls hP hD hS (lv_sub hl [1, 0] rfl) h
  · have h := h.2 c_3
    refine lv_iconst (v := (0 : Int32)) hx hb dX5_leastDances_9 (by decide) ?_
    exact W.iret (v := (0 : Int32)) hx hb hr (fun t ht hW => ⟨⟨(0 : Int32), (S0, u_2), rfl, h, by rw [ht]; exact hP, va_K.moved hW.alike hK, hD⟩, hS.F ht⟩) hS.2.2 dX5_leastDances_10
/-! X6_refuse -/
def wp_X6_refuse (S0 : CS) (x1 : Int32) (Q : Int32 → CS → Prop) : Prop := vp_in (-x1) 7 ∧ (vp_in (-x1) 7 ∧ (∀ S_1, S_1 = (xo S0 (sA S0.1 6 (-x1).toNatClampNeg ((S0.1.2 6 (-x1).toNatClampNeg) + (1 : Int32)))) → (Q x1 S_1)))
abbrev rmX6_refuse : Room := { frames := 0, cells := 0, slots := 0, locals := 0 }
set_option maxRecDepth 100000 in
set_option maxHeartbeats 4000000 in
theorem c_X6_refuse (l : Launch) (D : va_G) (k : Nat → ClassId) (a : Nat → Nat) (S0 : CS) (sz : Nat) (x1 : Int32) (Q : Int32 → CS → Prop) (h : wp_X6_refuse S0 x1 Q) : Met l yX6_refuse wsX6_refuse rmX6_refuse (cPc D k (wMa k a S0) [.ref (a 0), .int x1] sz) (va_Qi (fun (r : Int32) (u : CS) => Q r u) (cB D k (va_A (wMa k a S0) sz) (fun u : CS => wMa k a u)) (va_A (wMa k a S0) sz)) 0 0 (va_A (wMa k a S0) sz) := by
  refine ct_entry (cc := cX6_refuse) (maxL := 2) (ret := (some .int)) (Rn := RX6) (Qc := fun A => (va_Qi (fun (r : Int32) (u : CS) => Q r u) (cB D k A (fun u : CS => wMa k a u)) A)) (by decide) rfl rfl (Nat.le_of_ble_eq_true rfl) ?_
  intro p e s m below meth c hx hb hr hlocks hml hts hown hnw hK A hA H locs hP hD hS ls hl
  have hl : lv_has ls 2 [(0, .ref (a 0)), (1, .int x1)] := hl
  have ln_47 := hts (.fieldLink RX6 47 "WithTheSameOne" "refusals" "[I") (by decide +kernel)
  have in_Ma : ∀ w ∈ wsX60, w ∈ wsX6_refuse := fun _ h => List.mem_cons_of_mem _ (List.mem_append_right _ h)
  unfold wp_X6_refuse at h
  refine lv_aload_n hx hb dX6_refuse_0 rfl (lv_at hl 0 rfl) ?_
  refine va_get (D := D) (ci := 6) (v := .ref (a 1)) (C := RX6) (T := TX6) (N := 8) hx hb hts in_Ma hown hK hP 0 rfl rfl 6 (by decide) ln_47 (fun _ h9 => h9) rfl dX6_refuse_1 ?_
  refine lv_iload_n hx hb dX6_refuse_4 rfl (lv_at hl 1 rfl) ?_
  refine lv_ineg hx hb dX6_refuse_5 ?_
  refine lv_dup2_11 hx hb dX6_refuse_6 rfl rfl ?_
  refine va_iald hx hb hK hP 1 0 rfl rfl h.1 dX6_refuse_7 ?_
  have h := h.2
  refine lv_iconst (v := (1 : Int32)) hx hb dX6_refuse_8 (by decide) ?_
  refine lv_iadd hx hb dX6_refuse_9 ?_
  refine va_iast hx hb hK hP hD hS 1 0 rfl rfl h.1 dX6_refuse_10 (fun H locs hP hD hS => ?_)
  have h := h.2
  obtain ⟨S_1, e_2⟩ : ∃ z : CS, z = (xo S0 (sA S0.1 6 (-x1).toNatClampNeg ((S0.1.2 6 (-x1).toNatClampNeg) + (1 : Int32)))) := ⟨_, rfl⟩
  have h := h S_1 e_2
  have hP : va_P D vwCl (wMa k a S_1) H := by rw [e_2]; exact hP
  have hD : va_D A (wMa k a S_1) := by rw [e_2]; exact hD
  refine lv_iload_n hx hb dX6_refuse_11 rfl (lv_at hl 1 rfl) ?_
  exact W.iret (v := x1) hx hb hr (fun t ht hW => ⟨⟨x1, S_1, rfl, h, by rw [ht]; exact hP, va_K.moved hW.alike hK, hD⟩, hS.F ht⟩) hS.2.2 dX6_refuse_12
/-! X6_feed -/
def wp_X6_feed (S0 : CS) (x1 : Int32) (Q : Int32 → CS → Prop) : Prop := ((0 ≤ x1) → ((((255 : Int32) < x1) → (wp_X6_refuse S0 (-6 : Int32) (fun r_3 u_4 => Q r_3 u_4))) ∧ ((¬ (255 : Int32) < x1) → ((((S0.2.2.2.1.1.1 0) < (64 : Int32)) → (wp_X4_append S0.2.2.2.1 x1 (fun r_6 u_7 => ∀ S_8, S_8 = (xl S0 u_7) → (Q r_6 S_8)))) ∧ ((¬ (S0.2.2.2.1.1.1 0) < (64 : Int32)) → (wp_X6_refuse S0 (-6 : Int32) (fun r_10 u_11 => Q r_10 u_11))))))) ∧ ((¬ 0 ≤ x1) → (wp_X6_refuse S0 (-4 : Int32) (fun r_12 u_13 => Q r_12 u_13)))
abbrev rmX6_feed : Room := { frames := 1, cells := 0, slots := 0, locals := 21 }
set_option maxRecDepth 100000 in
set_option maxHeartbeats 4000000 in
theorem c_X6_feed (l : Launch) (D : va_G) (k : Nat → ClassId) (a : Nat → Nat) (S0 : CS) (sz : Nat) (x1 : Int32) (Q : Int32 → CS → Prop) (h : wp_X6_feed S0 x1 Q) : Met l yX6_feed wsX6_feed rmX6_feed (cPc D k (wMa k a S0) [.ref (a 0), .int x1] sz) (va_Qi (fun (r : Int32) (u : CS) => Q r u) (cB D k (va_A (wMa k a S0) sz) (fun u : CS => wMa k a u)) (va_A (wMa k a S0) sz)) 0 0 (va_A (wMa k a S0) sz) := by
  refine ct_entry (cc := cX6_feed) (maxL := 2) (ret := (some .int)) (Rn := RX6) (Qc := fun A => (va_Qi (fun (r : Int32) (u : CS) => Q r u) (cB D k A (fun u : CS => wMa k a u)) A)) (by decide) rfl rfl (Nat.le_of_ble_eq_true rfl) ?_
  intro p e s m below meth c hx hb hr hlocks hml hts hown hnw hK A hA H locs hP hD hS ls hl
  have hl : lv_has ls 2 [(0, .ref (a 0)), (1, .int x1)] := hl
  have ln_22 := hts (.fieldLink RX6 22 "WithTheSameOne" "letters" "LWithTheSameOne$Letters;") (by decide +kernel)
  have ln_59 := hts (.fieldLink RX6 59 "WithTheSameOne$Letters" "length" "I") (by decide +kernel)
  have in_Ma : ∀ w ∈ wsX60, w ∈ wsX6_feed := fun _ h => List.mem_cons_of_mem _ (List.mem_append_left _ (List.mem_append_right _ h))
  have in_Le : ∀ w ∈ wsX40, w ∈ wsX6_feed := fun _ h => List.mem_cons_of_mem _ (List.mem_append_right _ h)
  unfold wp_X6_feed at h
  refine lv_iload_n hx hb dX6_feed_0 rfl (lv_at hl 1 rfl) ?_
  refine lv_if_ge (tgt := 11) hx hb dX6_feed_1 (by decide) (fun c_1 => ?_) (fun c_1 => ?_)
  · have h := h.1 c_1
    refine lv_iload_n hx hb dX6_feed_11 rfl (lv_at hl 1 rfl) ?_
    refine lv_sipush (v := (255 : Int32)) hx hb dX6_feed_12 (by decide) ?_
    refine lv_icmp_gt (tgt := 30) hx hb dX6_feed_15 (by decide) (fun c_2 => ?_) (fun c_2 => ?_)
    · have h := h.1 c_2
      refine lv_aload_n hx hb dX6_feed_30 rfl (lv_at hl 0 rfl) ?_
      refine lv_bipush (v := (-6 : Int32)) hx hb dX6_feed_31 (by decide) ?_
      have hFc := fr_self hD hS hA
      refine gv_i (va_runV (As := [.int (-6 : Int32)]) (rest := []) ⟨hx, hb, hml, hown, hts⟩ (c_X6_refuse l D k a S0 H.size (-6 : Int32) _ h) (cwV 1 hts gX6_feed_X6_refuse rfl rfl rfl (by decide +kernel) ⟨Nat.le_of_ble_eq_true rfl, Nat.le_of_ble_eq_true rfl⟩) (gv_preV hK hnw hP hD (ci := 6) rfl 0 rfl) rfl rfl hl.1 rfl (lv_room (Nat.le_of_ble_eq_true rfl)) dX6_feed_33 ⟨Nat.zero_le _, Nat.zero_le _⟩) hS hFc (fun r_3 u_4 H locs h hP1 hD1 hk1 hS => ?_)
      have hP := hP1
      have hD := hD1.weaken (fun _ _ _ z => hFc _ z)
      exact W.iret (v := r_3) hx hb hr (fun t ht hW => ⟨⟨r_3, u_4, rfl, h, by rw [ht]; exact hP, va_K.moved hW.alike hK, hD⟩, hS.F ht⟩) hS.2.2 dX6_feed_36
    · have h := h.2 c_2
      refine lv_aload_n hx hb dX6_feed_18 rfl (lv_at hl 0 rfl) ?_
      refine va_get (D := D) (ci := 6) (v := .ref (a 12)) (C := RX6) (T := TX6) (N := 8) hx hb hts in_Ma hown hK hP 0 rfl rfl 2 (by decide) ln_22 (fun _ h9 => h9) rfl dX6_feed_19 ?_
      refine va_get (D := D) (ci := 4) (v := .int (S0.2.2.2.1.1.1 0)) (C := RX4) (T := TX4) (N := 3) hx hb hts in_Le hown hK hP 12 rfl rfl 0 (by decide) ln_59 (fun _ h9 => h9) rfl dX6_feed_22 ?_
      refine lv_bipush (v := (64 : Int32)) hx hb dX6_feed_25 (by decide) ?_
      refine lv_icmp_lt (tgt := 37) hx hb dX6_feed_27 (by decide) (fun c_5 => ?_) (fun c_5 => ?_)
      · have h := h.1 c_5
        refine lv_aload_n hx hb dX6_feed_37 rfl (lv_at hl 0 rfl) ?_
        refine va_get (D := D) (ci := 6) (v := .ref (a 12)) (C := RX6) (T := TX6) (N := 8) hx hb hts in_Ma hown hK hP 0 rfl rfl 2 (by decide) ln_22 (fun _ h9 => h9) rfl dX6_feed_38 ?_
        refine lv_iload_n hx hb dX6_feed_41 rfl (lv_at hl 1 rfl) ?_
        have hPc := fc20_P hP
        have hDc := fc20_D hD
        have hFc := fr_self hDc hS hA
        refine gv_i (va_runV (As := [.int x1]) (rest := []) ⟨hx, hb, hml, hown, hts⟩ (c_X4_append l D k (sh a 12) S0.2.2.2.1 H.size x1 _ h) (cwV 1 hts gX6_feed_X4_append rfl rfl rfl (by decide +kernel) ⟨Nat.le_of_ble_eq_true rfl, Nat.le_of_ble_eq_true rfl⟩) (gv_preV hK hnw hPc hDc (ci := 4) rfl 0 rfl) rfl rfl hl.1 rfl (lv_room (Nat.le_of_ble_eq_true rfl)) dX6_feed_42 ⟨Nat.zero_le _, Nat.zero_le _⟩) hS hFc (fun r_6 u_7 H locs h hP1 hD1 hk1 hS => ?_)
        obtain ⟨hP, hD⟩ := fc20_J hP hD hk1 hFc hP1 hD1
        obtain ⟨S_8, e_9⟩ : ∃ z : CS, z = (xl S0 u_7) := ⟨_, rfl⟩
        have h := h S_8 e_9
        have hP : va_P D vwCl (wMa k a S_8) H := by rw [e_9]; exact hP
        have hD : va_D A (wMa k a S_8) := by rw [e_9]; exact hD
        exact W.iret (v := r_6) hx hb hr (fun t ht hW => ⟨⟨r_6, S_8, rfl, h, by rw [ht]; exact hP, va_K.moved hW.alike hK, hD⟩, hS.F ht⟩) hS.2.2 dX6_feed_45
      · have h := h.2 c_5
        refine lv_aload_n hx hb dX6_feed_30 rfl (lv_at hl 0 rfl) ?_
        refine lv_bipush (v := (-6 : Int32)) hx hb dX6_feed_31 (by decide) ?_
        have hFc := fr_self hD hS hA
        refine gv_i (va_runV (As := [.int (-6 : Int32)]) (rest := []) ⟨hx, hb, hml, hown, hts⟩ (c_X6_refuse l D k a S0 H.size (-6 : Int32) _ h) (cwV 1 hts gX6_feed_X6_refuse rfl rfl rfl (by decide +kernel) ⟨Nat.le_of_ble_eq_true rfl, Nat.le_of_ble_eq_true rfl⟩) (gv_preV hK hnw hP hD (ci := 6) rfl 0 rfl) rfl rfl hl.1 rfl (lv_room (Nat.le_of_ble_eq_true rfl)) dX6_feed_33 ⟨Nat.zero_le _, Nat.zero_le _⟩) hS hFc (fun r_10 u_11 H locs h hP1 hD1 hk1 hS => ?_)
        have hP := hP1
        have hD := hD1.weaken (fun _ _ _ z => hFc _ z)
        exact W.iret (v := r_10) hx hb hr (fun t ht hW => ⟨⟨r_10, u_11, rfl, h, by rw [ht]; exact hP, va_K.moved hW.alike hK, hD⟩, hS.F ht⟩) hS.2.2 dX6_feed_36
  · have h := h.2 c_1
    refine lv_aload_n hx hb dX6_feed_4 rfl (lv_at hl 0 rfl) ?_
    refine lv_bipush (v := (-4 : Int32)) hx hb dX6_feed_5 (by decide) ?_
    have hFc := fr_self hD hS hA
    refine gv_i (va_runV (As := [.int (-4 : Int32)]) (rest := []) ⟨hx, hb, hml, hown, hts⟩ (c_X6_refuse l D k a S0 H.size (-4 : Int32) _ h) (cwV 1 hts gX6_feed_X6_refuse rfl rfl rfl (by decide +kernel) ⟨Nat.le_of_ble_eq_true rfl, Nat.le_of_ble_eq_true rfl⟩) (gv_preV hK hnw hP hD (ci := 6) rfl 0 rfl) rfl rfl hl.1 rfl (lv_room (Nat.le_of_ble_eq_true rfl)) dX6_feed_7 ⟨Nat.zero_le _, Nat.zero_le _⟩) hS hFc (fun r_12 u_13 H locs h hP1 hD1 hk1 hS => ?_)
    have hP := hP1
    have hD := hD1.weaken (fun _ _ _ z => hFc _ z)
    exact W.iret (v := r_12) hx hb hr (fun t ht hW => ⟨⟨r_12, u_13, rfl, h, by rw [ht]; exact hP, va_K.moved hW.alike hK, hD⟩, hS.F ht⟩) hS.2.2 dX6_feed_10
/-! X6_ball -/
def wp_X6_ball (S0 : CS) (Q : Int32 → CS → Prop) : Prop := wp_X4_tellAll S0.2.2.2.1 S0.2.1 (fun r_1 u_2 u_3 => ∀ S_5, S_5 = (xf (xl S0 u_2) u_3) → (Q r_1 S_5))
abbrev rmX6_ball : Room := { frames := 5, cells := 0, slots := 0, locals := 111 }
set_option maxRecDepth 100000 in
set_option maxHeartbeats 4000000 in
theorem c_X6_ball (l : Launch) (D : va_G) (k : Nat → ClassId) (a : Nat → Nat) (S0 : CS) (sz : Nat) (Q : Int32 → CS → Prop) (h : wp_X6_ball S0 Q) : Met l yX6_ball wsX6_ball rmX6_ball (cPc D k (wMa k a S0) [.ref (a 0)] sz) (va_Qi (fun (r : Int32) (u : CS) => Q r u) (cB D k (va_A (wMa k a S0) sz) (fun u : CS => wMa k a u)) (va_A (wMa k a S0) sz)) 0 0 (va_A (wMa k a S0) sz) := by
  refine ct_entry (cc := cX6_ball) (maxL := 1) (ret := (some .int)) (Rn := RX6) (Qc := fun A => (va_Qi (fun (r : Int32) (u : CS) => Q r u) (cB D k A (fun u : CS => wMa k a u)) A)) (by decide) rfl rfl (Nat.le_of_ble_eq_true rfl) ?_
  intro p e s m below meth c hx hb hr hlocks hml hts hown hnw hK A hA H locs hP hD hS ls hl
  have hl : lv_has ls 1 [(0, .ref (a 0))] := hl
  have ln_10 := hts (.fieldLink RX6 10 "WithTheSameOne" "floor" "LWithTheSameOne$Floor;") (by decide +kernel)
  have ln_22 := hts (.fieldLink RX6 22 "WithTheSameOne" "letters" "LWithTheSameOne$Letters;") (by decide +kernel)
  have in_Ma : ∀ w ∈ wsX60, w ∈ wsX6_ball := fun _ h => List.mem_cons_of_mem _ (List.mem_append_left _ (List.mem_append_left _ (List.mem_append_right _ h)))
  unfold wp_X6_ball at h
  refine lv_aload_n hx hb dX6_ball_0 rfl (lv_at hl 0 rfl) ?_
  refine va_get (D := D) (ci := 6) (v := .ref (a 12)) (C := RX6) (T := TX6) (N := 8) hx hb hts in_Ma hown hK hP 0 rfl rfl 2 (by decide) ln_22 (fun _ h9 => h9) rfl dX6_ball_1 ?_
  refine lv_aload_n hx hb dX6_ball_4 rfl (lv_at hl 0 rfl) ?_
  refine va_get (D := D) (ci := 6) (v := .ref (a 2)) (C := RX6) (T := TX6) (N := 8) hx hb hts in_Ma hown hK hP 0 rfl rfl 0 (by decide) ln_10 (fun _ h9 => h9) rfl dX6_ball_5 ?_
  have hPc := fc21_P hP
  have hDc := fc21_D hD
  have hFc := fr_self hDc hS hA
  refine gv_i (va_runV (As := [.ref (a 2)]) (rest := []) ⟨hx, hb, hml, hown, hts⟩ (c_X4_tellAll l D k (sh a 12) (sh a 2) S0.2.2.2.1 S0.2.1 H.size _ h) (cwV 1 hts gX6_ball_X4_tellAll rfl rfl rfl (by decide +kernel) ⟨Nat.le_of_ble_eq_true rfl, Nat.le_of_ble_eq_true rfl⟩) (gv_preV hK hnw hPc hDc (ci := 4) rfl 0 rfl) rfl rfl hl.1 rfl (lv_room (Nat.le_of_ble_eq_true rfl)) dX6_ball_8 ⟨Nat.zero_le _, Nat.zero_le _⟩) hS hFc (fun r_1 w_4 H locs h hP1 hD1 hk1 hS => ?_)
  obtain ⟨u_2, u_3⟩ := w_4
  obtain ⟨hP, hD⟩ := fc21_J hP hD hk1 hFc hP1 hD1
  obtain ⟨S_5, e_6⟩ : ∃ z : CS, z = (xf (xl S0 u_2) u_3) := ⟨_, rfl⟩
  have h := h S_5 e_6
  have hP : va_P D vwCl (wMa k a S_5) H := by rw [e_6]; exact hP
  have hD : va_D A (wMa k a S_5) := by rw [e_6]; exact hD
  exact W.iret (v := r_1) hx hb hr (fun t ht hW => ⟨⟨r_1, S_5, rfl, h, by rw [ht]; exact hP, va_K.moved hW.alike hK, hD⟩, hS.F ht⟩) hS.2.2 dX6_ball_11
/-! X6_dancer -/
def wp_X6_dancer (S0 : CS) (x1 : Int32) (x2 : Int32) (Q : Int32 → CS → Prop) : Prop := wp_X2_isThere S0.2.1 x1 (fun r_1 u_2 => ∀ S_3, S_3 = (xf S0 u_2) → (((¬ r_1 = 0) → ((x2 = (0 : Int32) → (vp_in x1 8 ∧ (Q (S_3.2.1.2 2 x1.toNatClampNeg) S_3))) ∧ (¬ x2 = (0 : Int32) → ((x2 = (1 : Int32) → (vp_in x1 8 ∧ (Q (S_3.2.1.2 3 x1.toNatClampNeg) S_3))) ∧ (¬ x2 = (1 : Int32) → ((x2 = (2 : Int32) → (vp_in x1 8 ∧ (Q (S_3.2.1.2 4 x1.toNatClampNeg) S_3))) ∧ (¬ x2 = (2 : Int32) → ((x2 = (3 : Int32) → (vp_in x1 8 ∧ (wp_J6_bitCount_0f7a4 (S_3.2.1.2 5 x1.toNatClampNeg) (fun r_10 => Q r_10 S_3)))) ∧ (¬ x2 = (3 : Int32) → (wp_X6_refuse S_3 (-2 : Int32) (fun r_11 u_12 => Q r_11 u_12))))))))))) ∧ ((r_1 = 0) → (wp_X6_refuse S_3 (-1 : Int32) (fun r_13 u_14 => Q r_13 u_14)))))
abbrev rmX6_dancer : Room := { frames := 1, cells := 0, slots := 0, locals := 21 }
set_option maxRecDepth 100000 in
set_option maxHeartbeats 4000000 in
theorem c_X6_dancer (l : Launch) (D : va_G) (k : Nat → ClassId) (a : Nat → Nat) (S0 : CS) (sz : Nat) (x1 : Int32) (x2 : Int32) (Q : Int32 → CS → Prop) (h : wp_X6_dancer S0 x1 x2 Q) : Met l yX6_dancer wsX6_dancer rmX6_dancer (cPc D k (wMa k a S0) [.ref (a 0), .int x1, .int x2] sz) (va_Qi (fun (r : Int32) (u : CS) => Q r u) (cB D k (va_A (wMa k a S0) sz) (fun u : CS => wMa k a u)) (va_A (wMa k a S0) sz)) 0 0 (va_A (wMa k a S0) sz) := by
  refine ct_entry (cc := cX6_dancer) (maxL := 3) (ret := (some .int)) (Rn := RX6) (Qc := fun A => (va_Qi (fun (r : Int32) (u : CS) => Q r u) (cB D k A (fun u : CS => wMa k a u)) A)) (by decide) rfl rfl (Nat.le_of_ble_eq_true rfl) ?_
  intro p e s m below meth c hx hb hr hlocks hml hts hown hnw hK A hA H locs hP hD hS ls hl
  have hl : lv_has ls 3 [(0, .ref (a 0)), (1, .int x1), (2, .int x2)] := hl
  have ln_10 := hts (.fieldLink RX6 10 "WithTheSameOne" "floor" "LWithTheSameOne$Floor;") (by decide +kernel)
  have ln_74 := hts (.fieldLink RX6 74 "WithTheSameOne$Floor" "kind" "[I") (by decide +kernel)
  have ln_77 := hts (.fieldLink RX6 77 "WithTheSameOne$Floor" "figure" "[I") (by decide +kernel)
  have ln_80 := hts (.fieldLink RX6 80 "WithTheSameOne$Floor" "brought" "[I") (by decide +kernel)
  have ln_83 := hts (.fieldLink RX6 83 "WithTheSameOne$Floor" "partners" "[I") (by decide +kernel)
  have in_Ma : ∀ w ∈ wsX60, w ∈ wsX6_dancer := fun _ h => List.mem_cons_of_mem _ (List.mem_append_left _ (List.mem_append_right _ h))
  have in_Fl : ∀ w ∈ wsX20, w ∈ wsX6_dancer := fun _ h => List.mem_cons_of_mem _ (List.mem_append_right _ h)
  unfold wp_X6_dancer at h
  refine lv_aload_n hx hb dX6_dancer_0 rfl (lv_at hl 0 rfl) ?_
  refine va_get (D := D) (ci := 6) (v := .ref (a 2)) (C := RX6) (T := TX6) (N := 8) hx hb hts in_Ma hown hK hP 0 rfl rfl 0 (by decide) ln_10 (fun _ h9 => h9) rfl dX6_dancer_1 ?_
  refine lv_iload_n hx hb dX6_dancer_4 rfl (lv_at hl 1 rfl) ?_
  have hPc := fc22_P hP
  have hDc := fc22_D hD
  have hFc := fr_self hDc hS hA
  refine gv_i (va_runV (As := [.int x1]) (rest := []) ⟨hx, hb, hml, hown, hts⟩ (c_X2_isThere l D k (sh a 2) S0.2.1 H.size x1 _ h) (cwV 1 hts gX6_dancer_X2_isThere rfl rfl rfl (by decide +kernel) ⟨Nat.le_of_ble_eq_true rfl, Nat.le_of_ble_eq_true rfl⟩) (gv_preV hK hnw hPc hDc (ci := 2) rfl 0 rfl) rfl rfl hl.1 rfl (lv_room (Nat.le_of_ble_eq_true rfl)) dX6_dancer_5 ⟨Nat.zero_le _, Nat.zero_le _⟩) hS hFc (fun r_1 u_2 H locs h hP1 hD1 hk1 hS => ?_)
  obtain ⟨hP, hD⟩ := fc22_J hP hD hk1 hFc hP1 hD1
  obtain ⟨S_3, e_4⟩ : ∃ z : CS, z = (xf S0 u_2) := ⟨_, rfl⟩
  have h := h S_3 e_4
  have hP : va_P D vwCl (wMa k a S_3) H := by rw [e_4]; exact hP
  have hD : va_D A (wMa k a S_3) := by rw [e_4]; exact hD
  refine lv_if_ne (tgt := 17) hx hb dX6_dancer_8 (by decide) (fun c_5 => ?_) (fun c_5 => ?_)
  · have h := h.1 c_5
    refine lv_iload_n hx hb dX6_dancer_17 rfl (lv_at hl 2 rfl) ?_
    by_cases c_6 : x2 = (0 : Int32)
    · have h := h.1 c_6
      refine lv_tableIn (off := 30) (tgt := 48) hx hb dX6_dancer_18 (by rw [c_6]; decide) (by rw [c_6]; decide) (by rw [c_6]; rfl) (by decide) ?_
      refine lv_aload_n hx hb dX6_dancer_48 rfl (lv_at hl 0 rfl) ?_
      refine va_get (D := D) (ci := 6) (v := .ref (a 2)) (C := RX6) (T := TX6) (N := 8) hx hb hts in_Ma hown hK hP 0 rfl rfl 0 (by decide) ln_10 (fun _ h9 => h9) rfl dX6_dancer_49 ?_
      refine va_get (D := D) (ci := 2) (v := .ref (a 3)) (C := RX2) (T := TX2) (N := 6) hx hb hts in_Fl hown hK hP 2 rfl rfl 2 (by decide) ln_74 (fun _ h9 => h9) rfl dX6_dancer_52 ?_
      refine lv_iload_n hx hb dX6_dancer_55 rfl (lv_at hl 1 rfl) ?_
      refine va_iald hx hb hK hP 3 0 rfl rfl h.1 dX6_dancer_56 ?_
      have h := h.2
      exact W.iret (v := (S_3.2.1.2 2 x1.toNatClampNeg)) hx hb hr (fun t ht hW => ⟨⟨(S_3.2.1.2 2 x1.toNatClampNeg), S_3, rfl, h, by rw [ht]; exact hP, va_K.moved hW.alike hK, hD⟩, hS.F ht⟩) hS.2.2 dX6_dancer_57
    · have h := h.2 c_6
      by_cases c_7 : x2 = (1 : Int32)
      · have h := h.1 c_7
        refine lv_tableIn (off := 40) (tgt := 58) hx hb dX6_dancer_18 (by rw [c_7]; decide) (by rw [c_7]; decide) (by rw [c_7]; rfl) (by decide) ?_
        refine lv_aload_n hx hb dX6_dancer_58 rfl (lv_at hl 0 rfl) ?_
        refine va_get (D := D) (ci := 6) (v := .ref (a 2)) (C := RX6) (T := TX6) (N := 8) hx hb hts in_Ma hown hK hP 0 rfl rfl 0 (by decide) ln_10 (fun _ h9 => h9) rfl dX6_dancer_59 ?_
        refine va_get (D := D) (ci := 2) (v := .ref (a 4)) (C := RX2) (T := TX2) (N := 6) hx hb hts in_Fl hown hK hP 2 rfl rfl 3 (by decide) ln_77 (fun _ h9 => h9) rfl dX6_dancer_62 ?_
        refine lv_iload_n hx hb dX6_dancer_65 rfl (lv_at hl 1 rfl) ?_
        refine va_iald hx hb hK hP 4 0 rfl rfl h.1 dX6_dancer_66 ?_
        have h := h.2
        exact W.iret (v := (S_3.2.1.2 3 x1.toNatClampNeg)) hx hb hr (fun t ht hW => ⟨⟨(S_3.2.1.2 3 x1.toNatClampNeg), S_3, rfl, h, by rw [ht]; exact hP, va_K.moved hW.alike hK, hD⟩, hS.F ht⟩) hS.2.2 dX6_dancer_67
      · have h := h.2 c_7
        by_cases c_8 : x2 = (2 : Int32)
        · have h := h.1 c_8
          refine lv_tableIn (off := 50) (tgt := 68) hx hb dX6_dancer_18 (by rw [c_8]; decide) (by rw [c_8]; decide) (by rw [c_8]; rfl) (by decide) ?_
          refine lv_aload_n hx hb dX6_dancer_68 rfl (lv_at hl 0 rfl) ?_
          refine va_get (D := D) (ci := 6) (v := .ref (a 2)) (C := RX6) (T := TX6) (N := 8) hx hb hts in_Ma hown hK hP 0 rfl rfl 0 (by decide) ln_10 (fun _ h9 => h9) rfl dX6_dancer_69 ?_
          refine va_get (D := D) (ci := 2) (v := .ref (a 5)) (C := RX2) (T := TX2) (N := 6) hx hb hts in_Fl hown hK hP 2 rfl rfl 4 (by decide) ln_80 (fun _ h9 => h9) rfl dX6_dancer_72 ?_
          refine lv_iload_n hx hb dX6_dancer_75 rfl (lv_at hl 1 rfl) ?_
          refine va_iald hx hb hK hP 5 0 rfl rfl h.1 dX6_dancer_76 ?_
          have h := h.2
          exact W.iret (v := (S_3.2.1.2 4 x1.toNatClampNeg)) hx hb hr (fun t ht hW => ⟨⟨(S_3.2.1.2 4 x1.toNatClampNeg), S_3, rfl, h, by rw [ht]; exact hP, va_K.moved hW.alike hK, hD⟩, hS.F ht⟩) hS.2.2 dX6_dancer_77
        · have h := h.2 c_8
          by_cases c_9 : x2 = (3 : Int32)
          · have h := h.1 c_9
            refine lv_tableIn (off := 60) (tgt := 78) hx hb dX6_dancer_18 (by rw [c_9]; decide) (by rw [c_9]; decide) (by rw [c_9]; rfl) (by decide) ?_
            refine lv_aload_n hx hb dX6_dancer_78 rfl (lv_at hl 0 rfl) ?_
            refine va_get (D := D) (ci := 6) (v := .ref (a 2)) (C := RX6) (T := TX6) (N := 8) hx hb hts in_Ma hown hK hP 0 rfl rfl 0 (by decide) ln_10 (fun _ h9 => h9) rfl dX6_dancer_79 ?_
            refine va_get (D := D) (ci := 2) (v := .ref (a 6)) (C := RX2) (T := TX2) (N := 6) hx hb hts in_Fl hown hK hP 2 rfl rfl 5 (by decide) ln_83 (fun _ h9 => h9) rfl dX6_dancer_82 ?_
            refine lv_iload_n hx hb dX6_dancer_85 rfl (lv_at hl 1 rfl) ?_
            refine va_iald hx hb hK hP 6 0 rfl rfl h.1 dX6_dancer_86 ?_
            have h := h.2
            refine gs_i (va_runS (As := [.int (S_3.2.1.2 5 x1.toNatClampNeg)]) (rest := []) ⟨hx, hb, hml, hown, hts⟩ (c_J6_bitCount_0f7a4 l (S_3.2.1.2 5 x1.toNatClampNeg) _ h) (va_cwS 1 hts gX6_dancer_J6_bitCount_0f7a4 rfl rfl rfl (by decide +kernel) ⟨Nat.le_of_ble_eq_true rfl, Nat.le_of_ble_eq_true rfl⟩) preEq rfl rfl hl.1 rfl (lv_room (Nat.le_of_ble_eq_true rfl)) dX6_dancer_87 ⟨Nat.zero_le _, Nat.zero_le _⟩) (fun r_10 h => ?_)
            exact W.iret (v := r_10) hx hb hr (fun t ht hW => ⟨⟨r_10, S_3, rfl, h, by rw [ht]; exact hP, va_K.moved hW.alike hK, hD⟩, hS.F ht⟩) hS.2.2 dX6_dancer_90
          · have h := h.2 c_9
            refine lv_tableD (tgt := 91) hx hb dX6_dancer_18 (by
      have n0 := lv_neT (k := (0 : Int32)) (a := 0) c_6 (by decide)
      have n1 := lv_neT (k := (1 : Int32)) (a := 1) c_7 (by decide)
      have n2 := lv_neT (k := (2 : Int32)) (a := 2) c_8 (by decide)
      have n3 := lv_neT (k := (3 : Int32)) (a := 3) c_9 (by decide)
      rcases (show x2.toInt < 0 ∨ 3 < x2.toInt by omega) with q | q
      · exact Or.inl q
      · exact Or.inr (Or.inl q)) (by decide) ?_
            refine lv_aload_n hx hb dX6_dancer_91 rfl (lv_at hl 0 rfl) ?_
            refine lv_bipush (v := (-2 : Int32)) hx hb dX6_dancer_92 (by decide) ?_
            have hFc := fr_self hD hS hA
            refine gv_i (va_runV (As := [.int (-2 : Int32)]) (rest := []) ⟨hx, hb, hml, hown, hts⟩ (c_X6_refuse l D k a S_3 H.size (-2 : Int32) _ h) (cwV 1 hts gX6_dancer_X6_refuse rfl rfl rfl (by decide +kernel) ⟨Nat.le_of_ble_eq_true rfl, Nat.le_of_ble_eq_true rfl⟩) (gv_preV hK hnw hP hD (ci := 6) rfl 0 rfl) rfl rfl hl.1 rfl (lv_room (Nat.le_of_ble_eq_true rfl)) dX6_dancer_94 ⟨Nat.zero_le _, Nat.zero_le _⟩) hS hFc (fun r_11 u_12 H locs h hP1 hD1 hk1 hS => ?_)
            have hP := hP1
            have hD := hD1.weaken (fun _ _ _ z => hFc _ z)
            exact W.iret (v := r_11) hx hb hr (fun t ht hW => ⟨⟨r_11, u_12, rfl, h, by rw [ht]; exact hP, va_K.moved hW.alike hK, hD⟩, hS.F ht⟩) hS.2.2 dX6_dancer_97
  · have h := h.2 c_5
    refine lv_aload_n hx hb dX6_dancer_11 rfl (lv_at hl 0 rfl) ?_
    refine lv_iconst (v := (-1 : Int32)) hx hb dX6_dancer_12 (by decide) ?_
    have hFc := fr_self hD hS hA
    refine gv_i (va_runV (As := [.int (-1 : Int32)]) (rest := []) ⟨hx, hb, hml, hown, hts⟩ (c_X6_refuse l D k a S_3 H.size (-1 : Int32) _ h) (cwV 1 hts gX6_dancer_X6_refuse rfl rfl rfl (by decide +kernel) ⟨Nat.le_of_ble_eq_true rfl, Nat.le_of_ble_eq_true rfl⟩) (gv_preV hK hnw hP hD (ci := 6) rfl 0 rfl) rfl rfl hl.1 rfl (lv_room (Nat.le_of_ble_eq_true rfl)) dX6_dancer_13 ⟨Nat.zero_le _, Nat.zero_le _⟩) hS hFc (fun r_13 u_14 H locs h hP1 hD1 hk1 hS => ?_)
    have hP := hP1
    have hD := hD1.weaken (fun _ _ _ z => hFc _ z)
    exact W.iret (v := r_13) hx hb hr (fun t ht hW => ⟨⟨r_13, u_14, rfl, h, by rw [ht]; exact hP, va_K.moved hW.alike hK, hD⟩, hS.F ht⟩) hS.2.2 dX6_dancer_16
/-! X6_law -/
def wp_X6_law (S0 : CS) (x1 : Int32) (Q : Int32 → CS → Prop) : Prop := wp_X6_isLaw x1 (fun r_1 => ((¬ r_1 = 0) → (∀ S_3, S_3 = (xf S0 (sI S0.2.1 1 x1)) → (Q (S0.2.1.1 1) S_3))) ∧ ((r_1 = 0) → (wp_X6_refuse S0 (-2 : Int32) (fun r_5 u_6 => Q r_5 u_6))))
abbrev rmX6_law : Room := { frames := 1, cells := 0, slots := 0, locals := 21 }
set_option maxRecDepth 100000 in
set_option maxHeartbeats 4000000 in
theorem c_X6_law (l : Launch) (D : va_G) (k : Nat → ClassId) (a : Nat → Nat) (S0 : CS) (sz : Nat) (x1 : Int32) (Q : Int32 → CS → Prop) (h : wp_X6_law S0 x1 Q) : Met l yX6_law wsX6_law rmX6_law (cPc D k (wMa k a S0) [.ref (a 0), .int x1] sz) (va_Qi (fun (r : Int32) (u : CS) => Q r u) (cB D k (va_A (wMa k a S0) sz) (fun u : CS => wMa k a u)) (va_A (wMa k a S0) sz)) 0 0 (va_A (wMa k a S0) sz) := by
  refine ct_entry (cc := cX6_law) (maxL := 3) (ret := (some .int)) (Rn := RX6) (Qc := fun A => (va_Qi (fun (r : Int32) (u : CS) => Q r u) (cB D k A (fun u : CS => wMa k a u)) A)) (by decide) rfl rfl (Nat.le_of_ble_eq_true rfl) ?_
  intro p e s m below meth c hx hb hr hlocks hml hts hown hnw hK A hA H locs hP hD hS ls hl
  have hl : lv_has ls 3 [(0, .ref (a 0)), (1, .int x1)] := hl
  have ln_10 := hts (.fieldLink RX6 10 "WithTheSameOne" "floor" "LWithTheSameOne$Floor;") (by decide +kernel)
  have ln_94 := hts (.fieldLink RX6 94 "WithTheSameOne$Floor" "law" "I") (by decide +kernel)
  have in_Ma : ∀ w ∈ wsX60, w ∈ wsX6_law := fun _ h => List.mem_cons_of_mem _ (List.mem_append_left _ (List.mem_append_right _ h))
  have in_Fl : ∀ w ∈ wsX20, w ∈ wsX6_law := fun _ h => List.mem_cons_of_mem _ (List.mem_append_right _ h)
  unfold wp_X6_law at h
  refine lv_iload_n hx hb dX6_law_0 rfl (lv_at hl 1 rfl) ?_
  refine gs_i (va_runS (As := [.int x1]) (rest := []) ⟨hx, hb, hml, hown, hts⟩ (c_X6_isLaw l x1 _ h) (va_cwS 1 hts gX6_law_X6_isLaw rfl rfl rfl (by decide +kernel) ⟨Nat.le_of_ble_eq_true rfl, Nat.le_of_ble_eq_true rfl⟩) preEq rfl rfl hl.1 rfl (lv_room (Nat.le_of_ble_eq_true rfl)) dX6_law_1 ⟨Nat.zero_le _, Nat.zero_le _⟩) (fun r_1 h => ?_)
  refine lv_if_ne (tgt := 14) hx hb dX6_law_4 (by decide) (fun c_2 => ?_) (fun c_2 => ?_)
  · have h := h.1 c_2
    refine lv_aload_n hx hb dX6_law_14 rfl (lv_at hl 0 rfl) ?_
    refine va_get (D := D) (ci := 6) (v := .ref (a 2)) (C := RX6) (T := TX6) (N := 8) hx hb hts in_Ma hown hK hP 0 rfl rfl 0 (by decide) ln_10 (fun _ h9 => h9) rfl dX6_law_15 ?_
    refine va_get (D := D) (ci := 2) (v := .int (S0.2.1.1 1)) (C := RX2) (T := TX2) (N := 6) hx hb hts in_Fl hown hK hP 2 rfl rfl 1 (by decide) ln_94 (fun _ h9 => h9) rfl dX6_law_18 ?_
    refine lv_istore_n (lv' := [(2, .int (S0.2.1.1 1)), (0, .ref (a 0)), (1, .int x1)]) hx hb dX6_law_21 rfl hl (by decide) rfl (fun ls hl => ?_)
    refine lv_aload_n hx hb dX6_law_22 rfl (lv_at hl 1 rfl) ?_
    refine va_get (D := D) (ci := 6) (v := .ref (a 2)) (C := RX6) (T := TX6) (N := 8) hx hb hts in_Ma hown hK hP 0 rfl rfl 0 (by decide) ln_10 (fun _ h9 => h9) rfl dX6_law_23 ?_
    refine lv_iload_n hx hb dX6_law_26 rfl (lv_at hl 2 rfl) ?_
    refine va_put (D := D) (ci := 2) (v := .int x1) (ty := .int) (C := RX2) (T := TX2) (N := 6) hx hb hts in_Fl tyX2 tyX2_ok nmX2 hown hK hP hD hS 2 rfl rfl 1 (by decide) ln_94 (fun _ h9 => h9) rfl (by decide +kernel) rfl rfl (Nat.le_of_ble_eq_true rfl) dX6_law_27 (fun H locs hP hD hS => ?_)
    obtain ⟨S_3, e_4⟩ : ∃ z : CS, z = (xf S0 (sI S0.2.1 1 x1)) := ⟨_, rfl⟩
    have h := h S_3 e_4
    have hP : va_P D vwCl (wMa k a S_3) H := by rw [e_4]; exact hP
    have hD : va_D A (wMa k a S_3) := by rw [e_4]; exact hD
    refine lv_iload_n hx hb dX6_law_30 rfl (lv_at hl 0 rfl) ?_
    exact W.iret (v := (S0.2.1.1 1)) hx hb hr (fun t ht hW => ⟨⟨(S0.2.1.1 1), S_3, rfl, h, by rw [ht]; exact hP, va_K.moved hW.alike hK, hD⟩, hS.F ht⟩) hS.2.2 dX6_law_31
  · have h := h.2 c_2
    refine lv_aload_n hx hb dX6_law_7 rfl (lv_at hl 0 rfl) ?_
    refine lv_bipush (v := (-2 : Int32)) hx hb dX6_law_8 (by decide) ?_
    have hFc := fr_self hD hS hA
    refine gv_i (va_runV (As := [.int (-2 : Int32)]) (rest := []) ⟨hx, hb, hml, hown, hts⟩ (c_X6_refuse l D k a S0 H.size (-2 : Int32) _ h) (cwV 1 hts gX6_law_X6_refuse rfl rfl rfl (by decide +kernel) ⟨Nat.le_of_ble_eq_true rfl, Nat.le_of_ble_eq_true rfl⟩) (gv_preV hK hnw hP hD (ci := 6) rfl 0 rfl) rfl rfl hl.1 rfl (lv_room (Nat.le_of_ble_eq_true rfl)) dX6_law_10 ⟨Nat.zero_le _, Nat.zero_le _⟩) hS hFc (fun r_5 u_6 H locs h hP1 hD1 hk1 hS => ?_)
    have hP := hP1
    have hD := hD1.weaken (fun _ _ _ z => hFc _ z)
    exact W.iret (v := r_5) hx hb hr (fun t ht hW => ⟨⟨r_5, u_6, rfl, h, by rw [ht]; exact hP, va_K.moved hW.alike hK, hD⟩, hS.F ht⟩) hS.2.2 dX6_law_13
/-! X6_asNumber -/
def wp_X6_asNumber (x0 : Int32) (Q : Int32 → Prop) : Prop := ((x0 = 0) → (Q (0 : Int32))) ∧ ((¬ x0 = 0) → (Q (1 : Int32)))
abbrev rmX6_asNumber : Room := { frames := 0, cells := 0, slots := 0, locals := 0 }
set_option maxRecDepth 100000 in
set_option maxHeartbeats 4000000 in
theorem c_X6_asNumber (l : Launch) (x0 : Int32) (Q : Int32 → Prop) (h : wp_X6_asNumber x0 Q) : Met l yX6_asNumber wsX6_asNumber rmX6_asNumber (fun v _ => v = ([.int x0] : List Value).toArray) (vp_Si Q) 0 0 (fun _ => False) := by
  refine cs_entry (cc := cX6_asNumber) (maxL := 1) (ret := (some .int)) (Rn := RX6) (by decide) rfl rfl (Nat.le_of_ble_eq_true rfl) ?_
  intro p e s m below meth c hx hb hr hlocks hml hts hown ls hl
  have hl : lv_has ls 1 [(0, .int x0)] := hl
  unfold wp_X6_asNumber at h
  refine lv_iload_n hx hb dX6_asNumber_0 rfl (lv_at hl 0 rfl) ?_
  refine lv_if_eq (tgt := 8) hx hb dX6_asNumber_1 (by decide) (fun c_1 => ?_) (fun c_1 => ?_)
  · have h := h.1 c_1
    refine lv_iconst (v := (0 : Int32)) hx hb dX6_asNumber_8 (by decide) ?_
    exact W.iret (v := (0 : Int32)) hx hb hr (fun t ht hW => ⟨(0 : Int32), rfl, h, ht⟩) (fun q hq => by cases hq) dX6_asNumber_9
  · have h := h.2 c_1
    refine lv_iconst (v := (1 : Int32)) hx hb dX6_asNumber_4 (by decide) ?_
    refine lv_goto (tgt := 9) hx hb dX6_asNumber_5 (by decide) ?_
    exact W.iret (v := (1 : Int32)) hx hb hr (fun t ht hW => ⟨(1 : Int32), rfl, h, ht⟩) (fun q hq => by cases hq) dX6_asNumber_9
/-! X6_danced -/
def wp_X6_danced (S0 : CS) (x1 : Int32) (x2 : Int32) (Q : Int32 → CS → Prop) : Prop := wp_X2_areTwo S0.2.1 x1 x2 (fun r_1 u_2 => ∀ S_3, S_3 = (xf S0 u_2) → (((¬ r_1 = 0) → (wp_X2_haveDanced S_3.2.1 x1 x2 (fun r_6 u_7 => ∀ S_8, S_8 = (xf S_3 u_7) → (wp_X6_asNumber r_6 (fun r_10 => Q r_10 S_8))))) ∧ ((r_1 = 0) → (wp_X6_refuse S_3 (-1 : Int32) (fun r_11 u_12 => Q r_11 u_12)))))
abbrev rmX6_danced : Room := { frames := 2, cells := 0, slots := 0, locals := 43 }
set_option maxRecDepth 100000 in
set_option maxHeartbeats 4000000 in
theorem c_X6_danced (l : Launch) (D : va_G) (k : Nat → ClassId) (a : Nat → Nat) (S0 : CS) (sz : Nat) (x1 : Int32) (x2 : Int32) (Q : Int32 → CS → Prop) (h : wp_X6_danced S0 x1 x2 Q) : Met l yX6_danced wsX6_danced rmX6_danced (cPc D k (wMa k a S0) [.ref (a 0), .int x1, .int x2] sz) (va_Qi (fun (r : Int32) (u : CS) => Q r u) (cB D k (va_A (wMa k a S0) sz) (fun u : CS => wMa k a u)) (va_A (wMa k a S0) sz)) 0 0 (va_A (wMa k a S0) sz) := by
  refine ct_entry (cc := cX6_danced) (maxL := 3) (ret := (some .int)) (Rn := RX6) (Qc := fun A => (va_Qi (fun (r : Int32) (u : CS) => Q r u) (cB D k A (fun u : CS => wMa k a u)) A)) (by decide) rfl rfl (Nat.le_of_ble_eq_true rfl) ?_
  intro p e s m below meth c hx hb hr hlocks hml hts hown hnw hK A hA H locs hP hD hS ls hl
  have hl : lv_has ls 3 [(0, .ref (a 0)), (1, .int x1), (2, .int x2)] := hl
  have ln_10 := hts (.fieldLink RX6 10 "WithTheSameOne" "floor" "LWithTheSameOne$Floor;") (by decide +kernel)
  have in_Ma : ∀ w ∈ wsX60, w ∈ wsX6_danced := fun _ h => List.mem_cons_of_mem _ (List.mem_append_left _ (List.mem_append_right _ h))
  unfold wp_X6_danced at h
  refine lv_aload_n hx hb dX6_danced_0 rfl (lv_at hl 0 rfl) ?_
  refine va_get (D := D) (ci := 6) (v := .ref (a 2)) (C := RX6) (T := TX6) (N := 8) hx hb hts in_Ma hown hK hP 0 rfl rfl 0 (by decide) ln_10 (fun _ h9 => h9) rfl dX6_danced_1 ?_
  refine lv_iload_n hx hb dX6_danced_4 rfl (lv_at hl 1 rfl) ?_
  refine lv_iload_n hx hb dX6_danced_5 rfl (lv_at hl 2 rfl) ?_
  have hPc := fc22_P hP
  have hDc := fc22_D hD
  have hFc := fr_self hDc hS hA
  refine gv_i (va_runV (As := [.int x1, .int x2]) (rest := []) ⟨hx, hb, hml, hown, hts⟩ (c_X2_areTwo l D k (sh a 2) S0.2.1 H.size x1 x2 _ h) (cwV 2 hts gX6_danced_X2_areTwo rfl rfl rfl (by decide +kernel) ⟨Nat.le_of_ble_eq_true rfl, Nat.le_of_ble_eq_true rfl⟩) (gv_preV hK hnw hPc hDc (ci := 2) rfl 0 rfl) rfl rfl hl.1 rfl (lv_room (Nat.le_of_ble_eq_true rfl)) dX6_danced_6 ⟨Nat.zero_le _, Nat.zero_le _⟩) hS hFc (fun r_1 u_2 H locs h hP1 hD1 hk1 hS => ?_)
  obtain ⟨hP, hD⟩ := fc22_J hP hD hk1 hFc hP1 hD1
  obtain ⟨S_3, e_4⟩ : ∃ z : CS, z = (xf S0 u_2) := ⟨_, rfl⟩
  have h := h S_3 e_4
  have hP : va_P D vwCl (wMa k a S_3) H := by rw [e_4]; exact hP
  have hD : va_D A (wMa k a S_3) := by rw [e_4]; exact hD
  refine lv_if_ne (tgt := 18) hx hb dX6_danced_9 (by decide) (fun c_5 => ?_) (fun c_5 => ?_)
  · have h := h.1 c_5
    refine lv_aload_n hx hb dX6_danced_18 rfl (lv_at hl 0 rfl) ?_
    refine va_get (D := D) (ci := 6) (v := .ref (a 2)) (C := RX6) (T := TX6) (N := 8) hx hb hts in_Ma hown hK hP 0 rfl rfl 0 (by decide) ln_10 (fun _ h9 => h9) rfl dX6_danced_19 ?_
    refine lv_iload_n hx hb dX6_danced_22 rfl (lv_at hl 1 rfl) ?_
    refine lv_iload_n hx hb dX6_danced_23 rfl (lv_at hl 2 rfl) ?_
    have hPc := fc22_P hP
    have hDc := fc22_D hD
    have hFc := fr_self hDc hS hA
    refine gv_i (va_runV (As := [.int x1, .int x2]) (rest := []) ⟨hx, hb, hml, hown, hts⟩ (c_X2_haveDanced l D k (sh a 2) S_3.2.1 H.size x1 x2 _ h) (cwV 2 hts gX6_danced_X2_haveDanced rfl rfl rfl (by decide +kernel) ⟨Nat.le_of_ble_eq_true rfl, Nat.le_of_ble_eq_true rfl⟩) (gv_preV hK hnw hPc hDc (ci := 2) rfl 0 rfl) rfl rfl hl.1 rfl (lv_room (Nat.le_of_ble_eq_true rfl)) dX6_danced_24 ⟨Nat.zero_le _, Nat.zero_le _⟩) hS hFc (fun r_6 u_7 H locs h hP1 hD1 hk1 hS => ?_)
    obtain ⟨hP, hD⟩ := fc22_J hP hD hk1 hFc hP1 hD1
    obtain ⟨S_8, e_9⟩ : ∃ z : CS, z = (xf S_3 u_7) := ⟨_, rfl⟩
    have h := h S_8 e_9
    have hP : va_P D vwCl (wMa k a S_8) H := by rw [e_9]; exact hP
    have hD : va_D A (wMa k a S_8) := by rw [e_9]; exact hD
    refine gs_i (va_runS (As := [.int r_6]) (rest := []) ⟨hx, hb, hml, hown, hts⟩ (c_X6_asNumber l r_6 _ h) (va_cwS 1 hts gX6_danced_X6_asNumber rfl rfl rfl (by decide +kernel) ⟨Nat.le_of_ble_eq_true rfl, Nat.le_of_ble_eq_true rfl⟩) preEq rfl rfl hl.1 rfl (lv_room (Nat.le_of_ble_eq_true rfl)) dX6_danced_27 ⟨Nat.zero_le _, Nat.zero_le _⟩) (fun r_10 h => ?_)
    exact W.iret (v := r_10) hx hb hr (fun t ht hW => ⟨⟨r_10, S_8, rfl, h, by rw [ht]; exact hP, va_K.moved hW.alike hK, hD⟩, hS.F ht⟩) hS.2.2 dX6_danced_30
  · have h := h.2 c_5
    refine lv_aload_n hx hb dX6_danced_12 rfl (lv_at hl 0 rfl) ?_
    refine lv_iconst (v := (-1 : Int32)) hx hb dX6_danced_13 (by decide) ?_
    have hFc := fr_self hD hS hA
    refine gv_i (va_runV (As := [.int (-1 : Int32)]) (rest := []) ⟨hx, hb, hml, hown, hts⟩ (c_X6_refuse l D k a S_3 H.size (-1 : Int32) _ h) (cwV 1 hts gX6_danced_X6_refuse rfl rfl rfl (by decide +kernel) ⟨Nat.le_of_ble_eq_true rfl, Nat.le_of_ble_eq_true rfl⟩) (gv_preV hK hnw hP hD (ci := 6) rfl 0 rfl) rfl rfl hl.1 rfl (lv_room (Nat.le_of_ble_eq_true rfl)) dX6_danced_14 ⟨Nat.zero_le _, Nat.zero_le _⟩) hS hFc (fun r_11 u_12 H locs h hP1 hD1 hk1 hS => ?_)
    have hP := hP1
    have hD := hD1.weaken (fun _ _ _ z => hFc _ z)
    exact W.iret (v := r_11) hx hb hr (fun t ht hW => ⟨⟨r_11, u_12, rfl, h, by rw [ht]; exact hP, va_K.moved hW.alike hK, hD⟩, hS.F ht⟩) hS.2.2 dX6_danced_17
/-! X6_bringers -/
def wp_X6_bringers (S0 : CS) (x1 : Int32) (x2 : Int32) (Q : Int32 → CS → Prop) : Prop := wp_X2_areTwo S0.2.1 x1 x2 (fun r_1 u_2 => ∀ S_3, S_3 = (xf S0 u_2) → (((¬ r_1 = 0) → (wp_X2_whoBring S_3.2.1 x1 x2 (fun r_6 u_7 => ∀ S_8, S_8 = (xf S_3 u_7) → (Q r_6 S_8)))) ∧ ((r_1 = 0) → (wp_X6_refuse S_3 (-1 : Int32) (fun r_10 u_11 => Q r_10 u_11)))))
abbrev rmX6_bringers : Room := { frames := 3, cells := 0, slots := 0, locals := 72 }
set_option maxRecDepth 100000 in
set_option maxHeartbeats 4000000 in
theorem c_X6_bringers (l : Launch) (D : va_G) (k : Nat → ClassId) (a : Nat → Nat) (S0 : CS) (sz : Nat) (x1 : Int32) (x2 : Int32) (Q : Int32 → CS → Prop) (h : wp_X6_bringers S0 x1 x2 Q) : Met l yX6_bringers wsX6_bringers rmX6_bringers (cPc D k (wMa k a S0) [.ref (a 0), .int x1, .int x2] sz) (va_Qi (fun (r : Int32) (u : CS) => Q r u) (cB D k (va_A (wMa k a S0) sz) (fun u : CS => wMa k a u)) (va_A (wMa k a S0) sz)) 0 0 (va_A (wMa k a S0) sz) := by
  refine ct_entry (cc := cX6_bringers) (maxL := 3) (ret := (some .int)) (Rn := RX6) (Qc := fun A => (va_Qi (fun (r : Int32) (u : CS) => Q r u) (cB D k A (fun u : CS => wMa k a u)) A)) (by decide) rfl rfl (Nat.le_of_ble_eq_true rfl) ?_
  intro p e s m below meth c hx hb hr hlocks hml hts hown hnw hK A hA H locs hP hD hS ls hl
  have hl : lv_has ls 3 [(0, .ref (a 0)), (1, .int x1), (2, .int x2)] := hl
  have ln_10 := hts (.fieldLink RX6 10 "WithTheSameOne" "floor" "LWithTheSameOne$Floor;") (by decide +kernel)
  have in_Ma : ∀ w ∈ wsX60, w ∈ wsX6_bringers := fun _ h => List.mem_cons_of_mem _ (List.mem_append_left _ (List.mem_append_right _ h))
  unfold wp_X6_bringers at h
  refine lv_aload_n hx hb dX6_bringers_0 rfl (lv_at hl 0 rfl) ?_
  refine va_get (D := D) (ci := 6) (v := .ref (a 2)) (C := RX6) (T := TX6) (N := 8) hx hb hts in_Ma hown hK hP 0 rfl rfl 0 (by decide) ln_10 (fun _ h9 => h9) rfl dX6_bringers_1 ?_
  refine lv_iload_n hx hb dX6_bringers_4 rfl (lv_at hl 1 rfl) ?_
  refine lv_iload_n hx hb dX6_bringers_5 rfl (lv_at hl 2 rfl) ?_
  have hPc := fc22_P hP
  have hDc := fc22_D hD
  have hFc := fr_self hDc hS hA
  refine gv_i (va_runV (As := [.int x1, .int x2]) (rest := []) ⟨hx, hb, hml, hown, hts⟩ (c_X2_areTwo l D k (sh a 2) S0.2.1 H.size x1 x2 _ h) (cwV 2 hts gX6_bringers_X2_areTwo rfl rfl rfl (by decide +kernel) ⟨Nat.le_of_ble_eq_true rfl, Nat.le_of_ble_eq_true rfl⟩) (gv_preV hK hnw hPc hDc (ci := 2) rfl 0 rfl) rfl rfl hl.1 rfl (lv_room (Nat.le_of_ble_eq_true rfl)) dX6_bringers_6 ⟨Nat.zero_le _, Nat.zero_le _⟩) hS hFc (fun r_1 u_2 H locs h hP1 hD1 hk1 hS => ?_)
  obtain ⟨hP, hD⟩ := fc22_J hP hD hk1 hFc hP1 hD1
  obtain ⟨S_3, e_4⟩ : ∃ z : CS, z = (xf S0 u_2) := ⟨_, rfl⟩
  have h := h S_3 e_4
  have hP : va_P D vwCl (wMa k a S_3) H := by rw [e_4]; exact hP
  have hD : va_D A (wMa k a S_3) := by rw [e_4]; exact hD
  refine lv_if_ne (tgt := 18) hx hb dX6_bringers_9 (by decide) (fun c_5 => ?_) (fun c_5 => ?_)
  · have h := h.1 c_5
    refine lv_aload_n hx hb dX6_bringers_18 rfl (lv_at hl 0 rfl) ?_
    refine va_get (D := D) (ci := 6) (v := .ref (a 2)) (C := RX6) (T := TX6) (N := 8) hx hb hts in_Ma hown hK hP 0 rfl rfl 0 (by decide) ln_10 (fun _ h9 => h9) rfl dX6_bringers_19 ?_
    refine lv_iload_n hx hb dX6_bringers_22 rfl (lv_at hl 1 rfl) ?_
    refine lv_iload_n hx hb dX6_bringers_23 rfl (lv_at hl 2 rfl) ?_
    have hPc := fc22_P hP
    have hDc := fc22_D hD
    have hFc := fr_self hDc hS hA
    refine gv_i (va_runV (As := [.int x1, .int x2]) (rest := []) ⟨hx, hb, hml, hown, hts⟩ (c_X2_whoBring l D k (sh a 2) S_3.2.1 H.size x1 x2 _ h) (cwV 2 hts gX6_bringers_X2_whoBring rfl rfl rfl (by decide +kernel) ⟨Nat.le_of_ble_eq_true rfl, Nat.le_of_ble_eq_true rfl⟩) (gv_preV hK hnw hPc hDc (ci := 2) rfl 0 rfl) rfl rfl hl.1 rfl (lv_room (Nat.le_of_ble_eq_true rfl)) dX6_bringers_24 ⟨Nat.zero_le _, Nat.zero_le _⟩) hS hFc (fun r_6 u_7 H locs h hP1 hD1 hk1 hS => ?_)
    obtain ⟨hP, hD⟩ := fc22_J hP hD hk1 hFc hP1 hD1
    obtain ⟨S_8, e_9⟩ : ∃ z : CS, z = (xf S_3 u_7) := ⟨_, rfl⟩
    have h := h S_8 e_9
    have hP : va_P D vwCl (wMa k a S_8) H := by rw [e_9]; exact hP
    have hD : va_D A (wMa k a S_8) := by rw [e_9]; exact hD
    exact W.iret (v := r_6) hx hb hr (fun t ht hW => ⟨⟨r_6, S_8, rfl, h, by rw [ht]; exact hP, va_K.moved hW.alike hK, hD⟩, hS.F ht⟩) hS.2.2 dX6_bringers_27
  · have h := h.2 c_5
    refine lv_aload_n hx hb dX6_bringers_12 rfl (lv_at hl 0 rfl) ?_
    refine lv_iconst (v := (-1 : Int32)) hx hb dX6_bringers_13 (by decide) ?_
    have hFc := fr_self hD hS hA
    refine gv_i (va_runV (As := [.int (-1 : Int32)]) (rest := []) ⟨hx, hb, hml, hown, hts⟩ (c_X6_refuse l D k a S_3 H.size (-1 : Int32) _ h) (cwV 1 hts gX6_bringers_X6_refuse rfl rfl rfl (by decide +kernel) ⟨Nat.le_of_ble_eq_true rfl, Nat.le_of_ble_eq_true rfl⟩) (gv_preV hK hnw hP hD (ci := 6) rfl 0 rfl) rfl rfl hl.1 rfl (lv_room (Nat.le_of_ble_eq_true rfl)) dX6_bringers_14 ⟨Nat.zero_le _, Nat.zero_le _⟩) hS hFc (fun r_10 u_11 H locs h hP1 hD1 hk1 hS => ?_)
    have hP := hP1
    have hD := hD1.weaken (fun _ _ _ z => hFc _ z)
    exact W.iret (v := r_10) hx hb hr (fun t ht hW => ⟨⟨r_10, u_11, rfl, h, by rw [ht]; exact hP, va_K.moved hW.alike hK, hD⟩, hS.F ht⟩) hS.2.2 dX6_bringers_17
/-! X6_may -/
def wp_X6_may (S0 : CS) (x1 : Int32) (x2 : Int32) (Q : Int32 → CS → Prop) : Prop := wp_X2_areTwo S0.2.1 x1 x2 (fun r_1 u_2 => ∀ S_3, S_3 = (xf S0 u_2) → (((¬ r_1 = 0) → (wp_X2_isAllowed S_3.2.1 x1 x2 (fun r_6 u_7 => ∀ S_8, S_8 = (xf S_3 u_7) → (wp_X6_asNumber r_6 (fun r_10 => Q r_10 S_8))))) ∧ ((r_1 = 0) → (wp_X6_refuse S_3 (-1 : Int32) (fun r_11 u_12 => Q r_11 u_12)))))
abbrev rmX6_may : Room := { frames := 5, cells := 0, slots := 0, locals := 118 }
set_option maxRecDepth 100000 in
set_option maxHeartbeats 4000000 in
theorem c_X6_may (l : Launch) (D : va_G) (k : Nat → ClassId) (a : Nat → Nat) (S0 : CS) (sz : Nat) (x1 : Int32) (x2 : Int32) (Q : Int32 → CS → Prop) (h : wp_X6_may S0 x1 x2 Q) : Met l yX6_may wsX6_may rmX6_may (cPc D k (wMa k a S0) [.ref (a 0), .int x1, .int x2] sz) (va_Qi (fun (r : Int32) (u : CS) => Q r u) (cB D k (va_A (wMa k a S0) sz) (fun u : CS => wMa k a u)) (va_A (wMa k a S0) sz)) 0 0 (va_A (wMa k a S0) sz) := by
  refine ct_entry (cc := cX6_may) (maxL := 3) (ret := (some .int)) (Rn := RX6) (Qc := fun A => (va_Qi (fun (r : Int32) (u : CS) => Q r u) (cB D k A (fun u : CS => wMa k a u)) A)) (by decide) rfl rfl (Nat.le_of_ble_eq_true rfl) ?_
  intro p e s m below meth c hx hb hr hlocks hml hts hown hnw hK A hA H locs hP hD hS ls hl
  have hl : lv_has ls 3 [(0, .ref (a 0)), (1, .int x1), (2, .int x2)] := hl
  have ln_10 := hts (.fieldLink RX6 10 "WithTheSameOne" "floor" "LWithTheSameOne$Floor;") (by decide +kernel)
  have in_Ma : ∀ w ∈ wsX60, w ∈ wsX6_may := fun _ h => List.mem_cons_of_mem _ (List.mem_append_left _ (List.mem_append_right _ h))
  unfold wp_X6_may at h
  refine lv_aload_n hx hb dX6_may_0 rfl (lv_at hl 0 rfl) ?_
  refine va_get (D := D) (ci := 6) (v := .ref (a 2)) (C := RX6) (T := TX6) (N := 8) hx hb hts in_Ma hown hK hP 0 rfl rfl 0 (by decide) ln_10 (fun _ h9 => h9) rfl dX6_may_1 ?_
  refine lv_iload_n hx hb dX6_may_4 rfl (lv_at hl 1 rfl) ?_
  refine lv_iload_n hx hb dX6_may_5 rfl (lv_at hl 2 rfl) ?_
  have hPc := fc22_P hP
  have hDc := fc22_D hD
  have hFc := fr_self hDc hS hA
  refine gv_i (va_runV (As := [.int x1, .int x2]) (rest := []) ⟨hx, hb, hml, hown, hts⟩ (c_X2_areTwo l D k (sh a 2) S0.2.1 H.size x1 x2 _ h) (cwV 2 hts gX6_may_X2_areTwo rfl rfl rfl (by decide +kernel) ⟨Nat.le_of_ble_eq_true rfl, Nat.le_of_ble_eq_true rfl⟩) (gv_preV hK hnw hPc hDc (ci := 2) rfl 0 rfl) rfl rfl hl.1 rfl (lv_room (Nat.le_of_ble_eq_true rfl)) dX6_may_6 ⟨Nat.zero_le _, Nat.zero_le _⟩) hS hFc (fun r_1 u_2 H locs h hP1 hD1 hk1 hS => ?_)
  obtain ⟨hP, hD⟩ := fc22_J hP hD hk1 hFc hP1 hD1
  obtain ⟨S_3, e_4⟩ : ∃ z : CS, z = (xf S0 u_2) := ⟨_, rfl⟩
  have h := h S_3 e_4
  have hP : va_P D vwCl (wMa k a S_3) H := by rw [e_4]; exact hP
  have hD : va_D A (wMa k a S_3) := by rw [e_4]; exact hD
  refine lv_if_ne (tgt := 18) hx hb dX6_may_9 (by decide) (fun c_5 => ?_) (fun c_5 => ?_)
  · have h := h.1 c_5
    refine lv_aload_n hx hb dX6_may_18 rfl (lv_at hl 0 rfl) ?_
    refine va_get (D := D) (ci := 6) (v := .ref (a 2)) (C := RX6) (T := TX6) (N := 8) hx hb hts in_Ma hown hK hP 0 rfl rfl 0 (by decide) ln_10 (fun _ h9 => h9) rfl dX6_may_19 ?_
    refine lv_iload_n hx hb dX6_may_22 rfl (lv_at hl 1 rfl) ?_
    refine lv_iload_n hx hb dX6_may_23 rfl (lv_at hl 2 rfl) ?_
    have hPc := fc22_P hP
    have hDc := fc22_D hD
    have hFc := fr_self hDc hS hA
    refine gv_i (va_runV (As := [.int x1, .int x2]) (rest := []) ⟨hx, hb, hml, hown, hts⟩ (c_X2_isAllowed l D k (sh a 2) S_3.2.1 H.size x1 x2 _ h) (cwV 2 hts gX6_may_X2_isAllowed rfl rfl rfl (by decide +kernel) ⟨Nat.le_of_ble_eq_true rfl, Nat.le_of_ble_eq_true rfl⟩) (gv_preV hK hnw hPc hDc (ci := 2) rfl 0 rfl) rfl rfl hl.1 rfl (lv_room (Nat.le_of_ble_eq_true rfl)) dX6_may_24 ⟨Nat.zero_le _, Nat.zero_le _⟩) hS hFc (fun r_6 u_7 H locs h hP1 hD1 hk1 hS => ?_)
    obtain ⟨hP, hD⟩ := fc22_J hP hD hk1 hFc hP1 hD1
    obtain ⟨S_8, e_9⟩ : ∃ z : CS, z = (xf S_3 u_7) := ⟨_, rfl⟩
    have h := h S_8 e_9
    have hP : va_P D vwCl (wMa k a S_8) H := by rw [e_9]; exact hP
    have hD : va_D A (wMa k a S_8) := by rw [e_9]; exact hD
    refine gs_i (va_runS (As := [.int r_6]) (rest := []) ⟨hx, hb, hml, hown, hts⟩ (c_X6_asNumber l r_6 _ h) (va_cwS 1 hts gX6_may_X6_asNumber rfl rfl rfl (by decide +kernel) ⟨Nat.le_of_ble_eq_true rfl, Nat.le_of_ble_eq_true rfl⟩) preEq rfl rfl hl.1 rfl (lv_room (Nat.le_of_ble_eq_true rfl)) dX6_may_27 ⟨Nat.zero_le _, Nat.zero_le _⟩) (fun r_10 h => ?_)
    exact W.iret (v := r_10) hx hb hr (fun t ht hW => ⟨⟨r_10, S_8, rfl, h, by rw [ht]; exact hP, va_K.moved hW.alike hK, hD⟩, hS.F ht⟩) hS.2.2 dX6_may_30
  · have h := h.2 c_5
    refine lv_aload_n hx hb dX6_may_12 rfl (lv_at hl 0 rfl) ?_
    refine lv_iconst (v := (-1 : Int32)) hx hb dX6_may_13 (by decide) ?_
    have hFc := fr_self hD hS hA
    refine gv_i (va_runV (As := [.int (-1 : Int32)]) (rest := []) ⟨hx, hb, hml, hown, hts⟩ (c_X6_refuse l D k a S_3 H.size (-1 : Int32) _ h) (cwV 1 hts gX6_may_X6_refuse rfl rfl rfl (by decide +kernel) ⟨Nat.le_of_ble_eq_true rfl, Nat.le_of_ble_eq_true rfl⟩) (gv_preV hK hnw hP hD (ci := 6) rfl 0 rfl) rfl rfl hl.1 rfl (lv_room (Nat.le_of_ble_eq_true rfl)) dX6_may_14 ⟨Nat.zero_le _, Nat.zero_le _⟩) hS hFc (fun r_11 u_12 H locs h hP1 hD1 hk1 hS => ?_)
    have hP := hP1
    have hD := hD1.weaken (fun _ _ _ z => hFc _ z)
    exact W.iret (v := r_11) hx hb hr (fun t ht hW => ⟨⟨r_11, u_12, rfl, h, by rw [ht]; exact hP, va_K.moved hW.alike hK, hD⟩, hS.F ht⟩) hS.2.2 dX6_may_17
/-! X6_dance -/
def wp_X6_dance (S0 : CS) (x1 : Int32) (x2 : Int32) (x3 : Int32) (Q : Int32 → CS → Prop) : Prop := wp_X2_areTwo S0.2.1 x1 x2 (fun r_1 u_2 => ∀ S_3, S_3 = (xf S0 u_2) → (((¬ r_1 = 0) → (wp_X2_isAllowedBy S_3.2.1 x1 x2 x3 (fun r_6 u_7 => ∀ S_8, S_8 = (xf S_3 u_7) → (((¬ r_6 = 0) → (wp_X2_step S_8.2.1 x1 x2 x3 (fun u_12 => ∀ S_13, S_13 = (xf S_8 u_12) → (wp_X2_pairsDanced S_13.2.1 (fun r_15 u_16 => ∀ S_17, S_17 = (xf S_13 u_16) → (Q r_15 S_17)))))) ∧ ((r_6 = 0) → (wp_X6_refuse S_8 (-3 : Int32) (fun r_19 u_20 => Q r_19 u_20))))))) ∧ ((r_1 = 0) → (wp_X6_refuse S_3 (-1 : Int32) (fun r_21 u_22 => Q r_21 u_22)))))
abbrev rmX6_dance : Room := { frames := 5, cells := 0, slots := 0, locals := 119 }
set_option maxRecDepth 100000 in
set_option maxHeartbeats 4000000 in
theorem c_X6_dance (l : Launch) (D : va_G) (k : Nat → ClassId) (a : Nat → Nat) (S0 : CS) (sz : Nat) (x1 : Int32) (x2 : Int32) (x3 : Int32) (Q : Int32 → CS → Prop) (h : wp_X6_dance S0 x1 x2 x3 Q) : Met l yX6_dance wsX6_dance rmX6_dance (cPc D k (wMa k a S0) [.ref (a 0), .int x1, .int x2, .int x3] sz) (va_Qi (fun (r : Int32) (u : CS) => Q r u) (cB D k (va_A (wMa k a S0) sz) (fun u : CS => wMa k a u)) (va_A (wMa k a S0) sz)) 0 0 (va_A (wMa k a S0) sz) := by
  refine ct_entry (cc := cX6_dance) (maxL := 4) (ret := (some .int)) (Rn := RX6) (Qc := fun A => (va_Qi (fun (r : Int32) (u : CS) => Q r u) (cB D k A (fun u : CS => wMa k a u)) A)) (by decide) rfl rfl (Nat.le_of_ble_eq_true rfl) ?_
  intro p e s m below meth c hx hb hr hlocks hml hts hown hnw hK A hA H locs hP hD hS ls hl
  have hl : lv_has ls 4 [(0, .ref (a 0)), (1, .int x1), (2, .int x2), (3, .int x3)] := hl
  have ln_10 := hts (.fieldLink RX6 10 "WithTheSameOne" "floor" "LWithTheSameOne$Floor;") (by decide +kernel)
  have in_Ma : ∀ w ∈ wsX60, w ∈ wsX6_dance := fun _ h => List.mem_cons_of_mem _ (List.mem_append_left _ (List.mem_append_right _ h))
  unfold wp_X6_dance at h
  refine lv_aload_n hx hb dX6_dance_0 rfl (lv_at hl 0 rfl) ?_
  refine va_get (D := D) (ci := 6) (v := .ref (a 2)) (C := RX6) (T := TX6) (N := 8) hx hb hts in_Ma hown hK hP 0 rfl rfl 0 (by decide) ln_10 (fun _ h9 => h9) rfl dX6_dance_1 ?_
  refine lv_iload_n hx hb dX6_dance_4 rfl (lv_at hl 1 rfl) ?_
  refine lv_iload_n hx hb dX6_dance_5 rfl (lv_at hl 2 rfl) ?_
  have hPc := fc22_P hP
  have hDc := fc22_D hD
  have hFc := fr_self hDc hS hA
  refine gv_i (va_runV (As := [.int x1, .int x2]) (rest := []) ⟨hx, hb, hml, hown, hts⟩ (c_X2_areTwo l D k (sh a 2) S0.2.1 H.size x1 x2 _ h) (cwV 2 hts gX6_dance_X2_areTwo rfl rfl rfl (by decide +kernel) ⟨Nat.le_of_ble_eq_true rfl, Nat.le_of_ble_eq_true rfl⟩) (gv_preV hK hnw hPc hDc (ci := 2) rfl 0 rfl) rfl rfl hl.1 rfl (lv_room (Nat.le_of_ble_eq_true rfl)) dX6_dance_6 ⟨Nat.zero_le _, Nat.zero_le _⟩) hS hFc (fun r_1 u_2 H locs h hP1 hD1 hk1 hS => ?_)
  obtain ⟨hP, hD⟩ := fc22_J hP hD hk1 hFc hP1 hD1
  obtain ⟨S_3, e_4⟩ : ∃ z : CS, z = (xf S0 u_2) := ⟨_, rfl⟩
  have h := h S_3 e_4
  have hP : va_P D vwCl (wMa k a S_3) H := by rw [e_4]; exact hP
  have hD : va_D A (wMa k a S_3) := by rw [e_4]; exact hD
  refine lv_if_ne (tgt := 18) hx hb dX6_dance_9 (by decide) (fun c_5 => ?_) (fun c_5 => ?_)
  · have h := h.1 c_5
    refine lv_aload_n hx hb dX6_dance_18 rfl (lv_at hl 0 rfl) ?_
    refine va_get (D := D) (ci := 6) (v := .ref (a 2)) (C := RX6) (T := TX6) (N := 8) hx hb hts in_Ma hown hK hP 0 rfl rfl 0 (by decide) ln_10 (fun _ h9 => h9) rfl dX6_dance_19 ?_
    refine lv_iload_n hx hb dX6_dance_22 rfl (lv_at hl 1 rfl) ?_
    refine lv_iload_n hx hb dX6_dance_23 rfl (lv_at hl 2 rfl) ?_
    refine lv_iload_n hx hb dX6_dance_24 rfl (lv_at hl 3 rfl) ?_
    have hPc := fc22_P hP
    have hDc := fc22_D hD
    have hFc := fr_self hDc hS hA
    refine gv_i (va_runV (As := [.int x1, .int x2, .int x3]) (rest := []) ⟨hx, hb, hml, hown, hts⟩ (c_X2_isAllowedBy l D k (sh a 2) S_3.2.1 H.size x1 x2 x3 _ h) (cwV 3 hts gX6_dance_X2_isAllowedBy rfl rfl rfl (by decide +kernel) ⟨Nat.le_of_ble_eq_true rfl, Nat.le_of_ble_eq_true rfl⟩) (gv_preV hK hnw hPc hDc (ci := 2) rfl 0 rfl) rfl rfl hl.1 rfl (lv_room (Nat.le_of_ble_eq_true rfl)) dX6_dance_25 ⟨Nat.zero_le _, Nat.zero_le _⟩) hS hFc (fun r_6 u_7 H locs h hP1 hD1 hk1 hS => ?_)
    obtain ⟨hP, hD⟩ := fc22_J hP hD hk1 hFc hP1 hD1
    obtain ⟨S_8, e_9⟩ : ∃ z : CS, z = (xf S_3 u_7) := ⟨_, rfl⟩
    have h := h S_8 e_9
    have hP : va_P D vwCl (wMa k a S_8) H := by rw [e_9]; exact hP
    have hD : va_D A (wMa k a S_8) := by rw [e_9]; exact hD
    refine lv_if_ne (tgt := 38) hx hb dX6_dance_28 (by decide) (fun c_10 => ?_) (fun c_10 => ?_)
    · have h := h.1 c_10
      refine lv_aload_n hx hb dX6_dance_38 rfl (lv_at hl 0 rfl) ?_
      refine va_get (D := D) (ci := 6) (v := .ref (a 2)) (C := RX6) (T := TX6) (N := 8) hx hb hts in_Ma hown hK hP 0 rfl rfl 0 (by decide) ln_10 (fun _ h9 => h9) rfl dX6_dance_39 ?_
      refine lv_iload_n hx hb dX6_dance_42 rfl (lv_at hl 1 rfl) ?_
      refine lv_iload_n hx hb dX6_dance_43 rfl (lv_at hl 2 rfl) ?_
      refine lv_iload_n hx hb dX6_dance_44 rfl (lv_at hl 3 rfl) ?_
      have hPc := fc22_P hP
      have hDc := fc22_D hD
      have hFc := fr_self hDc hS hA
      refine gv_v (va_runV (As := [.int x1, .int x2, .int x3]) (rest := []) ⟨hx, hb, hml, hown, hts⟩ (c_X2_step l D k (sh a 2) S_8.2.1 H.size x1 x2 x3 _ h) (cwV 3 hts gX6_dance_X2_step rfl rfl rfl (by decide +kernel) ⟨Nat.le_of_ble_eq_true rfl, Nat.le_of_ble_eq_true rfl⟩) (gv_preV hK hnw hPc hDc (ci := 2) rfl 0 rfl) rfl rfl hl.1 rfl (lv_room (Nat.le_of_ble_eq_true rfl)) dX6_dance_45 ⟨Nat.zero_le _, Nat.zero_le _⟩) hS hFc (fun u_12 H locs h hP1 hD1 hk1 hS => ?_)
      obtain ⟨hP, hD⟩ := fc22_J hP hD hk1 hFc hP1 hD1
      obtain ⟨S_13, e_14⟩ : ∃ z : CS, z = (xf S_8 u_12) := ⟨_, rfl⟩
      have h := h S_13 e_14
      have hP : va_P D vwCl (wMa k a S_13) H := by rw [e_14]; exact hP
      have hD : va_D A (wMa k a S_13) := by rw [e_14]; exact hD
      refine lv_aload_n hx hb dX6_dance_48 rfl (lv_at hl 0 rfl) ?_
      refine va_get (D := D) (ci := 6) (v := .ref (a 2)) (C := RX6) (T := TX6) (N := 8) hx hb hts in_Ma hown hK hP 0 rfl rfl 0 (by decide) ln_10 (fun _ h9 => h9) rfl dX6_dance_49 ?_
      have hPc := fc22_P hP
      have hDc := fc22_D hD
      have hFc := fr_self hDc hS hA
      refine gv_i (va_runV (As := []) (rest := []) ⟨hx, hb, hml, hown, hts⟩ (c_X2_pairsDanced l D k (sh a 2) S_13.2.1 H.size _ h) (cwV 0 hts gX6_dance_X2_pairsDanced rfl rfl rfl (by decide +kernel) ⟨Nat.le_of_ble_eq_true rfl, Nat.le_of_ble_eq_true rfl⟩) (gv_preV hK hnw hPc hDc (ci := 2) rfl 0 rfl) rfl rfl hl.1 rfl (lv_room (Nat.le_of_ble_eq_true rfl)) dX6_dance_52 ⟨Nat.zero_le _, Nat.zero_le _⟩) hS hFc (fun r_15 u_16 H locs h hP1 hD1 hk1 hS => ?_)
      obtain ⟨hP, hD⟩ := fc22_J hP hD hk1 hFc hP1 hD1
      obtain ⟨S_17, e_18⟩ : ∃ z : CS, z = (xf S_13 u_16) := ⟨_, rfl⟩
      have h := h S_17 e_18
      have hP : va_P D vwCl (wMa k a S_17) H := by rw [e_18]; exact hP
      have hD : va_D A (wMa k a S_17) := by rw [e_18]; exact hD
      exact W.iret (v := r_15) hx hb hr (fun t ht hW => ⟨⟨r_15, S_17, rfl, h, by rw [ht]; exact hP, va_K.moved hW.alike hK, hD⟩, hS.F ht⟩) hS.2.2 dX6_dance_55
    · have h := h.2 c_10
      refine lv_aload_n hx hb dX6_dance_31 rfl (lv_at hl 0 rfl) ?_
      refine lv_bipush (v := (-3 : Int32)) hx hb dX6_dance_32 (by decide) ?_
      have hFc := fr_self hD hS hA
      refine gv_i (va_runV (As := [.int (-3 : Int32)]) (rest := []) ⟨hx, hb, hml, hown, hts⟩ (c_X6_refuse l D k a S_8 H.size (-3 : Int32) _ h) (cwV 1 hts gX6_dance_X6_refuse rfl rfl rfl (by decide +kernel) ⟨Nat.le_of_ble_eq_true rfl, Nat.le_of_ble_eq_true rfl⟩) (gv_preV hK hnw hP hD (ci := 6) rfl 0 rfl) rfl rfl hl.1 rfl (lv_room (Nat.le_of_ble_eq_true rfl)) dX6_dance_34 ⟨Nat.zero_le _, Nat.zero_le _⟩) hS hFc (fun r_19 u_20 H locs h hP1 hD1 hk1 hS => ?_)
      have hP := hP1
      have hD := hD1.weaken (fun _ _ _ z => hFc _ z)
      exact W.iret (v := r_19) hx hb hr (fun t ht hW => ⟨⟨r_19, u_20, rfl, h, by rw [ht]; exact hP, va_K.moved hW.alike hK, hD⟩, hS.F ht⟩) hS.2.2 dX6_dance_37
  · have h := h.2 c_5
    refine lv_aload_n hx hb dX6_dance_12 rfl (lv_at hl 0 rfl) ?_
    refine lv_iconst (v := (-1 : Int32)) hx hb dX6_dance_13 (by decide) ?_
    have hFc := fr_self hD hS hA
    refine gv_i (va_runV (As := [.int (-1 : Int32)]) (rest := []) ⟨hx, hb, hml, hown, hts⟩ (c_X6_refuse l D k a S_3 H.size (-1 : Int32) _ h) (cwV 1 hts gX6_dance_X6_refuse rfl rfl rfl (by decide +kernel) ⟨Nat.le_of_ble_eq_true rfl, Nat.le_of_ble_eq_true rfl⟩) (gv_preV hK hnw hP hD (ci := 6) rfl 0 rfl) rfl rfl hl.1 rfl (lv_room (Nat.le_of_ble_eq_true rfl)) dX6_dance_14 ⟨Nat.zero_le _, Nat.zero_le _⟩) hS hFc (fun r_21 u_22 H locs h hP1 hD1 hk1 hS => ?_)
    have hP := hP1
    have hD := hD1.weaken (fun _ _ _ z => hFc _ z)
    exact W.iret (v := r_21) hx hb hr (fun t ht hW => ⟨⟨r_21, u_22, rfl, h, by rw [ht]; exact hP, va_K.moved hW.alike hK, hD⟩, hS.F ht⟩) hS.2.2 dX6_dance_17
/-! X6_night -/
def wp_X6_night (S0 : CS) (Q : Int32 → CS → Prop) : Prop := wp_X2_forgetBrought S0.2.1 (fun r_1 u_2 => ∀ S_3, S_3 = (xf S0 u_2) → (Q r_1 S_3))
abbrev rmX6_night : Room := { frames := 1, cells := 0, slots := 0, locals := 22 }
set_option maxRecDepth 100000 in
set_option maxHeartbeats 4000000 in
theorem c_X6_night (l : Launch) (D : va_G) (k : Nat → ClassId) (a : Nat → Nat) (S0 : CS) (sz : Nat) (Q : Int32 → CS → Prop) (h : wp_X6_night S0 Q) : Met l yX6_night wsX6_night rmX6_night (cPc D k (wMa k a S0) [.ref (a 0)] sz) (va_Qi (fun (r : Int32) (u : CS) => Q r u) (cB D k (va_A (wMa k a S0) sz) (fun u : CS => wMa k a u)) (va_A (wMa k a S0) sz)) 0 0 (va_A (wMa k a S0) sz) := by
  refine ct_entry (cc := cX6_night) (maxL := 1) (ret := (some .int)) (Rn := RX6) (Qc := fun A => (va_Qi (fun (r : Int32) (u : CS) => Q r u) (cB D k A (fun u : CS => wMa k a u)) A)) (by decide) rfl rfl (Nat.le_of_ble_eq_true rfl) ?_
  intro p e s m below meth c hx hb hr hlocks hml hts hown hnw hK A hA H locs hP hD hS ls hl
  have hl : lv_has ls 1 [(0, .ref (a 0))] := hl
  have ln_10 := hts (.fieldLink RX6 10 "WithTheSameOne" "floor" "LWithTheSameOne$Floor;") (by decide +kernel)
  have in_Ma : ∀ w ∈ wsX60, w ∈ wsX6_night := fun _ h => List.mem_cons_of_mem _ (List.mem_append_left _ (List.mem_append_right _ h))
  unfold wp_X6_night at h
  refine lv_aload_n hx hb dX6_night_0 rfl (lv_at hl 0 rfl) ?_
  refine va_get (D := D) (ci := 6) (v := .ref (a 2)) (C := RX6) (T := TX6) (N := 8) hx hb hts in_Ma hown hK hP 0 rfl rfl 0 (by decide) ln_10 (fun _ h9 => h9) rfl dX6_night_1 ?_
  have hPc := fc22_P hP
  have hDc := fc22_D hD
  have hFc := fr_self hDc hS hA
  refine gv_i (va_runV (As := []) (rest := []) ⟨hx, hb, hml, hown, hts⟩ (c_X2_forgetBrought l D k (sh a 2) S0.2.1 H.size _ h) (cwV 0 hts gX6_night_X2_forgetBrought rfl rfl rfl (by decide +kernel) ⟨Nat.le_of_ble_eq_true rfl, Nat.le_of_ble_eq_true rfl⟩) (gv_preV hK hnw hPc hDc (ci := 2) rfl 0 rfl) rfl rfl hl.1 rfl (lv_room (Nat.le_of_ble_eq_true rfl)) dX6_night_4 ⟨Nat.zero_le _, Nat.zero_le _⟩) hS hFc (fun r_1 u_2 H locs h hP1 hD1 hk1 hS => ?_)
  obtain ⟨hP, hD⟩ := fc22_J hP hD hk1 hFc hP1 hD1
  obtain ⟨S_3, e_4⟩ : ∃ z : CS, z = (xf S0 u_2) := ⟨_, rfl⟩
  have h := h S_3 e_4
  have hP : va_P D vwCl (wMa k a S_3) H := by rw [e_4]; exact hP
  have hD : va_D A (wMa k a S_3) := by rw [e_4]; exact hD
  exact W.iret (v := r_1) hx hb hr (fun t ht hW => ⟨⟨r_1, S_3, rfl, h, by rw [ht]; exact hP, va_K.moved hW.alike hK, hD⟩, hS.F ht⟩) hS.2.2 dX6_night_7
/-! X6_ever -/
def wp_X6_ever (S0 : CS) (x1 : Int32) (x2 : Int32) (Q : Int32 → CS → Prop) : Prop := wp_X2_areTwo S0.2.1 x1 x2 (fun r_1 u_2 => ∀ S_3, S_3 = (xf S0 u_2) → (((¬ r_1 = 0) → (wp_X3_isEver S_3.2.2.2.2.1 S_3.2.1 x1 x2 (fun r_6 u_7 u_8 => ∀ S_10, S_10 = (xf (xh S_3 u_7) u_8) → (wp_X6_asNumber r_6 (fun r_12 => Q r_12 S_10))))) ∧ ((r_1 = 0) → (wp_X6_refuse S_3 (-1 : Int32) (fun r_13 u_14 => Q r_13 u_14)))))
abbrev rmX6_ever : Room := { frames := 6, cells := 0, slots := 0, locals := 133 }
set_option maxRecDepth 100000 in
set_option maxHeartbeats 4000000 in
theorem c_X6_ever (l : Launch) (D : va_G) (k : Nat → ClassId) (a : Nat → Nat) (S0 : CS) (sz : Nat) (x1 : Int32) (x2 : Int32) (Q : Int32 → CS → Prop) (h : wp_X6_ever S0 x1 x2 Q) : Met l yX6_ever wsX6_ever rmX6_ever (cPc D k (wMa k a S0) [.ref (a 0), .int x1, .int x2] sz) (va_Qi (fun (r : Int32) (u : CS) => Q r u) (cB D k (va_A (wMa k a S0) sz) (fun u : CS => wMa k a u)) (va_A (wMa k a S0) sz)) 0 0 (va_A (wMa k a S0) sz) := by
  refine ct_entry (cc := cX6_ever) (maxL := 3) (ret := (some .int)) (Rn := RX6) (Qc := fun A => (va_Qi (fun (r : Int32) (u : CS) => Q r u) (cB D k A (fun u : CS => wMa k a u)) A)) (by decide) rfl rfl (Nat.le_of_ble_eq_true rfl) ?_
  intro p e s m below meth c hx hb hr hlocks hml hts hown hnw hK A hA H locs hP hD hS ls hl
  have hl : lv_has ls 3 [(0, .ref (a 0)), (1, .int x1), (2, .int x2)] := hl
  have ln_10 := hts (.fieldLink RX6 10 "WithTheSameOne" "floor" "LWithTheSameOne$Floor;") (by decide +kernel)
  have ln_29 := hts (.fieldLink RX6 29 "WithTheSameOne" "hopes" "LWithTheSameOne$Hopes;") (by decide +kernel)
  have in_Ma : ∀ w ∈ wsX60, w ∈ wsX6_ever := fun _ h => List.mem_cons_of_mem _ (List.mem_append_left _ (List.mem_append_left _ (List.mem_append_left _ (List.mem_append_right _ h))))
  unfold wp_X6_ever at h
  refine lv_aload_n hx hb dX6_ever_0 rfl (lv_at hl 0 rfl) ?_
  refine va_get (D := D) (ci := 6) (v := .ref (a 2)) (C := RX6) (T := TX6) (N := 8) hx hb hts in_Ma hown hK hP 0 rfl rfl 0 (by decide) ln_10 (fun _ h9 => h9) rfl dX6_ever_1 ?_
  refine lv_iload_n hx hb dX6_ever_4 rfl (lv_at hl 1 rfl) ?_
  refine lv_iload_n hx hb dX6_ever_5 rfl (lv_at hl 2 rfl) ?_
  have hPc := fc22_P hP
  have hDc := fc22_D hD
  have hFc := fr_self hDc hS hA
  refine gv_i (va_runV (As := [.int x1, .int x2]) (rest := []) ⟨hx, hb, hml, hown, hts⟩ (c_X2_areTwo l D k (sh a 2) S0.2.1 H.size x1 x2 _ h) (cwV 2 hts gX6_ever_X2_areTwo rfl rfl rfl (by decide +kernel) ⟨Nat.le_of_ble_eq_true rfl, Nat.le_of_ble_eq_true rfl⟩) (gv_preV hK hnw hPc hDc (ci := 2) rfl 0 rfl) rfl rfl hl.1 rfl (lv_room (Nat.le_of_ble_eq_true rfl)) dX6_ever_6 ⟨Nat.zero_le _, Nat.zero_le _⟩) hS hFc (fun r_1 u_2 H locs h hP1 hD1 hk1 hS => ?_)
  obtain ⟨hP, hD⟩ := fc22_J hP hD hk1 hFc hP1 hD1
  obtain ⟨S_3, e_4⟩ : ∃ z : CS, z = (xf S0 u_2) := ⟨_, rfl⟩
  have h := h S_3 e_4
  have hP : va_P D vwCl (wMa k a S_3) H := by rw [e_4]; exact hP
  have hD : va_D A (wMa k a S_3) := by rw [e_4]; exact hD
  refine lv_if_ne (tgt := 18) hx hb dX6_ever_9 (by decide) (fun c_5 => ?_) (fun c_5 => ?_)
  · have h := h.1 c_5
    refine lv_aload_n hx hb dX6_ever_18 rfl (lv_at hl 0 rfl) ?_
    refine va_get (D := D) (ci := 6) (v := .ref (a 19)) (C := RX6) (T := TX6) (N := 8) hx hb hts in_Ma hown hK hP 0 rfl rfl 3 (by decide) ln_29 (fun _ h9 => h9) rfl dX6_ever_19 ?_
    refine lv_aload_n hx hb dX6_ever_22 rfl (lv_at hl 0 rfl) ?_
    refine va_get (D := D) (ci := 6) (v := .ref (a 2)) (C := RX6) (T := TX6) (N := 8) hx hb hts in_Ma hown hK hP 0 rfl rfl 0 (by decide) ln_10 (fun _ h9 => h9) rfl dX6_ever_23 ?_
    refine lv_iload_n hx hb dX6_ever_26 rfl (lv_at hl 1 rfl) ?_
    refine lv_iload_n hx hb dX6_ever_27 rfl (lv_at hl 2 rfl) ?_
    have hPc := fc23_P hP
    have hDc := fc23_D hD
    have hFc := fr_self hDc hS hA
    refine gv_i (va_runV (As := [.ref (a 2), .int x1, .int x2]) (rest := []) ⟨hx, hb, hml, hown, hts⟩ (c_X3_isEver l D k (sh a 19) (sh a 2) S_3.2.2.2.2.1 S_3.2.1 H.size x1 x2 _ h) (cwV 3 hts gX6_ever_X3_isEver rfl rfl rfl (by decide +kernel) ⟨Nat.le_of_ble_eq_true rfl, Nat.le_of_ble_eq_true rfl⟩) (gv_preV hK hnw hPc hDc (ci := 3) rfl 0 rfl) rfl rfl hl.1 rfl (lv_room (Nat.le_of_ble_eq_true rfl)) dX6_ever_28 ⟨Nat.zero_le _, Nat.zero_le _⟩) hS hFc (fun r_6 w_9 H locs h hP1 hD1 hk1 hS => ?_)
    obtain ⟨u_7, u_8⟩ := w_9
    obtain ⟨hP, hD⟩ := fc23_J hP hD hk1 hFc hP1 hD1
    obtain ⟨S_10, e_11⟩ : ∃ z : CS, z = (xf (xh S_3 u_7) u_8) := ⟨_, rfl⟩
    have h := h S_10 e_11
    have hP : va_P D vwCl (wMa k a S_10) H := by rw [e_11]; exact hP
    have hD : va_D A (wMa k a S_10) := by rw [e_11]; exact hD
    refine gs_i (va_runS (As := [.int r_6]) (rest := []) ⟨hx, hb, hml, hown, hts⟩ (c_X6_asNumber l r_6 _ h) (va_cwS 1 hts gX6_ever_X6_asNumber rfl rfl rfl (by decide +kernel) ⟨Nat.le_of_ble_eq_true rfl, Nat.le_of_ble_eq_true rfl⟩) preEq rfl rfl hl.1 rfl (lv_room (Nat.le_of_ble_eq_true rfl)) dX6_ever_31 ⟨Nat.zero_le _, Nat.zero_le _⟩) (fun r_12 h => ?_)
    exact W.iret (v := r_12) hx hb hr (fun t ht hW => ⟨⟨r_12, S_10, rfl, h, by rw [ht]; exact hP, va_K.moved hW.alike hK, hD⟩, hS.F ht⟩) hS.2.2 dX6_ever_34
  · have h := h.2 c_5
    refine lv_aload_n hx hb dX6_ever_12 rfl (lv_at hl 0 rfl) ?_
    refine lv_iconst (v := (-1 : Int32)) hx hb dX6_ever_13 (by decide) ?_
    have hFc := fr_self hD hS hA
    refine gv_i (va_runV (As := [.int (-1 : Int32)]) (rest := []) ⟨hx, hb, hml, hown, hts⟩ (c_X6_refuse l D k a S_3 H.size (-1 : Int32) _ h) (cwV 1 hts gX6_ever_X6_refuse rfl rfl rfl (by decide +kernel) ⟨Nat.le_of_ble_eq_true rfl, Nat.le_of_ble_eq_true rfl⟩) (gv_preV hK hnw hP hD (ci := 6) rfl 0 rfl) rfl rfl hl.1 rfl (lv_room (Nat.le_of_ble_eq_true rfl)) dX6_ever_14 ⟨Nat.zero_le _, Nat.zero_le _⟩) hS hFc (fun r_13 u_14 H locs h hP1 hD1 hk1 hS => ?_)
    have hP := hP1
    have hD := hD1.weaken (fun _ _ _ z => hFc _ z)
    exact W.iret (v := r_13) hx hb hr (fun t ht hW => ⟨⟨r_13, u_14, rfl, h, by rw [ht]; exact hP, va_K.moved hW.alike hK, hD⟩, hS.F ht⟩) hS.2.2 dX6_ever_17
/-! X6_round -/
def wp_X6_round (S0 : CS) (x1 : Int32) (x2 : Int32) (Q : Int32 → CS → Prop) : Prop := wp_X2_areTwo S0.2.1 x1 x2 (fun r_1 u_2 => ∀ S_3, S_3 = (xf S0 u_2) → (((¬ r_1 = 0) → (wp_X3_roundOf S_3.2.2.2.2.1 S_3.2.1 x1 x2 (fun r_6 u_7 u_8 => ∀ S_10, S_10 = (xf (xh S_3 u_7) u_8) → (Q r_6 S_10)))) ∧ ((r_1 = 0) → (wp_X6_refuse S_3 (-1 : Int32) (fun r_12 u_13 => Q r_12 u_13)))))
abbrev rmX6_round : Room := { frames := 4, cells := 0, slots := 0, locals := 92 }
set_option maxRecDepth 100000 in
set_option maxHeartbeats 4000000 in
theorem c_X6_round (l : Launch) (D : va_G) (k : Nat → ClassId) (a : Nat → Nat) (S0 : CS) (sz : Nat) (x1 : Int32) (x2 : Int32) (Q : Int32 → CS → Prop) (h : wp_X6_round S0 x1 x2 Q) : Met l yX6_round wsX6_round rmX6_round (cPc D k (wMa k a S0) [.ref (a 0), .int x1, .int x2] sz) (va_Qi (fun (r : Int32) (u : CS) => Q r u) (cB D k (va_A (wMa k a S0) sz) (fun u : CS => wMa k a u)) (va_A (wMa k a S0) sz)) 0 0 (va_A (wMa k a S0) sz) := by
  refine ct_entry (cc := cX6_round) (maxL := 3) (ret := (some .int)) (Rn := RX6) (Qc := fun A => (va_Qi (fun (r : Int32) (u : CS) => Q r u) (cB D k A (fun u : CS => wMa k a u)) A)) (by decide) rfl rfl (Nat.le_of_ble_eq_true rfl) ?_
  intro p e s m below meth c hx hb hr hlocks hml hts hown hnw hK A hA H locs hP hD hS ls hl
  have hl : lv_has ls 3 [(0, .ref (a 0)), (1, .int x1), (2, .int x2)] := hl
  have ln_10 := hts (.fieldLink RX6 10 "WithTheSameOne" "floor" "LWithTheSameOne$Floor;") (by decide +kernel)
  have ln_29 := hts (.fieldLink RX6 29 "WithTheSameOne" "hopes" "LWithTheSameOne$Hopes;") (by decide +kernel)
  have in_Ma : ∀ w ∈ wsX60, w ∈ wsX6_round := fun _ h => List.mem_cons_of_mem _ (List.mem_append_left _ (List.mem_append_left _ (List.mem_append_left _ (List.mem_append_right _ h))))
  unfold wp_X6_round at h
  refine lv_aload_n hx hb dX6_round_0 rfl (lv_at hl 0 rfl) ?_
  refine va_get (D := D) (ci := 6) (v := .ref (a 2)) (C := RX6) (T := TX6) (N := 8) hx hb hts in_Ma hown hK hP 0 rfl rfl 0 (by decide) ln_10 (fun _ h9 => h9) rfl dX6_round_1 ?_
  refine lv_iload_n hx hb dX6_round_4 rfl (lv_at hl 1 rfl) ?_
  refine lv_iload_n hx hb dX6_round_5 rfl (lv_at hl 2 rfl) ?_
  have hPc := fc22_P hP
  have hDc := fc22_D hD
  have hFc := fr_self hDc hS hA
  refine gv_i (va_runV (As := [.int x1, .int x2]) (rest := []) ⟨hx, hb, hml, hown, hts⟩ (c_X2_areTwo l D k (sh a 2) S0.2.1 H.size x1 x2 _ h) (cwV 2 hts gX6_round_X2_areTwo rfl rfl rfl (by decide +kernel) ⟨Nat.le_of_ble_eq_true rfl, Nat.le_of_ble_eq_true rfl⟩) (gv_preV hK hnw hPc hDc (ci := 2) rfl 0 rfl) rfl rfl hl.1 rfl (lv_room (Nat.le_of_ble_eq_true rfl)) dX6_round_6 ⟨Nat.zero_le _, Nat.zero_le _⟩) hS hFc (fun r_1 u_2 H locs h hP1 hD1 hk1 hS => ?_)
  obtain ⟨hP, hD⟩ := fc22_J hP hD hk1 hFc hP1 hD1
  obtain ⟨S_3, e_4⟩ : ∃ z : CS, z = (xf S0 u_2) := ⟨_, rfl⟩
  have h := h S_3 e_4
  have hP : va_P D vwCl (wMa k a S_3) H := by rw [e_4]; exact hP
  have hD : va_D A (wMa k a S_3) := by rw [e_4]; exact hD
  refine lv_if_ne (tgt := 18) hx hb dX6_round_9 (by decide) (fun c_5 => ?_) (fun c_5 => ?_)
  · have h := h.1 c_5
    refine lv_aload_n hx hb dX6_round_18 rfl (lv_at hl 0 rfl) ?_
    refine va_get (D := D) (ci := 6) (v := .ref (a 19)) (C := RX6) (T := TX6) (N := 8) hx hb hts in_Ma hown hK hP 0 rfl rfl 3 (by decide) ln_29 (fun _ h9 => h9) rfl dX6_round_19 ?_
    refine lv_aload_n hx hb dX6_round_22 rfl (lv_at hl 0 rfl) ?_
    refine va_get (D := D) (ci := 6) (v := .ref (a 2)) (C := RX6) (T := TX6) (N := 8) hx hb hts in_Ma hown hK hP 0 rfl rfl 0 (by decide) ln_10 (fun _ h9 => h9) rfl dX6_round_23 ?_
    refine lv_iload_n hx hb dX6_round_26 rfl (lv_at hl 1 rfl) ?_
    refine lv_iload_n hx hb dX6_round_27 rfl (lv_at hl 2 rfl) ?_
    have hPc := fc23_P hP
    have hDc := fc23_D hD
    have hFc := fr_self hDc hS hA
    refine gv_i (va_runV (As := [.ref (a 2), .int x1, .int x2]) (rest := []) ⟨hx, hb, hml, hown, hts⟩ (c_X3_roundOf l D k (sh a 19) (sh a 2) S_3.2.2.2.2.1 S_3.2.1 H.size x1 x2 _ h) (cwV 3 hts gX6_round_X3_roundOf rfl rfl rfl (by decide +kernel) ⟨Nat.le_of_ble_eq_true rfl, Nat.le_of_ble_eq_true rfl⟩) (gv_preV hK hnw hPc hDc (ci := 3) rfl 0 rfl) rfl rfl hl.1 rfl (lv_room (Nat.le_of_ble_eq_true rfl)) dX6_round_28 ⟨Nat.zero_le _, Nat.zero_le _⟩) hS hFc (fun r_6 w_9 H locs h hP1 hD1 hk1 hS => ?_)
    obtain ⟨u_7, u_8⟩ := w_9
    obtain ⟨hP, hD⟩ := fc23_J hP hD hk1 hFc hP1 hD1
    obtain ⟨S_10, e_11⟩ : ∃ z : CS, z = (xf (xh S_3 u_7) u_8) := ⟨_, rfl⟩
    have h := h S_10 e_11
    have hP : va_P D vwCl (wMa k a S_10) H := by rw [e_11]; exact hP
    have hD : va_D A (wMa k a S_10) := by rw [e_11]; exact hD
    exact W.iret (v := r_6) hx hb hr (fun t ht hW => ⟨⟨r_6, S_10, rfl, h, by rw [ht]; exact hP, va_K.moved hW.alike hK, hD⟩, hS.F ht⟩) hS.2.2 dX6_round_31
  · have h := h.2 c_5
    refine lv_aload_n hx hb dX6_round_12 rfl (lv_at hl 0 rfl) ?_
    refine lv_iconst (v := (-1 : Int32)) hx hb dX6_round_13 (by decide) ?_
    have hFc := fr_self hD hS hA
    refine gv_i (va_runV (As := [.int (-1 : Int32)]) (rest := []) ⟨hx, hb, hml, hown, hts⟩ (c_X6_refuse l D k a S_3 H.size (-1 : Int32) _ h) (cwV 1 hts gX6_round_X6_refuse rfl rfl rfl (by decide +kernel) ⟨Nat.le_of_ble_eq_true rfl, Nat.le_of_ble_eq_true rfl⟩) (gv_preV hK hnw hP hD (ci := 6) rfl 0 rfl) rfl rfl hl.1 rfl (lv_room (Nat.le_of_ble_eq_true rfl)) dX6_round_14 ⟨Nat.zero_le _, Nat.zero_le _⟩) hS hFc (fun r_12 u_13 H locs h hP1 hD1 hk1 hS => ?_)
    have hP := hP1
    have hD := hD1.weaken (fun _ _ _ z => hFc _ z)
    exact W.iret (v := r_12) hx hb hr (fun t ht hW => ⟨⟨r_12, u_13, rfl, h, by rw [ht]; exact hP, va_K.moved hW.alike hK, hD⟩, hS.F ht⟩) hS.2.2 dX6_round_17
/-! X6_closed -/
def wp_X6_closed (S0 : CS) (x1 : Int32) (Q : Int32 → CS → Prop) : Prop := (x1 = (0 : Int32) → (wp_X3_pairsInTheEnd S0.2.2.2.2.1 S0.2.1 (S0.2.1.1 1) (fun r_2 u_3 u_4 => ∀ S_6, S_6 = (xf (xh S0 u_3) u_4) → (Q r_2 S_6)))) ∧ (¬ x1 = (0 : Int32) → ((x1 = (1 : Int32) → (wp_X3_roundsTillTheEnd S0.2.2.2.2.1 S0.2.1 (fun r_9 u_10 u_11 => ∀ S_13, S_13 = (xf (xh S0 u_10) u_11) → (Q r_9 S_13)))) ∧ (¬ x1 = (1 : Int32) → ((x1 = (2 : Int32) → (wp_X2_heaps S0.2.1 (fun r_16 u_17 => ∀ S_18, S_18 = (xf S0 u_17) → (Q r_16 S_18)))) ∧ (¬ x1 = (2 : Int32) → (wp_X6_refuse S0 (-2 : Int32) (fun r_20 u_21 => Q r_20 u_21)))))))
abbrev rmX6_closed : Room := { frames := 6, cells := 0, slots := 0, locals := 131 }
set_option maxRecDepth 100000 in
set_option maxHeartbeats 4000000 in
theorem c_X6_closed (l : Launch) (D : va_G) (k : Nat → ClassId) (a : Nat → Nat) (S0 : CS) (sz : Nat) (x1 : Int32) (Q : Int32 → CS → Prop) (h : wp_X6_closed S0 x1 Q) : Met l yX6_closed wsX6_closed rmX6_closed (cPc D k (wMa k a S0) [.ref (a 0), .int x1] sz) (va_Qi (fun (r : Int32) (u : CS) => Q r u) (cB D k (va_A (wMa k a S0) sz) (fun u : CS => wMa k a u)) (va_A (wMa k a S0) sz)) 0 0 (va_A (wMa k a S0) sz) := by
  refine ct_entry (cc := cX6_closed) (maxL := 2) (ret := (some .int)) (Rn := RX6) (Qc := fun A => (va_Qi (fun (r : Int32) (u : CS) => Q r u) (cB D k A (fun u : CS => wMa k a u)) A)) (by decide) rfl rfl (Nat.le_of_ble_eq_true rfl) ?_
  intro p e s m below meth c hx hb hr hlocks hml hts hown hnw hK A hA H locs hP hD hS ls hl
  have hl : lv_has ls 2 [(0, .ref (a 0)), (1, .int x1)] := hl
  have ln_10 := hts (.fieldLink RX6 10 "WithTheSameOne" "floor" "LWithTheSameOne$Floor;") (by decide +kernel)
  have ln_29 := hts (.fieldLink RX6 29 "WithTheSameOne" "hopes" "LWithTheSameOne$Hopes;") (by decide +kernel)
  have ln_94 := hts (.fieldLink RX6 94 "WithTheSameOne$Floor" "law" "I") (by decide +kernel)
  have in_Ma : ∀ w ∈ wsX60, w ∈ wsX6_closed := fun _ h => List.mem_cons_of_mem _ (List.mem_append_left _ (List.mem_append_left _ (List.mem_append_left _ (List.mem_append_right _ h))))
  have in_Fl : ∀ w ∈ wsX20, w ∈ wsX6_closed := fun _ h => List.mem_cons_of_mem _ (List.mem_append_left _ (List.mem_append_left _ (List.mem_append_right _ h)))
  unfold wp_X6_closed at h
  refine lv_iload_n hx hb dX6_closed_0 rfl (lv_at hl 1 rfl) ?_
  by_cases c_1 : x1 = (0 : Int32)
  · have h := h.1 c_1
    refine lv_tableIn (off := 27) (tgt := 28) hx hb dX6_closed_1 (by rw [c_1]; decide) (by rw [c_1]; decide) (by rw [c_1]; rfl) (by decide) ?_
    refine lv_aload_n hx hb dX6_closed_28 rfl (lv_at hl 0 rfl) ?_
    refine va_get (D := D) (ci := 6) (v := .ref (a 19)) (C := RX6) (T := TX6) (N := 8) hx hb hts in_Ma hown hK hP 0 rfl rfl 3 (by decide) ln_29 (fun _ h9 => h9) rfl dX6_closed_29 ?_
    refine lv_aload_n hx hb dX6_closed_32 rfl (lv_at hl 0 rfl) ?_
    refine va_get (D := D) (ci := 6) (v := .ref (a 2)) (C := RX6) (T := TX6) (N := 8) hx hb hts in_Ma hown hK hP 0 rfl rfl 0 (by decide) ln_10 (fun _ h9 => h9) rfl dX6_closed_33 ?_
    refine lv_aload_n hx hb dX6_closed_36 rfl (lv_at hl 0 rfl) ?_
    refine va_get (D := D) (ci := 6) (v := .ref (a 2)) (C := RX6) (T := TX6) (N := 8) hx hb hts in_Ma hown hK hP 0 rfl rfl 0 (by decide) ln_10 (fun _ h9 => h9) rfl dX6_closed_37 ?_
    refine va_get (D := D) (ci := 2) (v := .int (S0.2.1.1 1)) (C := RX2) (T := TX2) (N := 6) hx hb hts in_Fl hown hK hP 2 rfl rfl 1 (by decide) ln_94 (fun _ h9 => h9) rfl dX6_closed_40 ?_
    have hPc := fc23_P hP
    have hDc := fc23_D hD
    have hFc := fr_self hDc hS hA
    refine gv_i (va_runV (As := [.ref (a 2), .int (S0.2.1.1 1)]) (rest := []) ⟨hx, hb, hml, hown, hts⟩ (c_X3_pairsInTheEnd l D k (sh a 19) (sh a 2) S0.2.2.2.2.1 S0.2.1 H.size (S0.2.1.1 1) _ h) (cwV 2 hts gX6_closed_X3_pairsInTheEnd rfl rfl rfl (by decide +kernel) ⟨Nat.le_of_ble_eq_true rfl, Nat.le_of_ble_eq_true rfl⟩) (gv_preV hK hnw hPc hDc (ci := 3) rfl 0 rfl) rfl rfl hl.1 rfl (lv_room (Nat.le_of_ble_eq_true rfl)) dX6_closed_43 ⟨Nat.zero_le _, Nat.zero_le _⟩) hS hFc (fun r_2 w_5 H locs h hP1 hD1 hk1 hS => ?_)
    obtain ⟨u_3, u_4⟩ := w_5
    obtain ⟨hP, hD⟩ := fc23_J hP hD hk1 hFc hP1 hD1
    obtain ⟨S_6, e_7⟩ : ∃ z : CS, z = (xf (xh S0 u_3) u_4) := ⟨_, rfl⟩
    have h := h S_6 e_7
    have hP : va_P D vwCl (wMa k a S_6) H := by rw [e_7]; exact hP
    have hD : va_D A (wMa k a S_6) := by rw [e_7]; exact hD
    exact W.iret (v := r_2) hx hb hr (fun t ht hW => ⟨⟨r_2, S_6, rfl, h, by rw [ht]; exact hP, va_K.moved hW.alike hK, hD⟩, hS.F ht⟩) hS.2.2 dX6_closed_46
  · have h := h.2 c_1
    by_cases c_8 : x1 = (1 : Int32)
    · have h := h.1 c_8
      refine lv_tableIn (off := 46) (tgt := 47) hx hb dX6_closed_1 (by rw [c_8]; decide) (by rw [c_8]; decide) (by rw [c_8]; rfl) (by decide) ?_
      refine lv_aload_n hx hb dX6_closed_47 rfl (lv_at hl 0 rfl) ?_
      refine va_get (D := D) (ci := 6) (v := .ref (a 19)) (C := RX6) (T := TX6) (N := 8) hx hb hts in_Ma hown hK hP 0 rfl rfl 3 (by decide) ln_29 (fun _ h9 => h9) rfl dX6_closed_48 ?_
      refine lv_aload_n hx hb dX6_closed_51 rfl (lv_at hl 0 rfl) ?_
      refine va_get (D := D) (ci := 6) (v := .ref (a 2)) (C := RX6) (T := TX6) (N := 8) hx hb hts in_Ma hown hK hP 0 rfl rfl 0 (by decide) ln_10 (fun _ h9 => h9) rfl dX6_closed_52 ?_
      have hPc := fc23_P hP
      have hDc := fc23_D hD
      have hFc := fr_self hDc hS hA
      refine gv_i (va_runV (As := [.ref (a 2)]) (rest := []) ⟨hx, hb, hml, hown, hts⟩ (c_X3_roundsTillTheEnd l D k (sh a 19) (sh a 2) S0.2.2.2.2.1 S0.2.1 H.size _ h) (cwV 1 hts gX6_closed_X3_roundsTillTheEnd rfl rfl rfl (by decide +kernel) ⟨Nat.le_of_ble_eq_true rfl, Nat.le_of_ble_eq_true rfl⟩) (gv_preV hK hnw hPc hDc (ci := 3) rfl 0 rfl) rfl rfl hl.1 rfl (lv_room (Nat.le_of_ble_eq_true rfl)) dX6_closed_55 ⟨Nat.zero_le _, Nat.zero_le _⟩) hS hFc (fun r_9 w_12 H locs h hP1 hD1 hk1 hS => ?_)
      obtain ⟨u_10, u_11⟩ := w_12
      obtain ⟨hP, hD⟩ := fc23_J hP hD hk1 hFc hP1 hD1
      obtain ⟨S_13, e_14⟩ : ∃ z : CS, z = (xf (xh S0 u_10) u_11) := ⟨_, rfl⟩
      have h := h S_13 e_14
      have hP : va_P D vwCl (wMa k a S_13) H := by rw [e_14]; exact hP
      have hD : va_D A (wMa k a S_13) := by rw [e_14]; exact hD
      exact W.iret (v := r_9) hx hb hr (fun t ht hW => ⟨⟨r_9, S_13, rfl, h, by rw [ht]; exact hP, va_K.moved hW.alike hK, hD⟩, hS.F ht⟩) hS.2.2 dX6_closed_58
    · have h := h.2 c_8
      by_cases c_15 : x1 = (2 : Int32)
      · have h := h.1 c_15
        refine lv_tableIn (off := 58) (tgt := 59) hx hb dX6_closed_1 (by rw [c_15]; decide) (by rw [c_15]; decide) (by rw [c_15]; rfl) (by decide) ?_
        refine lv_aload_n hx hb dX6_closed_59 rfl (lv_at hl 0 rfl) ?_
        refine va_get (D := D) (ci := 6) (v := .ref (a 2)) (C := RX6) (T := TX6) (N := 8) hx hb hts in_Ma hown hK hP 0 rfl rfl 0 (by decide) ln_10 (fun _ h9 => h9) rfl dX6_closed_60 ?_
        have hPc := fc22_P hP
        have hDc := fc22_D hD
        have hFc := fr_self hDc hS hA
        refine gv_i (va_runV (As := []) (rest := []) ⟨hx, hb, hml, hown, hts⟩ (c_X2_heaps l D k (sh a 2) S0.2.1 H.size _ h) (cwV 0 hts gX6_closed_X2_heaps rfl rfl rfl (by decide +kernel) ⟨Nat.le_of_ble_eq_true rfl, Nat.le_of_ble_eq_true rfl⟩) (gv_preV hK hnw hPc hDc (ci := 2) rfl 0 rfl) rfl rfl hl.1 rfl (lv_room (Nat.le_of_ble_eq_true rfl)) dX6_closed_63 ⟨Nat.zero_le _, Nat.zero_le _⟩) hS hFc (fun r_16 u_17 H locs h hP1 hD1 hk1 hS => ?_)
        obtain ⟨hP, hD⟩ := fc22_J hP hD hk1 hFc hP1 hD1
        obtain ⟨S_18, e_19⟩ : ∃ z : CS, z = (xf S0 u_17) := ⟨_, rfl⟩
        have h := h S_18 e_19
        have hP : va_P D vwCl (wMa k a S_18) H := by rw [e_19]; exact hP
        have hD : va_D A (wMa k a S_18) := by rw [e_19]; exact hD
        exact W.iret (v := r_16) hx hb hr (fun t ht hW => ⟨⟨r_16, S_18, rfl, h, by rw [ht]; exact hP, va_K.moved hW.alike hK, hD⟩, hS.F ht⟩) hS.2.2 dX6_closed_66
      · have h := h.2 c_15
        refine lv_tableD (tgt := 67) hx hb dX6_closed_1 (by
      have n0 := lv_neT (k := (0 : Int32)) (a := 0) c_1 (by decide)
      have n1 := lv_neT (k := (1 : Int32)) (a := 1) c_8 (by decide)
      have n2 := lv_neT (k := (2 : Int32)) (a := 2) c_15 (by decide)
      rcases (show x1.toInt < 0 ∨ 2 < x1.toInt by omega) with q | q
      · exact Or.inl q
      · exact Or.inr (Or.inl q)) (by decide) ?_
        refine lv_aload_n hx hb dX6_closed_67 rfl (lv_at hl 0 rfl) ?_
        refine lv_bipush (v := (-2 : Int32)) hx hb dX6_closed_68 (by decide) ?_
        have hFc := fr_self hD hS hA
        refine gv_i (va_runV (As := [.int (-2 : Int32)]) (rest := []) ⟨hx, hb, hml, hown, hts⟩ (c_X6_refuse l D k a S0 H.size (-2 : Int32) _ h) (cwV 1 hts gX6_closed_X6_refuse rfl rfl rfl (by decide +kernel) ⟨Nat.le_of_ble_eq_true rfl, Nat.le_of_ble_eq_true rfl⟩) (gv_preV hK hnw hP hD (ci := 6) rfl 0 rfl) rfl rfl hl.1 rfl (lv_room (Nat.le_of_ble_eq_true rfl)) dX6_closed_70 ⟨Nat.zero_le _, Nat.zero_le _⟩) hS hFc (fun r_20 u_21 H locs h hP1 hD1 hk1 hS => ?_)
        have hP := hP1
        have hD := hD1.weaken (fun _ _ _ z => hFc _ z)
        exact W.iret (v := r_20) hx hb hr (fun t ht hW => ⟨⟨r_20, u_21, rfl, h, by rw [ht]; exact hP, va_K.moved hW.alike hK, hD⟩, hS.F ht⟩) hS.2.2 dX6_closed_73
/-! X6_opens -/
def wp_X6_opens (S0 : CS) (x1 : Int32) (x2 : Int32) (Q : Int32 → CS → Prop) : Prop := wp_X2_areTwo S0.2.1 x1 x2 (fun r_1 u_2 => ∀ S_3, S_3 = (xf S0 u_2) → (((¬ r_1 = 0) → (wp_X2_haveDanced S_3.2.1 x1 x2 (fun r_6 u_7 => ∀ S_8, S_8 = (xf S_3 u_7) → (((r_6 = 0) → (wp_X3_opened S_8.2.2.2.2.1 S_8.2.1 x1 x2 (fun r_11 u_12 u_13 => ∀ S_15, S_15 = (xf (xh S_8 u_12) u_13) → (Q r_11 S_15)))) ∧ ((¬ r_6 = 0) → (wp_X6_refuse S_8 (-3 : Int32) (fun r_17 u_18 => Q r_17 u_18))))))) ∧ ((r_1 = 0) → (wp_X6_refuse S_3 (-1 : Int32) (fun r_19 u_20 => Q r_19 u_20)))))
abbrev rmX6_opens : Room := { frames := 6, cells := 0, slots := 0, locals := 135 }
set_option maxRecDepth 100000 in
set_option maxHeartbeats 4000000 in
theorem c_X6_opens (l : Launch) (D : va_G) (k : Nat → ClassId) (a : Nat → Nat) (S0 : CS) (sz : Nat) (x1 : Int32) (x2 : Int32) (Q : Int32 → CS → Prop) (h : wp_X6_opens S0 x1 x2 Q) : Met l yX6_opens wsX6_opens rmX6_opens (cPc D k (wMa k a S0) [.ref (a 0), .int x1, .int x2] sz) (va_Qi (fun (r : Int32) (u : CS) => Q r u) (cB D k (va_A (wMa k a S0) sz) (fun u : CS => wMa k a u)) (va_A (wMa k a S0) sz)) 0 0 (va_A (wMa k a S0) sz) := by
  refine ct_entry (cc := cX6_opens) (maxL := 3) (ret := (some .int)) (Rn := RX6) (Qc := fun A => (va_Qi (fun (r : Int32) (u : CS) => Q r u) (cB D k A (fun u : CS => wMa k a u)) A)) (by decide) rfl rfl (Nat.le_of_ble_eq_true rfl) ?_
  intro p e s m below meth c hx hb hr hlocks hml hts hown hnw hK A hA H locs hP hD hS ls hl
  have hl : lv_has ls 3 [(0, .ref (a 0)), (1, .int x1), (2, .int x2)] := hl
  have ln_10 := hts (.fieldLink RX6 10 "WithTheSameOne" "floor" "LWithTheSameOne$Floor;") (by decide +kernel)
  have ln_29 := hts (.fieldLink RX6 29 "WithTheSameOne" "hopes" "LWithTheSameOne$Hopes;") (by decide +kernel)
  have in_Ma : ∀ w ∈ wsX60, w ∈ wsX6_opens := fun _ h => List.mem_cons_of_mem _ (List.mem_append_left _ (List.mem_append_left _ (List.mem_append_left _ (List.mem_append_right _ h))))
  unfold wp_X6_opens at h
  refine lv_aload_n hx hb dX6_opens_0 rfl (lv_at hl 0 rfl) ?_
  refine va_get (D := D) (ci := 6) (v := .ref (a 2)) (C := RX6) (T := TX6) (N := 8) hx hb hts in_Ma hown hK hP 0 rfl rfl 0 (by decide) ln_10 (fun _ h9 => h9) rfl dX6_opens_1 ?_
  refine lv_iload_n hx hb dX6_opens_4 rfl (lv_at hl 1 rfl) ?_
  refine lv_iload_n hx hb dX6_opens_5 rfl (lv_at hl 2 rfl) ?_
  have hPc := fc22_P hP
  have hDc := fc22_D hD
  have hFc := fr_self hDc hS hA
  refine gv_i (va_runV (As := [.int x1, .int x2]) (rest := []) ⟨hx, hb, hml, hown, hts⟩ (c_X2_areTwo l D k (sh a 2) S0.2.1 H.size x1 x2 _ h) (cwV 2 hts gX6_opens_X2_areTwo rfl rfl rfl (by decide +kernel) ⟨Nat.le_of_ble_eq_true rfl, Nat.le_of_ble_eq_true rfl⟩) (gv_preV hK hnw hPc hDc (ci := 2) rfl 0 rfl) rfl rfl hl.1 rfl (lv_room (Nat.le_of_ble_eq_true rfl)) dX6_opens_6 ⟨Nat.zero_le _, Nat.zero_le _⟩) hS hFc (fun r_1 u_2 H locs h hP1 hD1 hk1 hS => ?_)
  obtain ⟨hP, hD⟩ := fc22_J hP hD hk1 hFc hP1 hD1
  obtain ⟨S_3, e_4⟩ : ∃ z : CS, z = (xf S0 u_2) := ⟨_, rfl⟩
  have h := h S_3 e_4
  have hP : va_P D vwCl (wMa k a S_3) H := by rw [e_4]; exact hP
  have hD : va_D A (wMa k a S_3) := by rw [e_4]; exact hD
  refine lv_if_ne (tgt := 18) hx hb dX6_opens_9 (by decide) (fun c_5 => ?_) (fun c_5 => ?_)
  · have h := h.1 c_5
    refine lv_aload_n hx hb dX6_opens_18 rfl (lv_at hl 0 rfl) ?_
    refine va_get (D := D) (ci := 6) (v := .ref (a 2)) (C := RX6) (T := TX6) (N := 8) hx hb hts in_Ma hown hK hP 0 rfl rfl 0 (by decide) ln_10 (fun _ h9 => h9) rfl dX6_opens_19 ?_
    refine lv_iload_n hx hb dX6_opens_22 rfl (lv_at hl 1 rfl) ?_
    refine lv_iload_n hx hb dX6_opens_23 rfl (lv_at hl 2 rfl) ?_
    have hPc := fc22_P hP
    have hDc := fc22_D hD
    have hFc := fr_self hDc hS hA
    refine gv_i (va_runV (As := [.int x1, .int x2]) (rest := []) ⟨hx, hb, hml, hown, hts⟩ (c_X2_haveDanced l D k (sh a 2) S_3.2.1 H.size x1 x2 _ h) (cwV 2 hts gX6_opens_X2_haveDanced rfl rfl rfl (by decide +kernel) ⟨Nat.le_of_ble_eq_true rfl, Nat.le_of_ble_eq_true rfl⟩) (gv_preV hK hnw hPc hDc (ci := 2) rfl 0 rfl) rfl rfl hl.1 rfl (lv_room (Nat.le_of_ble_eq_true rfl)) dX6_opens_24 ⟨Nat.zero_le _, Nat.zero_le _⟩) hS hFc (fun r_6 u_7 H locs h hP1 hD1 hk1 hS => ?_)
    obtain ⟨hP, hD⟩ := fc22_J hP hD hk1 hFc hP1 hD1
    obtain ⟨S_8, e_9⟩ : ∃ z : CS, z = (xf S_3 u_7) := ⟨_, rfl⟩
    have h := h S_8 e_9
    have hP : va_P D vwCl (wMa k a S_8) H := by rw [e_9]; exact hP
    have hD : va_D A (wMa k a S_8) := by rw [e_9]; exact hD
    refine lv_if_eq (tgt := 37) hx hb dX6_opens_27 (by decide) (fun c_10 => ?_) (fun c_10 => ?_)
    · have h := h.1 c_10
      refine lv_aload_n hx hb dX6_opens_37 rfl (lv_at hl 0 rfl) ?_
      refine va_get (D := D) (ci := 6) (v := .ref (a 19)) (C := RX6) (T := TX6) (N := 8) hx hb hts in_Ma hown hK hP 0 rfl rfl 3 (by decide) ln_29 (fun _ h9 => h9) rfl dX6_opens_38 ?_
      refine lv_aload_n hx hb dX6_opens_41 rfl (lv_at hl 0 rfl) ?_
      refine va_get (D := D) (ci := 6) (v := .ref (a 2)) (C := RX6) (T := TX6) (N := 8) hx hb hts in_Ma hown hK hP 0 rfl rfl 0 (by decide) ln_10 (fun _ h9 => h9) rfl dX6_opens_42 ?_
      refine lv_iload_n hx hb dX6_opens_45 rfl (lv_at hl 1 rfl) ?_
      refine lv_iload_n hx hb dX6_opens_46 rfl (lv_at hl 2 rfl) ?_
      have hPc := fc23_P hP
      have hDc := fc23_D hD
      have hFc := fr_self hDc hS hA
      refine gv_i (va_runV (As := [.ref (a 2), .int x1, .int x2]) (rest := []) ⟨hx, hb, hml, hown, hts⟩ (c_X3_opened l D k (sh a 19) (sh a 2) S_8.2.2.2.2.1 S_8.2.1 H.size x1 x2 _ h) (cwV 3 hts gX6_opens_X3_opened rfl rfl rfl (by decide +kernel) ⟨Nat.le_of_ble_eq_true rfl, Nat.le_of_ble_eq_true rfl⟩) (gv_preV hK hnw hPc hDc (ci := 3) rfl 0 rfl) rfl rfl hl.1 rfl (lv_room (Nat.le_of_ble_eq_true rfl)) dX6_opens_47 ⟨Nat.zero_le _, Nat.zero_le _⟩) hS hFc (fun r_11 w_14 H locs h hP1 hD1 hk1 hS => ?_)
      obtain ⟨u_12, u_13⟩ := w_14
      obtain ⟨hP, hD⟩ := fc23_J hP hD hk1 hFc hP1 hD1
      obtain ⟨S_15, e_16⟩ : ∃ z : CS, z = (xf (xh S_8 u_12) u_13) := ⟨_, rfl⟩
      have h := h S_15 e_16
      have hP : va_P D vwCl (wMa k a S_15) H := by rw [e_16]; exact hP
      have hD : va_D A (wMa k a S_15) := by rw [e_16]; exact hD
      exact W.iret (v := r_11) hx hb hr (fun t ht hW => ⟨⟨r_11, S_15, rfl, h, by rw [ht]; exact hP, va_K.moved hW.alike hK, hD⟩, hS.F ht⟩) hS.2.2 dX6_opens_50
    · have h := h.2 c_10
      refine lv_aload_n hx hb dX6_opens_30 rfl (lv_at hl 0 rfl) ?_
      refine lv_bipush (v := (-3 : Int32)) hx hb dX6_opens_31 (by decide) ?_
      have hFc := fr_self hD hS hA
      refine gv_i (va_runV (As := [.int (-3 : Int32)]) (rest := []) ⟨hx, hb, hml, hown, hts⟩ (c_X6_refuse l D k a S_8 H.size (-3 : Int32) _ h) (cwV 1 hts gX6_opens_X6_refuse rfl rfl rfl (by decide +kernel) ⟨Nat.le_of_ble_eq_true rfl, Nat.le_of_ble_eq_true rfl⟩) (gv_preV hK hnw hP hD (ci := 6) rfl 0 rfl) rfl rfl hl.1 rfl (lv_room (Nat.le_of_ble_eq_true rfl)) dX6_opens_33 ⟨Nat.zero_le _, Nat.zero_le _⟩) hS hFc (fun r_17 u_18 H locs h hP1 hD1 hk1 hS => ?_)
      have hP := hP1
      have hD := hD1.weaken (fun _ _ _ z => hFc _ z)
      exact W.iret (v := r_17) hx hb hr (fun t ht hW => ⟨⟨r_17, u_18, rfl, h, by rw [ht]; exact hP, va_K.moved hW.alike hK, hD⟩, hS.F ht⟩) hS.2.2 dX6_opens_36
  · have h := h.2 c_5
    refine lv_aload_n hx hb dX6_opens_12 rfl (lv_at hl 0 rfl) ?_
    refine lv_iconst (v := (-1 : Int32)) hx hb dX6_opens_13 (by decide) ?_
    have hFc := fr_self hD hS hA
    refine gv_i (va_runV (As := [.int (-1 : Int32)]) (rest := []) ⟨hx, hb, hml, hown, hts⟩ (c_X6_refuse l D k a S_3 H.size (-1 : Int32) _ h) (cwV 1 hts gX6_opens_X6_refuse rfl rfl rfl (by decide +kernel) ⟨Nat.le_of_ble_eq_true rfl, Nat.le_of_ble_eq_true rfl⟩) (gv_preV hK hnw hP hD (ci := 6) rfl 0 rfl) rfl rfl hl.1 rfl (lv_room (Nat.le_of_ble_eq_true rfl)) dX6_opens_14 ⟨Nat.zero_le _, Nat.zero_le _⟩) hS hFc (fun r_19 u_20 H locs h hP1 hD1 hk1 hS => ?_)
    have hP := hP1
    have hD := hD1.weaken (fun _ _ _ z => hFc _ z)
    exact W.iret (v := r_19) hx hb hr (fun t ht hW => ⟨⟨r_19, u_20, rfl, h, by rw [ht]; exact hP, va_K.moved hW.alike hK, hD⟩, hS.F ht⟩) hS.2.2 dX6_opens_17
/-! X6_best -/
def wp_X6_best (S0 : CS) (Q : Int32 → CS → Prop) : Prop := wp_X3_pairThatOpensMost S0.2.2.2.2.1 S0.2.1 (fun r_1 u_2 u_3 => ∀ S_5, S_5 = (xf (xh S0 u_2) u_3) → (Q r_1 S_5))
abbrev rmX6_best : Room := { frames := 6, cells := 0, slots := 0, locals := 136 }
set_option maxRecDepth 100000 in
set_option maxHeartbeats 4000000 in
theorem c_X6_best (l : Launch) (D : va_G) (k : Nat → ClassId) (a : Nat → Nat) (S0 : CS) (sz : Nat) (Q : Int32 → CS → Prop) (h : wp_X6_best S0 Q) : Met l yX6_best wsX6_best rmX6_best (cPc D k (wMa k a S0) [.ref (a 0)] sz) (va_Qi (fun (r : Int32) (u : CS) => Q r u) (cB D k (va_A (wMa k a S0) sz) (fun u : CS => wMa k a u)) (va_A (wMa k a S0) sz)) 0 0 (va_A (wMa k a S0) sz) := by
  refine ct_entry (cc := cX6_best) (maxL := 1) (ret := (some .int)) (Rn := RX6) (Qc := fun A => (va_Qi (fun (r : Int32) (u : CS) => Q r u) (cB D k A (fun u : CS => wMa k a u)) A)) (by decide) rfl rfl (Nat.le_of_ble_eq_true rfl) ?_
  intro p e s m below meth c hx hb hr hlocks hml hts hown hnw hK A hA H locs hP hD hS ls hl
  have hl : lv_has ls 1 [(0, .ref (a 0))] := hl
  have ln_10 := hts (.fieldLink RX6 10 "WithTheSameOne" "floor" "LWithTheSameOne$Floor;") (by decide +kernel)
  have ln_29 := hts (.fieldLink RX6 29 "WithTheSameOne" "hopes" "LWithTheSameOne$Hopes;") (by decide +kernel)
  have in_Ma : ∀ w ∈ wsX60, w ∈ wsX6_best := fun _ h => List.mem_cons_of_mem _ (List.mem_append_left _ (List.mem_append_left _ (List.mem_append_left _ (List.mem_append_right _ h))))
  unfold wp_X6_best at h
  refine lv_aload_n hx hb dX6_best_0 rfl (lv_at hl 0 rfl) ?_
  refine va_get (D := D) (ci := 6) (v := .ref (a 19)) (C := RX6) (T := TX6) (N := 8) hx hb hts in_Ma hown hK hP 0 rfl rfl 3 (by decide) ln_29 (fun _ h9 => h9) rfl dX6_best_1 ?_
  refine lv_aload_n hx hb dX6_best_4 rfl (lv_at hl 0 rfl) ?_
  refine va_get (D := D) (ci := 6) (v := .ref (a 2)) (C := RX6) (T := TX6) (N := 8) hx hb hts in_Ma hown hK hP 0 rfl rfl 0 (by decide) ln_10 (fun _ h9 => h9) rfl dX6_best_5 ?_
  have hPc := fc23_P hP
  have hDc := fc23_D hD
  have hFc := fr_self hDc hS hA
  refine gv_i (va_runV (As := [.ref (a 2)]) (rest := []) ⟨hx, hb, hml, hown, hts⟩ (c_X3_pairThatOpensMost l D k (sh a 19) (sh a 2) S0.2.2.2.2.1 S0.2.1 H.size _ h) (cwV 1 hts gX6_best_X3_pairThatOpensMost rfl rfl rfl (by decide +kernel) ⟨Nat.le_of_ble_eq_true rfl, Nat.le_of_ble_eq_true rfl⟩) (gv_preV hK hnw hPc hDc (ci := 3) rfl 0 rfl) rfl rfl hl.1 rfl (lv_room (Nat.le_of_ble_eq_true rfl)) dX6_best_8 ⟨Nat.zero_le _, Nat.zero_le _⟩) hS hFc (fun r_1 w_4 H locs h hP1 hD1 hk1 hS => ?_)
  obtain ⟨u_2, u_3⟩ := w_4
  obtain ⟨hP, hD⟩ := fc23_J hP hD hk1 hFc hP1 hD1
  obtain ⟨S_5, e_6⟩ : ∃ z : CS, z = (xf (xh S0 u_2) u_3) := ⟨_, rfl⟩
  have h := h S_5 e_6
  have hP : va_P D vwCl (wMa k a S_5) H := by rw [e_6]; exact hP
  have hD : va_D A (wMa k a S_5) := by rw [e_6]; exact hD
  exact W.iret (v := r_1) hx hb hr (fun t ht hW => ⟨⟨r_1, S_5, rfl, h, by rw [ht]; exact hP, va_K.moved hW.alike hK, hD⟩, hS.F ht⟩) hS.2.2 dX6_best_11
/-! X6_fewest -/
def wp_X6_fewest (S0 : CS) (x1 : Int32) (Q : Int32 → CS → Prop) : Prop := (x1 = (0 : Int32) → (wp_X3_fewestAdded S0.2.2.2.2.1 S0.2.1 (fun r_2 u_3 u_4 => ∀ S_6, S_6 = (xf (xh S0 u_3) u_4) → (Q r_2 S_6)))) ∧ (¬ x1 = (0 : Int32) → ((x1 = (1 : Int32) → (wp_X3_firstAdded S0.2.2.2.2.1 S0.2.1 (fun r_9 u_10 u_11 => ∀ S_13, S_13 = (xf (xh S0 u_10) u_11) → (Q r_9 S_13)))) ∧ (¬ x1 = (1 : Int32) → (wp_X6_refuse S0 (-2 : Int32) (fun r_15 u_16 => Q r_15 u_16)))))
abbrev rmX6_fewest : Room := { frames := 10, cells := 0, slots := 0, locals := 246 }
set_option maxRecDepth 100000 in
set_option maxHeartbeats 4000000 in
theorem c_X6_fewest (l : Launch) (D : va_G) (k : Nat → ClassId) (a : Nat → Nat) (S0 : CS) (sz : Nat) (x1 : Int32) (Q : Int32 → CS → Prop) (h : wp_X6_fewest S0 x1 Q) : Met l yX6_fewest wsX6_fewest rmX6_fewest (cPc D k (wMa k a S0) [.ref (a 0), .int x1] sz) (va_Qi (fun (r : Int32) (u : CS) => Q r u) (cB D k (va_A (wMa k a S0) sz) (fun u : CS => wMa k a u)) (va_A (wMa k a S0) sz)) 0 0 (va_A (wMa k a S0) sz) := by
  refine ct_entry (cc := cX6_fewest) (maxL := 2) (ret := (some .int)) (Rn := RX6) (Qc := fun A => (va_Qi (fun (r : Int32) (u : CS) => Q r u) (cB D k A (fun u : CS => wMa k a u)) A)) (by decide) rfl rfl (Nat.le_of_ble_eq_true rfl) ?_
  intro p e s m below meth c hx hb hr hlocks hml hts hown hnw hK A hA H locs hP hD hS ls hl
  have hl : lv_has ls 2 [(0, .ref (a 0)), (1, .int x1)] := hl
  have ln_10 := hts (.fieldLink RX6 10 "WithTheSameOne" "floor" "LWithTheSameOne$Floor;") (by decide +kernel)
  have ln_29 := hts (.fieldLink RX6 29 "WithTheSameOne" "hopes" "LWithTheSameOne$Hopes;") (by decide +kernel)
  have in_Ma : ∀ w ∈ wsX60, w ∈ wsX6_fewest := fun _ h => List.mem_cons_of_mem _ (List.mem_append_left _ (List.mem_append_left _ (List.mem_append_left _ (List.mem_append_right _ h))))
  unfold wp_X6_fewest at h
  refine lv_iload_n hx hb dX6_fewest_0 rfl (lv_at hl 1 rfl) ?_
  by_cases c_1 : x1 = (0 : Int32)
  · have h := h.1 c_1
    refine lv_lookup (off := 27) (tgt := 28) hx hb dX6_fewest_1 (by decide) (by rw [c_1]; rfl) (by decide) ?_
    refine lv_aload_n hx hb dX6_fewest_28 rfl (lv_at hl 0 rfl) ?_
    refine va_get (D := D) (ci := 6) (v := .ref (a 19)) (C := RX6) (T := TX6) (N := 8) hx hb hts in_Ma hown hK hP 0 rfl rfl 3 (by decide) ln_29 (fun _ h9 => h9) rfl dX6_fewest_29 ?_
    refine lv_aload_n hx hb dX6_fewest_32 rfl (lv_at hl 0 rfl) ?_
    refine va_get (D := D) (ci := 6) (v := .ref (a 2)) (C := RX6) (T := TX6) (N := 8) hx hb hts in_Ma hown hK hP 0 rfl rfl 0 (by decide) ln_10 (fun _ h9 => h9) rfl dX6_fewest_33 ?_
    have hPc := fc23_P hP
    have hDc := fc23_D hD
    have hFc := fr_self hDc hS hA
    refine gv_i (va_runV (As := [.ref (a 2)]) (rest := []) ⟨hx, hb, hml, hown, hts⟩ (c_X3_fewestAdded l D k (sh a 19) (sh a 2) S0.2.2.2.2.1 S0.2.1 H.size _ h) (cwV 1 hts gX6_fewest_X3_fewestAdded rfl rfl rfl (by decide +kernel) ⟨Nat.le_of_ble_eq_true rfl, Nat.le_of_ble_eq_true rfl⟩) (gv_preV hK hnw hPc hDc (ci := 3) rfl 0 rfl) rfl rfl hl.1 rfl (lv_room (Nat.le_of_ble_eq_true rfl)) dX6_fewest_36 ⟨Nat.zero_le _, Nat.zero_le _⟩) hS hFc (fun r_2 w_5 H locs h hP1 hD1 hk1 hS => ?_)
    obtain ⟨u_3, u_4⟩ := w_5
    obtain ⟨hP, hD⟩ := fc23_J hP hD hk1 hFc hP1 hD1
    obtain ⟨S_6, e_7⟩ : ∃ z : CS, z = (xf (xh S0 u_3) u_4) := ⟨_, rfl⟩
    have h := h S_6 e_7
    have hP : va_P D vwCl (wMa k a S_6) H := by rw [e_7]; exact hP
    have hD : va_D A (wMa k a S_6) := by rw [e_7]; exact hD
    exact W.iret (v := r_2) hx hb hr (fun t ht hW => ⟨⟨r_2, S_6, rfl, h, by rw [ht]; exact hP, va_K.moved hW.alike hK, hD⟩, hS.F ht⟩) hS.2.2 dX6_fewest_39
  · have h := h.2 c_1
    by_cases c_8 : x1 = (1 : Int32)
    · have h := h.1 c_8
      refine lv_lookup (off := 39) (tgt := 40) hx hb dX6_fewest_1 (by decide) (by rw [c_8]; rfl) (by decide) ?_
      refine lv_aload_n hx hb dX6_fewest_40 rfl (lv_at hl 0 rfl) ?_
      refine va_get (D := D) (ci := 6) (v := .ref (a 19)) (C := RX6) (T := TX6) (N := 8) hx hb hts in_Ma hown hK hP 0 rfl rfl 3 (by decide) ln_29 (fun _ h9 => h9) rfl dX6_fewest_41 ?_
      refine lv_aload_n hx hb dX6_fewest_44 rfl (lv_at hl 0 rfl) ?_
      refine va_get (D := D) (ci := 6) (v := .ref (a 2)) (C := RX6) (T := TX6) (N := 8) hx hb hts in_Ma hown hK hP 0 rfl rfl 0 (by decide) ln_10 (fun _ h9 => h9) rfl dX6_fewest_45 ?_
      have hPc := fc23_P hP
      have hDc := fc23_D hD
      have hFc := fr_self hDc hS hA
      refine gv_i (va_runV (As := [.ref (a 2)]) (rest := []) ⟨hx, hb, hml, hown, hts⟩ (c_X3_firstAdded l D k (sh a 19) (sh a 2) S0.2.2.2.2.1 S0.2.1 H.size _ h) (cwV 1 hts gX6_fewest_X3_firstAdded rfl rfl rfl (by decide +kernel) ⟨Nat.le_of_ble_eq_true rfl, Nat.le_of_ble_eq_true rfl⟩) (gv_preV hK hnw hPc hDc (ci := 3) rfl 0 rfl) rfl rfl hl.1 rfl (lv_room (Nat.le_of_ble_eq_true rfl)) dX6_fewest_48 ⟨Nat.zero_le _, Nat.zero_le _⟩) hS hFc (fun r_9 w_12 H locs h hP1 hD1 hk1 hS => ?_)
      obtain ⟨u_10, u_11⟩ := w_12
      obtain ⟨hP, hD⟩ := fc23_J hP hD hk1 hFc hP1 hD1
      obtain ⟨S_13, e_14⟩ : ∃ z : CS, z = (xf (xh S0 u_10) u_11) := ⟨_, rfl⟩
      have h := h S_13 e_14
      have hP : va_P D vwCl (wMa k a S_13) H := by rw [e_14]; exact hP
      have hD : va_D A (wMa k a S_13) := by rw [e_14]; exact hD
      exact W.iret (v := r_9) hx hb hr (fun t ht hW => ⟨⟨r_9, S_13, rfl, h, by rw [ht]; exact hP, va_K.moved hW.alike hK, hD⟩, hS.F ht⟩) hS.2.2 dX6_fewest_51
    · have h := h.2 c_8
      refine lv_lookup (off := 51) (tgt := 52) hx hb dX6_fewest_1 (by decide) (by show Op.lookupswitch.offset [(0, 27), (1, 39)] 51 x1.toInt = 51; rw [lv_osw c_1 (k := (0 : Int32)) (by decide), lv_osw c_8 (k := (1 : Int32)) (by decide)]; rfl) (by decide) ?_
      refine lv_aload_n hx hb dX6_fewest_52 rfl (lv_at hl 0 rfl) ?_
      refine lv_bipush (v := (-2 : Int32)) hx hb dX6_fewest_53 (by decide) ?_
      have hFc := fr_self hD hS hA
      refine gv_i (va_runV (As := [.int (-2 : Int32)]) (rest := []) ⟨hx, hb, hml, hown, hts⟩ (c_X6_refuse l D k a S0 H.size (-2 : Int32) _ h) (cwV 1 hts gX6_fewest_X6_refuse rfl rfl rfl (by decide +kernel) ⟨Nat.le_of_ble_eq_true rfl, Nat.le_of_ble_eq_true rfl⟩) (gv_preV hK hnw hP hD (ci := 6) rfl 0 rfl) rfl rfl hl.1 rfl (lv_room (Nat.le_of_ble_eq_true rfl)) dX6_fewest_55 ⟨Nat.zero_le _, Nat.zero_le _⟩) hS hFc (fun r_15 u_16 H locs h hP1 hD1 hk1 hS => ?_)
      have hP := hP1
      have hD := hD1.weaken (fun _ _ _ z => hFc _ z)
      exact W.iret (v := r_15) hx hb hr (fun t ht hW => ⟨⟨r_15, u_16, rfl, h, by rw [ht]; exact hP, va_K.moved hW.alike hK, hD⟩, hS.F ht⟩) hS.2.2 dX6_fewest_58
