/-! X1_leastLoadFrom -/
def wp_X1_leastLoadFrom_106 (R : (St × (Nat → St)) → Int32 → Int32 → Int32 → (Int32 → (St × (Nat → St)) → Prop) → Prop) (x1 : Int32) (x2 : Int32) (x3 : Int32) (Q : Int32 → (St × (Nat → St)) → Prop) : Nat → (St × (Nat → St)) → Int32 → Int32 → Int32 → Int32 → Int32 → Prop
  | 0, _, _, _, _, _, _ => False
  | n + 1, S0, x6, x7, x8, x10, x11 => (((9 : Int32) < x11) → (Q x10 S0)) ∧ ((¬ (9 : Int32) < x11) → (wp_X6_hasBit x8 x11 (fun r_21 => ((r_21 = 0) → (wp_X1_leastLoadFrom_106 R x1 x2 x3 Q n S0 x6 x7 x8 x10 (x11 + 1))) ∧ ((¬ r_21 = 0) → (((x1 + (1 : Int32)).toNatClampNeg ≠ x1.toNatClampNeg) ∧ (wp_X2_copyFrom (S0.2 ((x1 + (1 : Int32)).toNatClampNeg)) (S0.2 x1.toNatClampNeg) (fun u_24 u_25 => ∀ S_28, S_28 = ((S0.1, va_up S0.2 ((x1 + (1 : Int32)).toNatClampNeg) u_24).1, va_up (S0.1, va_up S0.2 ((x1 + (1 : Int32)).toNatClampNeg) u_24).2 x1.toNatClampNeg u_25) → (wp_X2_step (S_28.2 ((x1 + (1 : Int32)).toNatClampNeg)) x6 x7 x11 (fun u_31 => ∀ S_32, S_32 = (S_28.1, va_up S_28.2 ((x1 + (1 : Int32)).toNatClampNeg) u_31) → (wp_X1_broughtTonight S_32 ((x1 + (1 : Int32)).toNatClampNeg) x11 (fun r_34 u_35 => ((x10 ≤ (if x2 < r_34 then r_34 else x2)) → (wp_X1_leastLoadFrom_106 R x1 x2 x3 Q n u_35 x6 x7 x8 x10 (x11 + 1))) ∧ ((¬ x10 ≤ (if x2 < r_34 then r_34 else x2)) → (R u_35 (x1 + (1 : Int32)) (if x2 < r_34 then r_34 else x2) x10 (fun r_37 u_38 => wp_X1_leastLoadFrom_106 R x1 x2 x3 Q n u_38 x6 x7 x8 r_37 (x11 + 1)))))))))))))))
def wp_X1_leastLoadFrom_b (R : (St × (Nat → St)) → Int32 → Int32 → Int32 → (Int32 → (St × (Nat → St)) → Prop) → Prop) (S0 : St × (Nat → St)) (x1 : Int32) (x2 : Int32) (x3 : Int32) (Q : Int32 → (St × (Nat → St)) → Prop) : Prop := (((S0.1.1 0) ≤ x1) → (Q x2 S0)) ∧ ((¬ (S0.1.1 0) ≤ x1) → (((x1 < (6 : Int32)) → (vp_in x1 7 ∧ (vp_in (x1 + (1 : Int32)) 7 ∧ (vp_in x1 6 ∧ (∀ z_5 : Int32, z_5 = ((S0.1.2 1 x1.toNatClampNeg) / (10 : Int32)) → (vp_in x1 6 ∧ (∀ z_7 : Int32, z_7 = ((S0.1.2 1 x1.toNatClampNeg) - (S0.1.2 1 x1.toNatClampNeg) / (10 : Int32) * (10 : Int32)) → (wp_X2_areTwo (S0.2 x1.toNatClampNeg) z_5 z_7 (fun r_9 u_10 => ∀ S_11, S_11 = (S0.1, va_up S0.2 x1.toNatClampNeg u_10) → (((¬ r_9 = 0) → (wp_X2_waysToDance (S_11.2 x1.toNatClampNeg) z_5 z_7 (fun r_14 u_15 => ∀ S_16, S_16 = (S_11.1, va_up S_11.2 x1.toNatClampNeg u_15) → (wp_X6_hasBit r_14 (9 : Int32) (fun r_18 => ((r_18 = 0) → (∃ i, wp_X1_leastLoadFrom_106 R x1 x2 x3 Q i S_16 z_5 z_7 r_14 x3 (0 : Int32))) ∧ ((¬ r_18 = 0) → (∃ i, wp_X1_leastLoadFrom_106 R x1 x2 x3 Q i S_16 z_5 z_7 r_14 x3 (9 : Int32)))))))) ∧ ((r_9 = 0) → (Q x3 S_11)))))))))))) ∧ ((¬ x1 < (6 : Int32)) → (Q x2 S0))))
def wp_X1_leastLoadFrom : Nat → (St × (Nat → St)) → Int32 → Int32 → Int32 → (Int32 → (St × (Nat → St)) → Prop) → Prop
  | 0, _, _, _, _, _ => False
  | d + 1, S0, x1, x2, x3, Q => wp_X1_leastLoadFrom_b (wp_X1_leastLoadFrom d) S0 x1 x2 x3 Q
abbrev rmX1_leastLoadFrom (d : Nat) : Room := { frames := 4 + (1 * d), cells := 0, slots := 0, locals := 96 + (32 * d) }
set_option maxRecDepth 100000 in
set_option maxHeartbeats 4000000 in
theorem c_X1_leastLoadFrom_b (l : Launch) (D : va_G) (k : Nat → ClassId) (d : Nat) (R : (St × (Nat → St)) → Int32 → Int32 → Int32 → (Int32 → (St × (Nat → St)) → Prop) → Prop) (hR : ∀ (a : Nat → Nat) (S0 : St × (Nat → St)) (sz : Nat) (x1 : Int32) (x2 : Int32) (x3 : Int32) (Q : Int32 → (St × (Nat → St)) → Prop), R S0 x1 x2 x3 Q → Met l yX1_leastLoadFrom wsX1_leastLoadFrom (rmX1_leastLoadFrom d) (cPc D k (wEv k a S0) [.ref (a 0), .int x1, .int x2, .int x3] sz) (va_Qi (fun (r : Int32) (u : (St × (Nat → St))) => Q r u) (cB D k (va_A (wEv k a S0) sz) (fun u : (St × (Nat → St)) => wEv k a u)) (va_A (wEv k a S0) sz)) 0 0 (va_A (wEv k a S0) sz)) (a : Nat → Nat) (S0 : St × (Nat → St)) (sz : Nat) (x1 : Int32) (x2 : Int32) (x3 : Int32) (Q : Int32 → (St × (Nat → St)) → Prop) (h : wp_X1_leastLoadFrom_b R S0 x1 x2 x3 Q) : Met l yX1_leastLoadFrom wsX1_leastLoadFrom (rmX1_leastLoadFrom (d + 1)) (cPc D k (wEv k a S0) [.ref (a 0), .int x1, .int x2, .int x3] sz) (va_Qi (fun (r : Int32) (u : (St × (Nat → St))) => Q r u) (cB D k (va_A (wEv k a S0) sz) (fun u : (St × (Nat → St)) => wEv k a u)) (va_A (wEv k a S0) sz)) 0 0 (va_A (wEv k a S0) sz) := by
  refine ct_entry (cc := cX1_leastLoadFrom) (maxL := 13) (ret := (some .int)) (Rn := RX1) (Qc := fun A => (va_Qi (fun (r : Int32) (u : (St × (Nat → St))) => Q r u) (cB D k A (fun u : (St × (Nat → St)) => wEv k a u)) A)) (by decide) rfl rfl (Nat.le_of_ble_eq_true rfl) ?_
  intro p e s m below meth c hx hb hr hlocks hml hts hown hnw hK A hA H locs hP hD hS ls hl
  have hl : lv_has ls 13 [(0, .ref (a 0)), (1, .int x1), (2, .int x2), (3, .int x3)] := hl
  have lm_56 := hts (.methodLink RX1 56 Lib.Math.max.name) (by decide +kernel)
  have ln_15 := hts (.fieldLink RX1 15 "WithTheSameOne$Evening" "pairs" "[I") (by decide +kernel)
  have ln_21 := hts (.fieldLink RX1 21 "WithTheSameOne$Evening" "minds" "[LWithTheSameOne$Floor;") (by decide +kernel)
  have ln_9 := hts (.fieldLink RX1 9 "WithTheSameOne$Evening" "size" "I") (by decide +kernel)
  have mc_max := hts (.code Lib.Math.max.name Lib.Math.max.code 2 (some .int)) (by decide +kernel)
  have mi_max := hts (.initialized "java/lang/Math") (by decide +kernel)
  have ms_max := hts (.static Lib.Math.max.name) (by decide +kernel)
  have ni_X6 := hts (.initialized RX6) (by decide +kernel)
  have ns_yX6_hasBit := hts (.static yX6_hasBit) (by decide +kernel)
  have in_Ev : ∀ w ∈ wsX10, w ∈ wsX1_leastLoadFrom := fun _ h => List.mem_cons_of_mem _ (List.mem_append_left _ (List.mem_append_right _ h))
  have L_106 : ∀ (n : Nat), ∀ (S0 : St × (Nat → St)) (x6 : Int32) (x7 : Int32) (x8 : Int32) (x10 : Int32) (x11 : Int32), vp_in (x1 + (1 : Int32)) 7 → vp_in x1 7 → ∀ (H : Heap) (locs : List Loc) (ls : Array Slot), va_P D vwCl (wEv k a S0) H → va_D A (wEv k a S0) → va_S A s.heap H locs → lv_has ls 13 [(0, .ref (a 0)), (1, .int x1), (2, .int x2), (4, .ref (a (3 + 5 * x1.toNatClampNeg))), (5, .ref (a (3 + 5 * ((x1 + (1 : Int32)).toNatClampNeg)))), (6, .int x6), (7, .int x7), (8, .int x8), (10, .int x10), (11, .int x11)] → wp_X1_leastLoadFrom_106 R x1 x2 x3 Q n S0 x6 x7 x8 x10 x11 → W p l e (rmX1_leastLoadFrom (d + 1)) s m ([.ref (a 0), .int x1, .int x2, .int x3] : List Value).toArray below meth c H locs 0 0 (MQ below (va_Qi (fun (r : Int32) (u : (St × (Nat → St))) => Q r u) (cB D k A (fun u : (St × (Nat → St)) => wEv k a u)) A) ([.ref (a 0), .int x1, .int x2, .int x3] : List Value).toArray s 0 0 A) (F0 m 106 ls []) := by
    intro n
    induction n with
    | zero => intro S0 x6 x7 x8 x10 x11 hv_0 hv_1 H locs ls hP hD hS hl h; exact absurd h (by unfold wp_X1_leastLoadFrom_106; exact id)
    | succ n ih =>
      intro S0 x6 x7 x8 x10 x11 hv_0 hv_1 H locs ls hP hD hS hl h
      unfold wp_X1_leastLoadFrom_106 at h
      refine lv_iload hx hb dX1_leastLoadFrom_106 (lv_at hl 9 rfl) ?_
      refine lv_bipush (v := (9 : Int32)) hx hb dX1_leastLoadFrom_108 (by decide) ?_
      refine lv_icmp_gt (tgt := 181) hx hb dX1_leastLoadFrom_110 (by decide) (fun c_20 => ?_) (fun c_20 => ?_)
      · have h := h.1 c_20
        refine lv_iload hx hb dX1_leastLoadFrom_181 (lv_at hl 8 rfl) ?_
        exact W.iret (v := x10) hx hb hr (fun t ht hW => ⟨⟨x10, S0, rfl, h, by rw [ht]; exact hP, va_K.moved hW.alike hK, hD⟩, hS.F ht⟩) hS.2.2 dX1_leastLoadFrom_183
      · have h := h.2 c_20
        refine lv_iload hx hb dX1_leastLoadFrom_113 (lv_at hl 7 rfl) ?_
        refine lv_iload hx hb dX1_leastLoadFrom_115 (lv_at hl 9 rfl) ?_
        refine gs_i (va_runSN (As := [.int x8, .int x11]) (rest := []) ⟨hx, hb, hml, hown, hts⟩ (c_X6_hasBit l x8 x11 _ h) ⟨va_cnB 2 hts gX1_leastLoadFrom_X6_hasBit_n45 rfl rfl rfl (hnw.1 _ (List.mem_of_getElem? (i := 3) rfl)) ni_X6 (by decide +kernel) ⟨Nat.le_add_right_of_le (Nat.le_of_ble_eq_true rfl), Nat.le_add_right_of_le (Nat.le_of_ble_eq_true rfl)⟩, ns_yX6_hasBit, trivial⟩ preEq rfl rfl hl.1 rfl (lv_room (Nat.le_of_ble_eq_true rfl)) dX1_leastLoadFrom_117 ⟨Nat.zero_le _, Nat.zero_le _⟩) (fun r_21 h => ?_)
        refine lv_if_eq (tgt := 175) hx hb dX1_leastLoadFrom_120 (by decide) (fun c_22 => ?_) (fun c_22 => ?_)
        · have h := h.1 c_22
          refine lv_iinc (v := (x11 + 1)) (lv' := [(11, .int (x11 + 1)), (0, .ref (a 0)), (1, .int x1), (2, .int x2), (4, .ref (a (3 + 5 * x1.toNatClampNeg))), (5, .ref (a (3 + 5 * ((x1 + (1 : Int32)).toNatClampNeg)))), (6, .int x6), (7, .int x7), (8, .int x8), (10, .int x10)]) hx hb dX1_leastLoadFrom_175 hl (k := 9) rfl rfl (by decide) rfl (fun ls hl => ?_)
          refine lv_goto (tgt := 106) hx hb dX1_leastLoadFrom_178 (by decide) ?_
          exact ih S0 x6 x7 x8 x10 (x11 + 1) hv_0 hv_1 H locs ls hP hD hS (lv_sub hl [1, 2, 3, 4, 5, 6, 7, 8, 9, 0] rfl) h
        · have h := h.2 c_22
          refine lv_aload hx hb dX1_leastLoadFrom_123 (lv_at hl 4 rfl) ?_
          refine lv_aload hx hb dX1_leastLoadFrom_125 (lv_at hl 3 rfl) ?_
          have ne_26 := h.1
          have h := h.2
          have hPc := fc4_P (vp_lt hv_0) (vp_lt hv_1) ne_26 hP
          have hDc := fc4_D (vp_lt hv_0) (vp_lt hv_1) ne_26 hD
          have hFc := fr_self hDc hS hA
          refine gv_v (va_runV (As := [.ref (a (3 + 5 * x1.toNatClampNeg))]) (rest := []) ⟨hx, hb, hml, hown, hts⟩ (c_X2_copyFrom l D k (sh a (3 + 5 * ((x1 + (1 : Int32)).toNatClampNeg))) (sh a (3 + 5 * x1.toNatClampNeg)) (S0.2 ((x1 + (1 : Int32)).toNatClampNeg)) (S0.2 x1.toNatClampNeg) H.size _ h) (cwV 1 hts gX1_leastLoadFrom_X2_copyFrom rfl rfl rfl (by decide +kernel) ⟨Nat.le_add_right_of_le (Nat.le_of_ble_eq_true rfl), Nat.le_add_right_of_le (Nat.le_of_ble_eq_true rfl)⟩) (gv_preV hK hnw hPc hDc (ci := 2) rfl 0 rfl) rfl rfl hl.1 rfl (lv_room (Nat.le_of_ble_eq_true rfl)) dX1_leastLoadFrom_127 ⟨Nat.zero_le _, Nat.zero_le _⟩) hS hFc (fun w_27 H locs h hP1 hD1 hk1 hS => ?_)
          obtain ⟨u_24, u_25⟩ := w_27
          obtain ⟨hP, hD⟩ := fc4_J (vp_lt hv_0) (vp_lt hv_1) ne_26 hP hD hk1 hFc hP1 hD1
          obtain ⟨S_28, e_29⟩ : ∃ z : St × (Nat → St), z = ((S0.1, va_up S0.2 ((x1 + (1 : Int32)).toNatClampNeg) u_24).1, va_up (S0.1, va_up S0.2 ((x1 + (1 : Int32)).toNatClampNeg) u_24).2 x1.toNatClampNeg u_25) := ⟨_, rfl⟩
          have h := h S_28 e_29
          have hP : va_P D vwCl (wEv k a S_28) H := by rw [e_29]; exact hP
          have hD : va_D A (wEv k a S_28) := by rw [e_29]; exact hD
          refine lv_aload hx hb dX1_leastLoadFrom_130 (lv_at hl 4 rfl) ?_
          refine lv_iload hx hb dX1_leastLoadFrom_132 (lv_at hl 5 rfl) ?_
          refine lv_iload hx hb dX1_leastLoadFrom_134 (lv_at hl 6 rfl) ?_
          refine lv_iload hx hb dX1_leastLoadFrom_136 (lv_at hl 9 rfl) ?_
          have hPc := fc3_P (vp_lt hv_0) hP
          have hDc := fc3_D (vp_lt hv_0) hD
          have hFc := fr_self hDc hS hA
          refine gv_v (va_runV (As := [.int x6, .int x7, .int x11]) (rest := []) ⟨hx, hb, hml, hown, hts⟩ (c_X2_step l D k (sh a (3 + 5 * ((x1 + (1 : Int32)).toNatClampNeg))) (S_28.2 ((x1 + (1 : Int32)).toNatClampNeg)) H.size x6 x7 x11 _ h) (cwV 3 hts gX1_leastLoadFrom_X2_step rfl rfl rfl (by decide +kernel) ⟨Nat.le_add_right_of_le (Nat.le_of_ble_eq_true rfl), Nat.le_add_right_of_le (Nat.le_of_ble_eq_true rfl)⟩) (gv_preV hK hnw hPc hDc (ci := 2) rfl 0 rfl) rfl rfl hl.1 rfl (lv_room (Nat.le_of_ble_eq_true rfl)) dX1_leastLoadFrom_138 ⟨Nat.zero_le _, Nat.zero_le _⟩) hS hFc (fun u_31 H locs h hP1 hD1 hk1 hS => ?_)
          obtain ⟨hP, hD⟩ := fc3_J (vp_lt hv_0) hP hD hk1 hFc hP1 hD1
          obtain ⟨S_32, e_33⟩ : ∃ z : St × (Nat → St), z = (S_28.1, va_up S_28.2 ((x1 + (1 : Int32)).toNatClampNeg) u_31) := ⟨_, rfl⟩
          have h := h S_32 e_33
          have hP : va_P D vwCl (wEv k a S_32) H := by rw [e_33]; exact hP
          have hD : va_D A (wEv k a S_32) := by rw [e_33]; exact hD
          refine lv_iload_n hx hb dX1_leastLoadFrom_141 rfl (lv_at hl 2 rfl) ?_
          refine lv_aload_n hx hb dX1_leastLoadFrom_142 rfl (lv_at hl 0 rfl) ?_
          refine lv_aload hx hb dX1_leastLoadFrom_143 (lv_at hl 4 rfl) ?_
          refine lv_iload hx hb dX1_leastLoadFrom_145 (lv_at hl 9 rfl) ?_
          have hFc := fr_self hD hS hA
          refine gv_i (va_runV (As := [.ref (a (3 + 5 * ((x1 + (1 : Int32)).toNatClampNeg))), .int x11]) (rest := [.int x2]) ⟨hx, hb, hml, hown, hts⟩ (c_X1_broughtTonight l D k a S_32 H.size ((x1 + (1 : Int32)).toNatClampNeg) (vp_lt hv_0) x11 _ h) (cwV 2 hts gX1_leastLoadFrom_X1_broughtTonight rfl rfl rfl (by decide +kernel) ⟨Nat.le_add_right_of_le (Nat.le_of_ble_eq_true rfl), Nat.le_add_right_of_le (Nat.le_of_ble_eq_true rfl)⟩) (gv_preV hK hnw hP hD (ci := 1) rfl 0 rfl) rfl rfl hl.1 rfl (lv_room (Nat.le_of_ble_eq_true rfl)) dX1_leastLoadFrom_147 ⟨Nat.zero_le _, Nat.zero_le _⟩) hS hFc (fun r_34 u_35 H locs h hP1 hD1 hk1 hS => ?_)
          have hP := hP1
          have hD := hD1.weaken (fun _ _ _ z => hFc _ z)
          refine va_mmax hx hb (hml.trans hl.1.symm) hown lm_56 ms_max mi_max mc_max (Nat.le_add_right_of_le (Nat.le_of_ble_eq_true rfl)) (Nat.le_add_right_of_le (Nat.le_of_ble_eq_true rfl)) (Nat.zero_le _) (Nat.zero_le _) dX1_leastLoadFrom_150 ?_
          refine lv_istore (lv' := [(12, .int (if x2 < r_34 then r_34 else x2)), (0, .ref (a 0)), (1, .int x1), (2, .int x2), (4, .ref (a (3 + 5 * x1.toNatClampNeg))), (5, .ref (a (3 + 5 * ((x1 + (1 : Int32)).toNatClampNeg)))), (6, .int x6), (7, .int x7), (8, .int x8), (10, .int x10), (11, .int x11)]) hx hb dX1_leastLoadFrom_153 hl (by decide) rfl (fun ls hl => ?_)
          refine lv_iload hx hb dX1_leastLoadFrom_155 (lv_at hl 0 rfl) ?_
          refine lv_iload hx hb dX1_leastLoadFrom_157 (lv_at hl 9 rfl) ?_
          refine lv_icmp_ge (tgt := 175) hx hb dX1_leastLoadFrom_159 (by decide) (fun c_36 => ?_) (fun c_36 => ?_)
          · have h := h.1 c_36
            refine lv_iinc (v := (x11 + 1)) (lv' := [(11, .int (x11 + 1)), (12, .int (if x2 < r_34 then r_34 else x2)), (0, .ref (a 0)), (1, .int x1), (2, .int x2), (4, .ref (a (3 + 5 * x1.toNatClampNeg))), (5, .ref (a (3 + 5 * ((x1 + (1 : Int32)).toNatClampNeg)))), (6, .int x6), (7, .int x7), (8, .int x8), (10, .int x10)]) hx hb dX1_leastLoadFrom_175 hl (k := 10) rfl rfl (by decide) rfl (fun ls hl => ?_)
            refine lv_goto (tgt := 106) hx hb dX1_leastLoadFrom_178 (by decide) ?_
            exact ih u_35 x6 x7 x8 x10 (x11 + 1) hv_0 hv_1 H locs ls hP hD hS (lv_sub hl [2, 3, 4, 5, 6, 7, 8, 9, 10, 0] rfl) h
          · have h := h.2 c_36
            refine lv_aload_n hx hb dX1_leastLoadFrom_162 rfl (lv_at hl 1 rfl) ?_
            refine lv_iload_n hx hb dX1_leastLoadFrom_163 rfl (lv_at hl 2 rfl) ?_
            refine lv_iconst (v := (1 : Int32)) hx hb dX1_leastLoadFrom_164 (by decide) ?_
            refine lv_iadd hx hb dX1_leastLoadFrom_165 ?_
            refine lv_iload hx hb dX1_leastLoadFrom_166 (lv_at hl 0 rfl) ?_
            refine lv_iload hx hb dX1_leastLoadFrom_168 (lv_at hl 9 rfl) ?_
            have hFc := fr_self hD hS hA
            refine gv_i (va_runV (As := [.int (x1 + (1 : Int32)), .int (if x2 < r_34 then r_34 else x2), .int x10]) (rest := []) ⟨hx, hb, hml, hown, hts⟩ (hR a u_35 H.size (x1 + (1 : Int32)) (if x2 < r_34 then r_34 else x2) x10 _ h) (cwV 3 hts gX1_leastLoadFrom_X1_leastLoadFrom rfl rfl rfl (by decide +kernel) ⟨by show 4 + (1 * d) + 1 ≤ 4 + (1 * (d + 1)); omega, by show 8 + (13 + 11) + (96 + (32 * d)) ≤ 96 + (32 * (d + 1)); omega⟩) (gv_preV hK hnw hP hD (ci := 1) rfl 0 rfl) rfl rfl hl.1 rfl (lv_room (Nat.le_of_ble_eq_true rfl)) dX1_leastLoadFrom_170 ⟨Nat.zero_le _, Nat.zero_le _⟩) hS hFc (fun r_37 u_38 H locs h hP1 hD1 hk1 hS => ?_)
            have hP := hP1
            have hD := hD1.weaken (fun _ _ _ z => hFc _ z)
            refine lv_istore (lv' := [(10, .int r_37), (12, .int (if x2 < r_34 then r_34 else x2)), (0, .ref (a 0)), (1, .int x1), (2, .int x2), (4, .ref (a (3 + 5 * x1.toNatClampNeg))), (5, .ref (a (3 + 5 * ((x1 + (1 : Int32)).toNatClampNeg)))), (6, .int x6), (7, .int x7), (8, .int x8), (11, .int x11)]) hx hb dX1_leastLoadFrom_173 hl (by decide) rfl (fun ls hl => ?_)
            refine lv_iinc (v := (x11 + 1)) (lv' := [(11, .int (x11 + 1)), (10, .int r_37), (12, .int (if x2 < r_34 then r_34 else x2)), (0, .ref (a 0)), (1, .int x1), (2, .int x2), (4, .ref (a (3 + 5 * x1.toNatClampNeg))), (5, .ref (a (3 + 5 * ((x1 + (1 : Int32)).toNatClampNeg)))), (6, .int x6), (7, .int x7), (8, .int x8)]) hx hb dX1_leastLoadFrom_175 hl (k := 10) rfl rfl (by decide) rfl (fun ls hl => ?_)
            refine lv_goto (tgt := 106) hx hb dX1_leastLoadFrom_178 (by decide) ?_
            exact ih u_38 x6 x7 x8 r_37 (x11 + 1) hv_0 hv_1 H locs ls hP hD hS (lv_sub hl [3, 4, 5, 6, 7, 8, 9, 10, 1, 0] rfl) h
  unfold wp_X1_leastLoadFrom_b at h
  refine lv_iload_n hx hb dX1_leastLoadFrom_0 rfl (lv_at hl 1 rfl) ?_
  refine lv_aload_n hx hb dX1_leastLoadFrom_1 rfl (lv_at hl 0 rfl) ?_
  refine va_get (D := D) (ci := 1) (v := .int (S0.1.1 0)) (C := RX1) (T := TX1) (N := 3) hx hb hts in_Ev hown hK hP 0 rfl rfl 0 (by decide) ln_9 (fun _ h9 => h9) rfl dX1_leastLoadFrom_2 ?_
  refine lv_icmp_ge (tgt := 14) hx hb dX1_leastLoadFrom_5 (by decide) (fun c_1 => ?_) (fun c_1 => ?_)
  · have h := h.1 c_1
    refine lv_iload_n hx hb dX1_leastLoadFrom_14 rfl (lv_at hl 2 rfl) ?_
    exact W.iret (v := x2) hx hb hr (fun t ht hW => ⟨⟨x2, S0, rfl, h, by rw [ht]; exact hP, va_K.moved hW.alike hK, hD⟩, hS.F ht⟩) hS.2.2 dX1_leastLoadFrom_15
  · have h := h.2 c_1
    refine lv_iload_n hx hb dX1_leastLoadFrom_8 rfl (lv_at hl 1 rfl) ?_
    refine lv_bipush (v := (6 : Int32)) hx hb dX1_leastLoadFrom_9 (by decide) ?_
    refine lv_icmp_lt (tgt := 16) hx hb dX1_leastLoadFrom_11 (by decide) (fun c_2 => ?_) (fun c_2 => ?_)
    · have h := h.1 c_2
      refine lv_aload_n hx hb dX1_leastLoadFrom_16 rfl (lv_at hl 0 rfl) ?_
      refine va_get (D := D) (ci := 1) (v := .ref (a 2)) (C := RX1) (T := TX1) (N := 3) hx hb hts in_Ev hown hK hP 0 rfl rfl 2 (by decide) ln_21 (fun _ h9 => h9) rfl dX1_leastLoadFrom_17 ?_
      refine lv_iload_n hx hb dX1_leastLoadFrom_20 rfl (lv_at hl 1 rfl) ?_
      refine va_aldq (C := RX2) hx hb hK hP 2 1 rfl rfl h.1 dX1_leastLoadFrom_21 ?_
      have hv_3 := h.1
      have h := h.2
      refine W.eq (g2 := F0 m 22 ls [.ref (a (3 + 5 * x1.toNatClampNeg))]) rfl ?_
      refine lv_astore (lv' := [(4, .ref (a (3 + 5 * x1.toNatClampNeg))), (0, .ref (a 0)), (1, .int x1), (2, .int x2), (3, .int x3)]) hx hb dX1_leastLoadFrom_22 hl (by decide) rfl (fun ls hl => ?_)
      refine lv_aload_n hx hb dX1_leastLoadFrom_24 rfl (lv_at hl 1 rfl) ?_
      refine va_get (D := D) (ci := 1) (v := .ref (a 2)) (C := RX1) (T := TX1) (N := 3) hx hb hts in_Ev hown hK hP 0 rfl rfl 2 (by decide) ln_21 (fun _ h9 => h9) rfl dX1_leastLoadFrom_25 ?_
      refine lv_iload_n hx hb dX1_leastLoadFrom_28 rfl (lv_at hl 2 rfl) ?_
      refine lv_iconst (v := (1 : Int32)) hx hb dX1_leastLoadFrom_29 (by decide) ?_
      refine lv_iadd hx hb dX1_leastLoadFrom_30 ?_
      refine va_aldq (C := RX2) hx hb hK hP 2 1 rfl rfl h.1 dX1_leastLoadFrom_31 ?_
      have hv_4 := h.1
      have h := h.2
      refine W.eq (g2 := F0 m 32 ls [.ref (a (3 + 5 * ((x1 + (1 : Int32)).toNatClampNeg)))]) rfl ?_
      refine lv_astore (lv' := [(5, .ref (a (3 + 5 * ((x1 + (1 : Int32)).toNatClampNeg)))), (4, .ref (a (3 + 5 * x1.toNatClampNeg))), (0, .ref (a 0)), (1, .int x1), (2, .int x2), (3, .int x3)]) hx hb dX1_leastLoadFrom_32 hl (by decide) rfl (fun ls hl => ?_)
      refine lv_aload_n hx hb dX1_leastLoadFrom_34 rfl (lv_at hl 2 rfl) ?_
      refine va_get (D := D) (ci := 1) (v := .ref (a 1)) (C := RX1) (T := TX1) (N := 3) hx hb hts in_Ev hown hK hP 0 rfl rfl 1 (by decide) ln_15 (fun _ h9 => h9) rfl dX1_leastLoadFrom_35 ?_
      refine lv_iload_n hx hb dX1_leastLoadFrom_38 rfl (lv_at hl 3 rfl) ?_
      refine va_iald hx hb hK hP 1 0 rfl rfl h.1 dX1_leastLoadFrom_39 ?_
      have h := h.2
      refine lv_bipush (v := (10 : Int32)) hx hb dX1_leastLoadFrom_40 (by decide) ?_
      refine lv_idiv hx hb dX1_leastLoadFrom_42 (by decide) ?_
      refine lv_topi (fun z_5 e_6 => ?_)
      have h := h z_5 e_6
      refine lv_istore (lv' := [(6, .int z_5), (5, .ref (a (3 + 5 * ((x1 + (1 : Int32)).toNatClampNeg)))), (4, .ref (a (3 + 5 * x1.toNatClampNeg))), (0, .ref (a 0)), (1, .int x1), (2, .int x2), (3, .int x3)]) hx hb dX1_leastLoadFrom_43 hl (by decide) rfl (fun ls hl => ?_)
      refine lv_aload_n hx hb dX1_leastLoadFrom_45 rfl (lv_at hl 3 rfl) ?_
      refine va_get (D := D) (ci := 1) (v := .ref (a 1)) (C := RX1) (T := TX1) (N := 3) hx hb hts in_Ev hown hK hP 0 rfl rfl 1 (by decide) ln_15 (fun _ h9 => h9) rfl dX1_leastLoadFrom_46 ?_
      refine lv_iload_n hx hb dX1_leastLoadFrom_49 rfl (lv_at hl 4 rfl) ?_
      refine va_iald hx hb hK hP 1 0 rfl rfl h.1 dX1_leastLoadFrom_50 ?_
      have h := h.2
      refine lv_bipush (v := (10 : Int32)) hx hb dX1_leastLoadFrom_51 (by decide) ?_
      refine lv_irem hx hb dX1_leastLoadFrom_53 (by decide) ?_
      refine lv_topi (fun z_7 e_8 => ?_)
      have h := h z_7 e_8
      refine lv_istore (lv' := [(7, .int z_7), (6, .int z_5), (5, .ref (a (3 + 5 * ((x1 + (1 : Int32)).toNatClampNeg)))), (4, .ref (a (3 + 5 * x1.toNatClampNeg))), (0, .ref (a 0)), (1, .int x1), (2, .int x2), (3, .int x3)]) hx hb dX1_leastLoadFrom_54 hl (by decide) rfl (fun ls hl => ?_)
      refine lv_aload hx hb dX1_leastLoadFrom_56 (lv_at hl 3 rfl) ?_
      refine lv_iload hx hb dX1_leastLoadFrom_58 (lv_at hl 1 rfl) ?_
      refine lv_iload hx hb dX1_leastLoadFrom_60 (lv_at hl 0 rfl) ?_
      have hPc := fc3_P (vp_lt hv_3) hP
      have hDc := fc3_D (vp_lt hv_3) hD
      have hFc := fr_self hDc hS hA
      refine gv_i (va_runV (As := [.int z_5, .int z_7]) (rest := []) ⟨hx, hb, hml, hown, hts⟩ (c_X2_areTwo l D k (sh a (3 + 5 * x1.toNatClampNeg)) (S0.2 x1.toNatClampNeg) H.size z_5 z_7 _ h) (cwV 2 hts gX1_leastLoadFrom_X2_areTwo rfl rfl rfl (by decide +kernel) ⟨Nat.le_add_right_of_le (Nat.le_of_ble_eq_true rfl), Nat.le_add_right_of_le (Nat.le_of_ble_eq_true rfl)⟩) (gv_preV hK hnw hPc hDc (ci := 2) rfl 0 rfl) rfl rfl hl.1 rfl (lv_room (Nat.le_of_ble_eq_true rfl)) dX1_leastLoadFrom_62 ⟨Nat.zero_le _, Nat.zero_le _⟩) hS hFc (fun r_9 u_10 H locs h hP1 hD1 hk1 hS => ?_)
      obtain ⟨hP, hD⟩ := fc3_J (vp_lt hv_3) hP hD hk1 hFc hP1 hD1
      obtain ⟨S_11, e_12⟩ : ∃ z : St × (Nat → St), z = (S0.1, va_up S0.2 x1.toNatClampNeg u_10) := ⟨_, rfl⟩
      have h := h S_11 e_12
      have hP : va_P D vwCl (wEv k a S_11) H := by rw [e_12]; exact hP
      have hD : va_D A (wEv k a S_11) := by rw [e_12]; exact hD
      refine lv_if_ne (tgt := 70) hx hb dX1_leastLoadFrom_65 (by decide) (fun c_13 => ?_) (fun c_13 => ?_)
      · have h := h.1 c_13
        refine lv_aload hx hb dX1_leastLoadFrom_70 (lv_at hl 3 rfl) ?_
        refine lv_iload hx hb dX1_leastLoadFrom_72 (lv_at hl 1 rfl) ?_
        refine lv_iload hx hb dX1_leastLoadFrom_74 (lv_at hl 0 rfl) ?_
        have hPc := fc3_P (vp_lt hv_3) hP
        have hDc := fc3_D (vp_lt hv_3) hD
        have hFc := fr_self hDc hS hA
        refine gv_i (va_runV (As := [.int z_5, .int z_7]) (rest := []) ⟨hx, hb, hml, hown, hts⟩ (c_X2_waysToDance l D k (sh a (3 + 5 * x1.toNatClampNeg)) (S_11.2 x1.toNatClampNeg) H.size z_5 z_7 _ h) (cwV 2 hts gX1_leastLoadFrom_X2_waysToDance rfl rfl rfl (by decide +kernel) ⟨Nat.le_add_right_of_le (Nat.le_of_ble_eq_true rfl), Nat.le_add_right_of_le (Nat.le_of_ble_eq_true rfl)⟩) (gv_preV hK hnw hPc hDc (ci := 2) rfl 0 rfl) rfl rfl hl.1 rfl (lv_room (Nat.le_of_ble_eq_true rfl)) dX1_leastLoadFrom_76 ⟨Nat.zero_le _, Nat.zero_le _⟩) hS hFc (fun r_14 u_15 H locs h hP1 hD1 hk1 hS => ?_)
        obtain ⟨hP, hD⟩ := fc3_J (vp_lt hv_3) hP hD hk1 hFc hP1 hD1
        obtain ⟨S_16, e_17⟩ : ∃ z : St × (Nat → St), z = (S_11.1, va_up S_11.2 x1.toNatClampNeg u_15) := ⟨_, rfl⟩
        have h := h S_16 e_17
        have hP : va_P D vwCl (wEv k a S_16) H := by rw [e_17]; exact hP
        have hD : va_D A (wEv k a S_16) := by rw [e_17]; exact hD
        refine lv_istore (lv' := [(8, .int r_14), (7, .int z_7), (6, .int z_5), (5, .ref (a (3 + 5 * ((x1 + (1 : Int32)).toNatClampNeg)))), (4, .ref (a (3 + 5 * x1.toNatClampNeg))), (0, .ref (a 0)), (1, .int x1), (2, .int x2), (3, .int x3)]) hx hb dX1_leastLoadFrom_79 hl (by decide) rfl (fun ls hl => ?_)
        refine lv_iload hx hb dX1_leastLoadFrom_81 (lv_at hl 0 rfl) ?_
        refine lv_bipush (v := (9 : Int32)) hx hb dX1_leastLoadFrom_83 (by decide) ?_
        refine gs_i (va_runSN (As := [.int r_14, .int (9 : Int32)]) (rest := []) ⟨hx, hb, hml, hown, hts⟩ (c_X6_hasBit l r_14 (9 : Int32) _ h) ⟨va_cnB 2 hts gX1_leastLoadFrom_X6_hasBit_n45 rfl rfl rfl (hnw.1 _ (List.mem_of_getElem? (i := 3) rfl)) ni_X6 (by decide +kernel) ⟨Nat.le_add_right_of_le (Nat.le_of_ble_eq_true rfl), Nat.le_add_right_of_le (Nat.le_of_ble_eq_true rfl)⟩, ns_yX6_hasBit, trivial⟩ preEq rfl rfl hl.1 rfl (lv_room (Nat.le_of_ble_eq_true rfl)) dX1_leastLoadFrom_85 ⟨Nat.zero_le _, Nat.zero_le _⟩) (fun r_18 h => ?_)
        refine lv_if_eq (tgt := 96) hx hb dX1_leastLoadFrom_88 (by decide) (fun c_19 => ?_) (fun c_19 => ?_)
        · have h := h.1 c_19
          refine lv_iconst (v := (0 : Int32)) hx hb dX1_leastLoadFrom_96 (by decide) ?_
          refine lv_istore (lv' := [(9, .int (0 : Int32)), (8, .int r_14), (7, .int z_7), (6, .int z_5), (5, .ref (a (3 + 5 * ((x1 + (1 : Int32)).toNatClampNeg)))), (4, .ref (a (3 + 5 * x1.toNatClampNeg))), (0, .ref (a 0)), (1, .int x1), (2, .int x2), (3, .int x3)]) hx hb dX1_leastLoadFrom_97 hl (by decide) rfl (fun ls hl => ?_)
          refine lv_iload_n hx hb dX1_leastLoadFrom_99 rfl (lv_at hl 9 rfl) ?_
          refine lv_istore (lv' := [(10, .int x3), (9, .int (0 : Int32)), (8, .int r_14), (7, .int z_7), (6, .int z_5), (5, .ref (a (3 + 5 * ((x1 + (1 : Int32)).toNatClampNeg)))), (4, .ref (a (3 + 5 * x1.toNatClampNeg))), (0, .ref (a 0)), (1, .int x1), (2, .int x2), (3, .int x3)]) hx hb dX1_leastLoadFrom_100 hl (by decide) rfl (fun ls hl => ?_)
          refine lv_iload hx hb dX1_leastLoadFrom_102 (lv_at hl 1 rfl) ?_
          refine lv_istore (lv' := [(11, .int (0 : Int32)), (10, .int x3), (9, .int (0 : Int32)), (8, .int r_14), (7, .int z_7), (6, .int z_5), (5, .ref (a (3 + 5 * ((x1 + (1 : Int32)).toNatClampNeg)))), (4, .ref (a (3 + 5 * x1.toNatClampNeg))), (0, .ref (a 0)), (1, .int x1), (2, .int x2), (3, .int x3)]) hx hb dX1_leastLoadFrom_104 hl (by decide) rfl (fun ls hl => ?_)
          obtain ⟨n_39, h⟩ := h
          exact L_106 n_39 S_16 z_5 z_7 r_14 x3 (0 : Int32) hv_4 hv_3 H locs ls hP hD hS (lv_sub hl [8, 9, 10, 7, 6, 5, 4, 3, 1, 0] rfl) h
        · have h := h.2 c_19
          refine lv_bipush (v := (9 : Int32)) hx hb dX1_leastLoadFrom_91 (by decide) ?_
          refine lv_goto (tgt := 97) hx hb dX1_leastLoadFrom_93 (by decide) ?_
          refine lv_istore (lv' := [(9, .int (9 : Int32)), (8, .int r_14), (7, .int z_7), (6, .int z_5), (5, .ref (a (3 + 5 * ((x1 + (1 : Int32)).toNatClampNeg)))), (4, .ref (a (3 + 5 * x1.toNatClampNeg))), (0, .ref (a 0)), (1, .int x1), (2, .int x2), (3, .int x3)]) hx hb dX1_leastLoadFrom_97 hl (by decide) rfl (fun ls hl => ?_)
          refine lv_iload_n hx hb dX1_leastLoadFrom_99 rfl (lv_at hl 9 rfl) ?_
          refine lv_istore (lv' := [(10, .int x3), (9, .int (9 : Int32)), (8, .int r_14), (7, .int z_7), (6, .int z_5), (5, .ref (a (3 + 5 * ((x1 + (1 : Int32)).toNatClampNeg)))), (4, .ref (a (3 + 5 * x1.toNatClampNeg))), (0, .ref (a 0)), (1, .int x1), (2, .int x2), (3, .int x3)]) hx hb dX1_leastLoadFrom_100 hl (by decide) rfl (fun ls hl => ?_)
          refine lv_iload hx hb dX1_leastLoadFrom_102 (lv_at hl 1 rfl) ?_
          refine lv_istore (lv' := [(11, .int (9 : Int32)), (10, .int x3), (9, .int (9 : Int32)), (8, .int r_14), (7, .int z_7), (6, .int z_5), (5, .ref (a (3 + 5 * ((x1 + (1 : Int32)).toNatClampNeg)))), (4, .ref (a (3 + 5 * x1.toNatClampNeg))), (0, .ref (a 0)), (1, .int x1), (2, .int x2), (3, .int x3)]) hx hb dX1_leastLoadFrom_104 hl (by decide) rfl (fun ls hl => ?_)
          obtain ⟨n_40, h⟩ := h
          exact L_106 n_40 S_16 z_5 z_7 r_14 x3 (9 : Int32) hv_4 hv_3 H locs ls hP hD hS (lv_sub hl [8, 9, 10, 7, 6, 5, 4, 3, 1, 0] rfl) h
      · have h := h.2 c_13
        refine lv_iload_n hx hb dX1_leastLoadFrom_68 rfl (lv_at hl 7 rfl) ?_
        exact W.iret (v := x3) hx hb hr (fun t ht hW => ⟨⟨x3, S_11, rfl, h, by rw [ht]; exact hP, va_K.moved hW.alike hK, hD⟩, hS.F ht⟩) hS.2.2 dX1_leastLoadFrom_69
    · have h := h.2 c_2
      refine lv_iload_n hx hb dX1_leastLoadFrom_14 rfl (lv_at hl 2 rfl) ?_
      exact W.iret (v := x2) hx hb hr (fun t ht hW => ⟨⟨x2, S0, rfl, h, by rw [ht]; exact hP, va_K.moved hW.alike hK, hD⟩, hS.F ht⟩) hS.2.2 dX1_leastLoadFrom_15
theorem c_X1_leastLoadFrom (l : Launch) (D : va_G) (k : Nat → ClassId) : ∀ (d : Nat) (a : Nat → Nat) (S0 : St × (Nat → St)) (sz : Nat) (x1 : Int32) (x2 : Int32) (x3 : Int32) (Q : Int32 → (St × (Nat → St)) → Prop), wp_X1_leastLoadFrom d S0 x1 x2 x3 Q → Met l yX1_leastLoadFrom wsX1_leastLoadFrom (rmX1_leastLoadFrom d) (cPc D k (wEv k a S0) [.ref (a 0), .int x1, .int x2, .int x3] sz) (va_Qi (fun (r : Int32) (u : (St × (Nat → St))) => Q r u) (cB D k (va_A (wEv k a S0) sz) (fun u : (St × (Nat → St)) => wEv k a u)) (va_A (wEv k a S0) sz)) 0 0 (va_A (wEv k a S0) sz) := by
  intro d
  induction d with
  | zero => intro a S0 sz x1 x2 x3 Q h; exact absurd h (by unfold wp_X1_leastLoadFrom; exact id)
  | succ d ih => intro a S0 sz x1 x2 x3 Q h; exact c_X1_leastLoadFrom_b l D k d (wp_X1_leastLoadFrom d) ih a S0 sz x1 x2 x3 Q (by unfold wp_X1_leastLoadFrom at h; exact h)
/-! X1_leastLoad -/
def wp_X1_leastLoad (S0 : St × (Nat → St)) (S1 : St) (Q : Int32 → (St × (Nat → St)) → St → Prop) : Prop := wp_X2_copyFrom (S0.2 0) S1 (fun u_2 u_3 => ∀ S_5, S_5 = (S0.1, va_up S0.2 0 u_2) → (wp_X1_leastLoadFrom 8 S_5 (0 : Int32) (0 : Int32) ((S_5.1.1 0) + (1 : Int32)) (fun r_7 u_8 => ((((S_5.1.1 0) + (1 : Int32)) ≤ r_7) → (Q (-9 : Int32) u_8 u_3)) ∧ ((¬ ((S_5.1.1 0) + (1 : Int32)) ≤ r_7) → (Q r_7 u_8 u_3)))))
abbrev rmX1_leastLoad : Room := { frames := 13, cells := 0, slots := 0, locals := 384 }
set_option maxRecDepth 100000 in
set_option maxHeartbeats 4000000 in
theorem c_X1_leastLoad (l : Launch) (D : va_G) (k : Nat → ClassId) (a : Nat → Nat) (b : Nat → Nat) (S0 : St × (Nat → St)) (S1 : St) (sz : Nat) (Q : Int32 → (St × (Nat → St)) → St → Prop) (h : wp_X1_leastLoad S0 S1 Q) : Met l yX1_leastLoad wsX1_leastLoad rmX1_leastLoad (cPc D k (wEv k a S0 ++ wFl k b S1) [.ref (a 0), .ref (b 0)] sz) (va_Qi (fun (r : Int32) (u : (St × (Nat → St)) × St) => Q r u.1 u.2) (cB D k (va_A (wEv k a S0 ++ wFl k b S1) sz) (fun u : (St × (Nat → St)) × St => wEv k a u.1 ++ wFl k b u.2)) (va_A (wEv k a S0 ++ wFl k b S1) sz)) 0 0 (va_A (wEv k a S0 ++ wFl k b S1) sz) := by
  refine ct_entry (cc := cX1_leastLoad) (maxL := 4) (ret := (some .int)) (Rn := RX1) (Qc := fun A => (va_Qi (fun (r : Int32) (u : (St × (Nat → St)) × St) => Q r u.1 u.2) (cB D k A (fun u : (St × (Nat → St)) × St => wEv k a u.1 ++ wFl k b u.2)) A)) (by decide) rfl rfl (Nat.le_of_ble_eq_true rfl) ?_
  intro p e s m below meth c hx hb hr hlocks hml hts hown hnw hK A hA H locs hP hD hS ls hl
  have hl : lv_has ls 4 [(0, .ref (a 0)), (1, .ref (b 0))] := hl
  have ln_21 := hts (.fieldLink RX1 21 "WithTheSameOne$Evening" "minds" "[LWithTheSameOne$Floor;") (by decide +kernel)
  have ln_9 := hts (.fieldLink RX1 9 "WithTheSameOne$Evening" "size" "I") (by decide +kernel)
  have in_Ev : ∀ w ∈ wsX10, w ∈ wsX1_leastLoad := fun _ h => List.mem_cons_of_mem _ (List.mem_append_left _ (List.mem_append_right _ h))
  unfold wp_X1_leastLoad at h
  refine lv_aload_n hx hb dX1_leastLoad_0 rfl (lv_at hl 0 rfl) ?_
  refine va_get (D := D) (ci := 1) (v := .ref (a 2)) (C := RX1) (T := TX1) (N := 3) hx hb hts in_Ev hown hK hP 0 rfl rfl 2 (by decide) ln_21 (fun _ h9 => h9) rfl dX1_leastLoad_1 ?_
  refine lv_iconst (v := (0 : Int32)) hx hb dX1_leastLoad_4 (by decide) ?_
  refine va_aldq (C := RX2) hx hb hK hP 2 1 rfl rfl (vp0 (by decide)) dX1_leastLoad_5 ?_
  refine W.eq (g2 := F0 m 6 ls [.ref (a 3)]) rfl ?_
  refine lv_aload_n hx hb dX1_leastLoad_6 rfl (lv_at hl 1 rfl) ?_
  have hPc := fc1_P hP
  have hDc := fc1_D hD
  have hFc := fr_self hDc hS hA
  refine gv_v (va_runV (As := [.ref (b 0)]) (rest := []) ⟨hx, hb, hml, hown, hts⟩ (c_X2_copyFrom l D k (sh a 3) b (S0.2 0) S1 H.size _ h) (cwV 1 hts gX1_leastLoad_X2_copyFrom rfl rfl rfl (by decide +kernel) ⟨Nat.le_of_ble_eq_true rfl, Nat.le_of_ble_eq_true rfl⟩) (gv_preV hK hnw hPc hDc (ci := 2) rfl 0 rfl) rfl rfl hl.1 rfl (lv_room (Nat.le_of_ble_eq_true rfl)) dX1_leastLoad_7 ⟨Nat.zero_le _, Nat.zero_le _⟩) hS hFc (fun w_4 H locs h hP1 hD1 hk1 hS => ?_)
  obtain ⟨u_2, u_3⟩ := w_4
  obtain ⟨hP, hD⟩ := fc1_J hP hD hk1 hFc hP1 hD1
  obtain ⟨S_5, e_6⟩ : ∃ z : St × (Nat → St), z = (S0.1, va_up S0.2 0 u_2) := ⟨_, rfl⟩
  have h := h S_5 e_6
  have hP : va_P D vwCl (wEv k a S_5 ++ wFl k b u_3) H := by rw [e_6]; exact hP
  have hD : va_D A (wEv k a S_5 ++ wFl k b u_3) := by rw [e_6]; exact hD
  refine lv_aload_n hx hb dX1_leastLoad_10 rfl (lv_at hl 0 rfl) ?_
  refine va_get (D := D) (ci := 1) (v := .int (S_5.1.1 0)) (C := RX1) (T := TX1) (N := 3) hx hb hts in_Ev hown hK hP 0 rfl rfl 0 (by decide) ln_9 (fun _ h9 => h9) rfl dX1_leastLoad_11 ?_
  refine lv_iconst (v := (1 : Int32)) hx hb dX1_leastLoad_14 (by decide) ?_
  refine lv_iadd hx hb dX1_leastLoad_15 ?_
  refine lv_istore_n (lv' := [(2, .int ((S_5.1.1 0) + (1 : Int32))), (0, .ref (a 0)), (1, .ref (b 0))]) hx hb dX1_leastLoad_16 rfl hl (by decide) rfl (fun ls hl => ?_)
  refine lv_aload_n hx hb dX1_leastLoad_17 rfl (lv_at hl 1 rfl) ?_
  refine lv_iconst (v := (0 : Int32)) hx hb dX1_leastLoad_18 (by decide) ?_
  refine lv_iconst (v := (0 : Int32)) hx hb dX1_leastLoad_19 (by decide) ?_
  refine lv_iload_n hx hb dX1_leastLoad_20 rfl (lv_at hl 0 rfl) ?_
  have hPc := fc5_P hP
  have hDc := fc5_D hD
  have hFc := fr_self hDc hS hA
  refine gv_i (va_runV (As := [.int (0 : Int32), .int (0 : Int32), .int ((S_5.1.1 0) + (1 : Int32))]) (rest := []) ⟨hx, hb, hml, hown, hts⟩ (c_X1_leastLoadFrom l D k 8 a S_5 H.size (0 : Int32) (0 : Int32) ((S_5.1.1 0) + (1 : Int32)) _ h) (cwV 3 hts gX1_leastLoad_X1_leastLoadFrom rfl rfl rfl (by decide +kernel) ⟨Nat.le_of_ble_eq_true rfl, Nat.le_of_ble_eq_true rfl⟩) (gv_preV hK hnw hPc hDc (ci := 1) rfl 0 rfl) rfl rfl hl.1 rfl (lv_room (Nat.le_of_ble_eq_true rfl)) dX1_leastLoad_21 ⟨Nat.zero_le _, Nat.zero_le _⟩) hS hFc (fun r_7 u_8 H locs h hP1 hD1 hk1 hS => ?_)
  obtain ⟨hP, hD⟩ := fc5_J hP hD hk1 hFc hP1 hD1
  refine lv_istore_n (lv' := [(3, .int r_7), (2, .int ((S_5.1.1 0) + (1 : Int32))), (0, .ref (a 0)), (1, .ref (b 0))]) hx hb dX1_leastLoad_24 rfl hl (by decide) rfl (fun ls hl => ?_)
  refine lv_iload_n hx hb dX1_leastLoad_25 rfl (lv_at hl 0 rfl) ?_
  refine lv_iload_n hx hb dX1_leastLoad_26 rfl (lv_at hl 1 rfl) ?_
  refine lv_icmp_ge (tgt := 34) hx hb dX1_leastLoad_27 (by decide) (fun c_9 => ?_) (fun c_9 => ?_)
  · have h := h.1 c_9
    refine lv_bipush (v := (-9 : Int32)) hx hb dX1_leastLoad_34 (by decide) ?_
    exact W.iret (v := (-9 : Int32)) hx hb hr (fun t ht hW => ⟨⟨(-9 : Int32), (u_8, u_3), rfl, h, by rw [ht]; exact hP, va_K.moved hW.alike hK, hD⟩, hS.F ht⟩) hS.2.2 dX1_leastLoad_36
  · have h := h.2 c_9
    refine lv_iload_n hx hb dX1_leastLoad_30 rfl (lv_at hl 0 rfl) ?_
    refine lv_goto (tgt := 36) hx hb dX1_leastLoad_31 (by decide) ?_
    exact W.iret (v := r_7) hx hb hr (fun t ht hW => ⟨⟨r_7, (u_8, u_3), rfl, h, by rw [ht]; exact hP, va_K.moved hW.alike hK, hD⟩, hS.F ht⟩) hS.2.2 dX1_leastLoad_36
/-! X1_goodOrdersFrom -/
def wp_X1_goodOrdersFrom_31 (R : (St × (Nat → St)) → Int32 → Int32 → (Int32 → (St × (Nat → St)) → Prop) → Prop) (x1 : Int32) (x2 : Int32) (Q : Int32 → (St × (Nat → St)) → Prop) : Nat → (St × (Nat → St)) → Int32 → Int32 → Prop
  | 0, _, _, _ => False
  | n + 1, S0, x4, x5 => (((S0.1.1 0) ≤ x5) → (Q x4 S0)) ∧ ((¬ (S0.1.1 0) ≤ x5) → (wp_X6_hasBit x2 x5 (fun r_5 => ((¬ r_5 = 0) → (wp_X1_goodOrdersFrom_31 R x1 x2 Q n S0 x4 (x5 + 1))) ∧ ((r_5 = 0) → (vp_in x1 7 ∧ (((x1 + (1 : Int32)).toNatClampNeg ≠ x1.toNatClampNeg) ∧ (wp_X2_copyFrom (S0.2 ((x1 + (1 : Int32)).toNatClampNeg)) (S0.2 x1.toNatClampNeg) (fun u_9 u_10 => ∀ S_13, S_13 = ((S0.1, va_up S0.2 ((x1 + (1 : Int32)).toNatClampNeg) u_9).1, va_up (S0.1, va_up S0.2 ((x1 + (1 : Int32)).toNatClampNeg) u_9).2 x1.toNatClampNeg u_10) → (vp_in x5 6 ∧ (vp_in x5 6 ∧ (wp_X2_stepByLeast (S_13.2 ((x1 + (1 : Int32)).toNatClampNeg)) ((S_13.1.2 1 x5.toNatClampNeg) / (10 : Int32)) ((S_13.1.2 1 x5.toNatClampNeg) - (S_13.1.2 1 x5.toNatClampNeg) / (10 : Int32) * (10 : Int32)) (fun r_15 u_16 => ∀ S_17, S_17 = (S_13.1, va_up S_13.2 ((x1 + (1 : Int32)).toNatClampNeg) u_16) → (((r_15 = 0) → (wp_X1_goodOrdersFrom_31 R x1 x2 Q n S_17 x4 (x5 + 1))) ∧ ((¬ r_15 = 0) → (R S_17 (x1 + (1 : Int32)) (x2 ||| ((1 : Int32) <<< (x5 &&& 31))) (fun r_20 u_21 => wp_X1_goodOrdersFrom_31 R x1 x2 Q n u_21 (x4 + r_20) (x5 + 1)))))))))))))))))
def wp_X1_goodOrdersFrom_b (R : (St × (Nat → St)) → Int32 → Int32 → (Int32 → (St × (Nat → St)) → Prop) → Prop) (S0 : St × (Nat → St)) (x1 : Int32) (x2 : Int32) (Q : Int32 → (St × (Nat → St)) → Prop) : Prop := (((S0.1.1 0) ≤ x1) → (Q (1 : Int32) S0)) ∧ ((¬ (S0.1.1 0) ≤ x1) → (((x1 < (6 : Int32)) → (vp_in (x1 + (1 : Int32)) 7 ∧ (∃ i, wp_X1_goodOrdersFrom_31 R x1 x2 Q i S0 (0 : Int32) (0 : Int32)))) ∧ ((¬ x1 < (6 : Int32)) → (Q (1 : Int32) S0))))
def wp_X1_goodOrdersFrom : Nat → (St × (Nat → St)) → Int32 → Int32 → (Int32 → (St × (Nat → St)) → Prop) → Prop
  | 0, _, _, _, _ => False
  | d + 1, S0, x1, x2, Q => wp_X1_goodOrdersFrom_b (wp_X1_goodOrdersFrom d) S0 x1 x2 Q
abbrev rmX1_goodOrdersFrom (d : Nat) : Room := { frames := 5 + (1 * d), cells := 0, slots := 0, locals := 119 + (25 * d) }
set_option maxRecDepth 100000 in
set_option maxHeartbeats 4000000 in
theorem c_X1_goodOrdersFrom_b (l : Launch) (D : va_G) (k : Nat → ClassId) (d : Nat) (R : (St × (Nat → St)) → Int32 → Int32 → (Int32 → (St × (Nat → St)) → Prop) → Prop) (hR : ∀ (a : Nat → Nat) (S0 : St × (Nat → St)) (sz : Nat) (x1 : Int32) (x2 : Int32) (Q : Int32 → (St × (Nat → St)) → Prop), R S0 x1 x2 Q → Met l yX1_goodOrdersFrom wsX1_goodOrdersFrom (rmX1_goodOrdersFrom d) (cPc D k (wEv k a S0) [.ref (a 0), .int x1, .int x2] sz) (va_Qi (fun (r : Int32) (u : (St × (Nat → St))) => Q r u) (cB D k (va_A (wEv k a S0) sz) (fun u : (St × (Nat → St)) => wEv k a u)) (va_A (wEv k a S0) sz)) 0 0 (va_A (wEv k a S0) sz)) (a : Nat → Nat) (S0 : St × (Nat → St)) (sz : Nat) (x1 : Int32) (x2 : Int32) (Q : Int32 → (St × (Nat → St)) → Prop) (h : wp_X1_goodOrdersFrom_b R S0 x1 x2 Q) : Met l yX1_goodOrdersFrom wsX1_goodOrdersFrom (rmX1_goodOrdersFrom (d + 1)) (cPc D k (wEv k a S0) [.ref (a 0), .int x1, .int x2] sz) (va_Qi (fun (r : Int32) (u : (St × (Nat → St))) => Q r u) (cB D k (va_A (wEv k a S0) sz) (fun u : (St × (Nat → St)) => wEv k a u)) (va_A (wEv k a S0) sz)) 0 0 (va_A (wEv k a S0) sz) := by
  refine ct_entry (cc := cX1_goodOrdersFrom) (maxL := 6) (ret := (some .int)) (Rn := RX1) (Qc := fun A => (va_Qi (fun (r : Int32) (u : (St × (Nat → St))) => Q r u) (cB D k A (fun u : (St × (Nat → St)) => wEv k a u)) A)) (by decide) rfl rfl (Nat.le_of_ble_eq_true rfl) ?_
  intro p e s m below meth c hx hb hr hlocks hml hts hown hnw hK A hA H locs hP hD hS ls hl
  have hl : lv_has ls 6 [(0, .ref (a 0)), (1, .int x1), (2, .int x2)] := hl
  have ln_15 := hts (.fieldLink RX1 15 "WithTheSameOne$Evening" "pairs" "[I") (by decide +kernel)
  have ln_21 := hts (.fieldLink RX1 21 "WithTheSameOne$Evening" "minds" "[LWithTheSameOne$Floor;") (by decide +kernel)
  have ln_9 := hts (.fieldLink RX1 9 "WithTheSameOne$Evening" "size" "I") (by decide +kernel)
  have ni_X6 := hts (.initialized RX6) (by decide +kernel)
  have ns_yX6_hasBit := hts (.static yX6_hasBit) (by decide +kernel)
  have in_Ev : ∀ w ∈ wsX10, w ∈ wsX1_goodOrdersFrom := fun _ h => List.mem_cons_of_mem _ (List.mem_append_left _ (List.mem_append_right _ h))
  have L_31 : ∀ (n : Nat), ∀ (S0 : St × (Nat → St)) (x4 : Int32) (x5 : Int32), vp_in (x1 + (1 : Int32)) 7 → ∀ (H : Heap) (locs : List Loc) (ls : Array Slot), va_P D vwCl (wEv k a S0) H → va_D A (wEv k a S0) → va_S A s.heap H locs → lv_has ls 6 [(0, .ref (a 0)), (1, .int x1), (2, .int x2), (3, .ref (a (3 + 5 * ((x1 + (1 : Int32)).toNatClampNeg)))), (4, .int x4), (5, .int x5)] → wp_X1_goodOrdersFrom_31 R x1 x2 Q n S0 x4 x5 → W p l e (rmX1_goodOrdersFrom (d + 1)) s m ([.ref (a 0), .int x1, .int x2] : List Value).toArray below meth c H locs 0 0 (MQ below (va_Qi (fun (r : Int32) (u : (St × (Nat → St))) => Q r u) (cB D k A (fun u : (St × (Nat → St)) => wEv k a u)) A) ([.ref (a 0), .int x1, .int x2] : List Value).toArray s 0 0 A) (F0 m 31 ls []) := by
    intro n
    induction n with
    | zero => intro S0 x4 x5 hv_0 H locs ls hP hD hS hl h; exact absurd h (by unfold wp_X1_goodOrdersFrom_31; exact id)
    | succ n ih =>
      intro S0 x4 x5 hv_0 H locs ls hP hD hS hl h
      unfold wp_X1_goodOrdersFrom_31 at h
      refine lv_iload hx hb dX1_goodOrdersFrom_31 (lv_at hl 5 rfl) ?_
      refine lv_aload_n hx hb dX1_goodOrdersFrom_33 rfl (lv_at hl 0 rfl) ?_
      refine va_get (D := D) (ci := 1) (v := .int (S0.1.1 0)) (C := RX1) (T := TX1) (N := 3) hx hb hts in_Ev hown hK hP 0 rfl rfl 0 (by decide) ln_9 (fun _ h9 => h9) rfl dX1_goodOrdersFrom_34 ?_
      refine lv_icmp_ge (tgt := 110) hx hb dX1_goodOrdersFrom_37 (by decide) (fun c_4 => ?_) (fun c_4 => ?_)
      · have h := h.1 c_4
        refine lv_iload hx hb dX1_goodOrdersFrom_110 (lv_at hl 4 rfl) ?_
        exact W.iret (v := x4) hx hb hr (fun t ht hW => ⟨⟨x4, S0, rfl, h, by rw [ht]; exact hP, va_K.moved hW.alike hK, hD⟩, hS.F ht⟩) hS.2.2 dX1_goodOrdersFrom_112
      · have h := h.2 c_4
        refine lv_iload_n hx hb dX1_goodOrdersFrom_40 rfl (lv_at hl 2 rfl) ?_
        refine lv_iload hx hb dX1_goodOrdersFrom_41 (lv_at hl 5 rfl) ?_
        refine gs_i (va_runSN (As := [.int x2, .int x5]) (rest := []) ⟨hx, hb, hml, hown, hts⟩ (c_X6_hasBit l x2 x5 _ h) ⟨va_cnB 2 hts gX1_goodOrdersFrom_X6_hasBit_n45 rfl rfl rfl (hnw.1 _ (List.mem_of_getElem? (i := 3) rfl)) ni_X6 (by decide +kernel) ⟨Nat.le_add_right_of_le (Nat.le_of_ble_eq_true rfl), Nat.le_add_right_of_le (Nat.le_of_ble_eq_true rfl)⟩, ns_yX6_hasBit, trivial⟩ preEq rfl rfl hl.1 rfl (lv_room (Nat.le_of_ble_eq_true rfl)) dX1_goodOrdersFrom_43 ⟨Nat.zero_le _, Nat.zero_le _⟩) (fun r_5 h => ?_)
        refine lv_if_ne (tgt := 104) hx hb dX1_goodOrdersFrom_46 (by decide) (fun c_6 => ?_) (fun c_6 => ?_)
        · have h := h.1 c_6
          refine lv_iinc (v := (x5 + 1)) (lv' := [(5, .int (x5 + 1)), (0, .ref (a 0)), (1, .int x1), (2, .int x2), (3, .ref (a (3 + 5 * ((x1 + (1 : Int32)).toNatClampNeg)))), (4, .int x4)]) hx hb dX1_goodOrdersFrom_104 hl (k := 5) rfl rfl (by decide) rfl (fun ls hl => ?_)
          refine lv_goto (tgt := 31) hx hb dX1_goodOrdersFrom_107 (by decide) ?_
          exact ih S0 x4 (x5 + 1) hv_0 H locs ls hP hD hS (lv_sub hl [1, 2, 3, 4, 5, 0] rfl) h
        · have h := h.2 c_6
          refine lv_aload_n hx hb dX1_goodOrdersFrom_49 rfl (lv_at hl 3 rfl) ?_
          refine lv_aload_n hx hb dX1_goodOrdersFrom_50 rfl (lv_at hl 0 rfl) ?_
          refine va_get (D := D) (ci := 1) (v := .ref (a 2)) (C := RX1) (T := TX1) (N := 3) hx hb hts in_Ev hown hK hP 0 rfl rfl 2 (by decide) ln_21 (fun _ h9 => h9) rfl dX1_goodOrdersFrom_51 ?_
          refine lv_iload_n hx hb dX1_goodOrdersFrom_54 rfl (lv_at hl 1 rfl) ?_
          refine va_aldq (C := RX2) hx hb hK hP 2 1 rfl rfl h.1 dX1_goodOrdersFrom_55 ?_
          have hv_7 := h.1
          have h := h.2
          refine W.eq (g2 := F0 m 56 ls [.ref (a (3 + 5 * x1.toNatClampNeg)), .ref (a (3 + 5 * ((x1 + (1 : Int32)).toNatClampNeg)))]) rfl ?_
          have ne_11 := h.1
          have h := h.2
          have hPc := fc4_P (vp_lt hv_0) (vp_lt hv_7) ne_11 hP
          have hDc := fc4_D (vp_lt hv_0) (vp_lt hv_7) ne_11 hD
          have hFc := fr_self hDc hS hA
          refine gv_v (va_runV (As := [.ref (a (3 + 5 * x1.toNatClampNeg))]) (rest := []) ⟨hx, hb, hml, hown, hts⟩ (c_X2_copyFrom l D k (sh a (3 + 5 * ((x1 + (1 : Int32)).toNatClampNeg))) (sh a (3 + 5 * x1.toNatClampNeg)) (S0.2 ((x1 + (1 : Int32)).toNatClampNeg)) (S0.2 x1.toNatClampNeg) H.size _ h) (cwV 1 hts gX1_goodOrdersFrom_X2_copyFrom rfl rfl rfl (by decide +kernel) ⟨Nat.le_add_right_of_le (Nat.le_of_ble_eq_true rfl), Nat.le_add_right_of_le (Nat.le_of_ble_eq_true rfl)⟩) (gv_preV hK hnw hPc hDc (ci := 2) rfl 0 rfl) rfl rfl hl.1 rfl (lv_room (Nat.le_of_ble_eq_true rfl)) dX1_goodOrdersFrom_56 ⟨Nat.zero_le _, Nat.zero_le _⟩) hS hFc (fun w_12 H locs h hP1 hD1 hk1 hS => ?_)
          obtain ⟨u_9, u_10⟩ := w_12
          obtain ⟨hP, hD⟩ := fc4_J (vp_lt hv_0) (vp_lt hv_7) ne_11 hP hD hk1 hFc hP1 hD1
          obtain ⟨S_13, e_14⟩ : ∃ z : St × (Nat → St), z = ((S0.1, va_up S0.2 ((x1 + (1 : Int32)).toNatClampNeg) u_9).1, va_up (S0.1, va_up S0.2 ((x1 + (1 : Int32)).toNatClampNeg) u_9).2 x1.toNatClampNeg u_10) := ⟨_, rfl⟩
          have h := h S_13 e_14
          have hP : va_P D vwCl (wEv k a S_13) H := by rw [e_14]; exact hP
          have hD : va_D A (wEv k a S_13) := by rw [e_14]; exact hD
          refine lv_aload_n hx hb dX1_goodOrdersFrom_59 rfl (lv_at hl 3 rfl) ?_
          refine lv_aload_n hx hb dX1_goodOrdersFrom_60 rfl (lv_at hl 0 rfl) ?_
          refine va_get (D := D) (ci := 1) (v := .ref (a 1)) (C := RX1) (T := TX1) (N := 3) hx hb hts in_Ev hown hK hP 0 rfl rfl 1 (by decide) ln_15 (fun _ h9 => h9) rfl dX1_goodOrdersFrom_61 ?_
          refine lv_iload hx hb dX1_goodOrdersFrom_64 (lv_at hl 5 rfl) ?_
          refine va_iald hx hb hK hP 1 0 rfl rfl h.1 dX1_goodOrdersFrom_66 ?_
          have h := h.2
          refine lv_bipush (v := (10 : Int32)) hx hb dX1_goodOrdersFrom_67 (by decide) ?_
          refine lv_idiv hx hb dX1_goodOrdersFrom_69 (by decide) ?_
          refine lv_aload_n hx hb dX1_goodOrdersFrom_70 rfl (lv_at hl 0 rfl) ?_
          refine va_get (D := D) (ci := 1) (v := .ref (a 1)) (C := RX1) (T := TX1) (N := 3) hx hb hts in_Ev hown hK hP 0 rfl rfl 1 (by decide) ln_15 (fun _ h9 => h9) rfl dX1_goodOrdersFrom_71 ?_
          refine lv_iload hx hb dX1_goodOrdersFrom_74 (lv_at hl 5 rfl) ?_
          refine va_iald hx hb hK hP 1 0 rfl rfl h.1 dX1_goodOrdersFrom_76 ?_
          have h := h.2
          refine lv_bipush (v := (10 : Int32)) hx hb dX1_goodOrdersFrom_77 (by decide) ?_
          refine lv_irem hx hb dX1_goodOrdersFrom_79 (by decide) ?_
          have hPc := fc3_P (vp_lt hv_0) hP
          have hDc := fc3_D (vp_lt hv_0) hD
          have hFc := fr_self hDc hS hA
          refine gv_i (va_runV (As := [.int ((S_13.1.2 1 x5.toNatClampNeg) / (10 : Int32)), .int ((S_13.1.2 1 x5.toNatClampNeg) - (S_13.1.2 1 x5.toNatClampNeg) / (10 : Int32) * (10 : Int32))]) (rest := []) ⟨hx, hb, hml, hown, hts⟩ (c_X2_stepByLeast l D k (sh a (3 + 5 * ((x1 + (1 : Int32)).toNatClampNeg))) (S_13.2 ((x1 + (1 : Int32)).toNatClampNeg)) H.size ((S_13.1.2 1 x5.toNatClampNeg) / (10 : Int32)) ((S_13.1.2 1 x5.toNatClampNeg) - (S_13.1.2 1 x5.toNatClampNeg) / (10 : Int32) * (10 : Int32)) _ h) (cwV 2 hts gX1_goodOrdersFrom_X2_stepByLeast rfl rfl rfl (by decide +kernel) ⟨Nat.le_add_right_of_le (Nat.le_of_ble_eq_true rfl), Nat.le_add_right_of_le (Nat.le_of_ble_eq_true rfl)⟩) (gv_preV hK hnw hPc hDc (ci := 2) rfl 0 rfl) rfl rfl hl.1 rfl (lv_room (Nat.le_of_ble_eq_true rfl)) dX1_goodOrdersFrom_80 ⟨Nat.zero_le _, Nat.zero_le _⟩) hS hFc (fun r_15 u_16 H locs h hP1 hD1 hk1 hS => ?_)
          obtain ⟨hP, hD⟩ := fc3_J (vp_lt hv_0) hP hD hk1 hFc hP1 hD1
          obtain ⟨S_17, e_18⟩ : ∃ z : St × (Nat → St), z = (S_13.1, va_up S_13.2 ((x1 + (1 : Int32)).toNatClampNeg) u_16) := ⟨_, rfl⟩
          have h := h S_17 e_18
          have hP : va_P D vwCl (wEv k a S_17) H := by rw [e_18]; exact hP
          have hD : va_D A (wEv k a S_17) := by rw [e_18]; exact hD
          refine lv_if_eq (tgt := 104) hx hb dX1_goodOrdersFrom_83 (by decide) (fun c_19 => ?_) (fun c_19 => ?_)
          · have h := h.1 c_19
            refine lv_iinc (v := (x5 + 1)) (lv' := [(5, .int (x5 + 1)), (0, .ref (a 0)), (1, .int x1), (2, .int x2), (3, .ref (a (3 + 5 * ((x1 + (1 : Int32)).toNatClampNeg)))), (4, .int x4)]) hx hb dX1_goodOrdersFrom_104 hl (k := 5) rfl rfl (by decide) rfl (fun ls hl => ?_)
            refine lv_goto (tgt := 31) hx hb dX1_goodOrdersFrom_107 (by decide) ?_
            exact ih S_17 x4 (x5 + 1) hv_0 H locs ls hP hD hS (lv_sub hl [1, 2, 3, 4, 5, 0] rfl) h
          · have h := h.2 c_19
            refine lv_iload hx hb dX1_goodOrdersFrom_86 (lv_at hl 4 rfl) ?_
            refine lv_aload_n hx hb dX1_goodOrdersFrom_88 rfl (lv_at hl 0 rfl) ?_
            refine lv_iload_n hx hb dX1_goodOrdersFrom_89 rfl (lv_at hl 1 rfl) ?_
            refine lv_iconst (v := (1 : Int32)) hx hb dX1_goodOrdersFrom_90 (by decide) ?_
            refine lv_iadd hx hb dX1_goodOrdersFrom_91 ?_
            refine lv_iload_n hx hb dX1_goodOrdersFrom_92 rfl (lv_at hl 2 rfl) ?_
            refine lv_iconst (v := (1 : Int32)) hx hb dX1_goodOrdersFrom_93 (by decide) ?_
            refine lv_iload hx hb dX1_goodOrdersFrom_94 (lv_at hl 5 rfl) ?_
            refine lv_ishl hx hb dX1_goodOrdersFrom_96 ?_
            refine lv_ior hx hb dX1_goodOrdersFrom_97 ?_
            have hFc := fr_self hD hS hA
            refine gv_i (va_runV (As := [.int (x1 + (1 : Int32)), .int (x2 ||| ((1 : Int32) <<< (x5 &&& 31)))]) (rest := [.int x4]) ⟨hx, hb, hml, hown, hts⟩ (hR a S_17 H.size (x1 + (1 : Int32)) (x2 ||| ((1 : Int32) <<< (x5 &&& 31))) _ h) (cwV 2 hts gX1_goodOrdersFrom_X1_goodOrdersFrom rfl rfl rfl (by decide +kernel) ⟨by show 5 + (1 * d) + 1 ≤ 5 + (1 * (d + 1)); omega, by show 8 + (6 + 11) + (119 + (25 * d)) ≤ 119 + (25 * (d + 1)); omega⟩) (gv_preV hK hnw hP hD (ci := 1) rfl 0 rfl) rfl rfl hl.1 rfl (lv_room (Nat.le_of_ble_eq_true rfl)) dX1_goodOrdersFrom_98 ⟨Nat.zero_le _, Nat.zero_le _⟩) hS hFc (fun r_20 u_21 H locs h hP1 hD1 hk1 hS => ?_)
            have hP := hP1
            have hD := hD1.weaken (fun _ _ _ z => hFc _ z)
            refine lv_iadd hx hb dX1_goodOrdersFrom_101 ?_
            refine lv_istore (lv' := [(4, .int (x4 + r_20)), (0, .ref (a 0)), (1, .int x1), (2, .int x2), (3, .ref (a (3 + 5 * ((x1 + (1 : Int32)).toNatClampNeg)))), (5, .int x5)]) hx hb dX1_goodOrdersFrom_102 hl (by decide) rfl (fun ls hl => ?_)
            refine lv_iinc (v := (x5 + 1)) (lv' := [(5, .int (x5 + 1)), (4, .int (x4 + r_20)), (0, .ref (a 0)), (1, .int x1), (2, .int x2), (3, .ref (a (3 + 5 * ((x1 + (1 : Int32)).toNatClampNeg))))]) hx hb dX1_goodOrdersFrom_104 hl (k := 5) rfl rfl (by decide) rfl (fun ls hl => ?_)
            refine lv_goto (tgt := 31) hx hb dX1_goodOrdersFrom_107 (by decide) ?_
            exact ih u_21 (x4 + r_20) (x5 + 1) hv_0 H locs ls hP hD hS (lv_sub hl [2, 3, 4, 5, 1, 0] rfl) h
  unfold wp_X1_goodOrdersFrom_b at h
  refine lv_iload_n hx hb dX1_goodOrdersFrom_0 rfl (lv_at hl 1 rfl) ?_
  refine lv_aload_n hx hb dX1_goodOrdersFrom_1 rfl (lv_at hl 0 rfl) ?_
  refine va_get (D := D) (ci := 1) (v := .int (S0.1.1 0)) (C := RX1) (T := TX1) (N := 3) hx hb hts in_Ev hown hK hP 0 rfl rfl 0 (by decide) ln_9 (fun _ h9 => h9) rfl dX1_goodOrdersFrom_2 ?_
  refine lv_icmp_ge (tgt := 14) hx hb dX1_goodOrdersFrom_5 (by decide) (fun c_1 => ?_) (fun c_1 => ?_)
  · have h := h.1 c_1
    refine lv_iconst (v := (1 : Int32)) hx hb dX1_goodOrdersFrom_14 (by decide) ?_
    exact W.iret (v := (1 : Int32)) hx hb hr (fun t ht hW => ⟨⟨(1 : Int32), S0, rfl, h, by rw [ht]; exact hP, va_K.moved hW.alike hK, hD⟩, hS.F ht⟩) hS.2.2 dX1_goodOrdersFrom_15
  · have h := h.2 c_1
    refine lv_iload_n hx hb dX1_goodOrdersFrom_8 rfl (lv_at hl 1 rfl) ?_
    refine lv_bipush (v := (6 : Int32)) hx hb dX1_goodOrdersFrom_9 (by decide) ?_
    refine lv_icmp_lt (tgt := 16) hx hb dX1_goodOrdersFrom_11 (by decide) (fun c_2 => ?_) (fun c_2 => ?_)
    · have h := h.1 c_2
      refine lv_aload_n hx hb dX1_goodOrdersFrom_16 rfl (lv_at hl 0 rfl) ?_
      refine va_get (D := D) (ci := 1) (v := .ref (a 2)) (C := RX1) (T := TX1) (N := 3) hx hb hts in_Ev hown hK hP 0 rfl rfl 2 (by decide) ln_21 (fun _ h9 => h9) rfl dX1_goodOrdersFrom_17 ?_
      refine lv_iload_n hx hb dX1_goodOrdersFrom_20 rfl (lv_at hl 1 rfl) ?_
      refine lv_iconst (v := (1 : Int32)) hx hb dX1_goodOrdersFrom_21 (by decide) ?_
      refine lv_iadd hx hb dX1_goodOrdersFrom_22 ?_
      refine va_aldq (C := RX2) hx hb hK hP 2 1 rfl rfl h.1 dX1_goodOrdersFrom_23 ?_
      have hv_3 := h.1
      have h := h.2
      refine W.eq (g2 := F0 m 24 ls [.ref (a (3 + 5 * ((x1 + (1 : Int32)).toNatClampNeg)))]) rfl ?_
      refine lv_astore_n (lv' := [(3, .ref (a (3 + 5 * ((x1 + (1 : Int32)).toNatClampNeg)))), (0, .ref (a 0)), (1, .int x1), (2, .int x2)]) hx hb dX1_goodOrdersFrom_24 rfl hl (by decide) rfl (fun ls hl => ?_)
      refine lv_iconst (v := (0 : Int32)) hx hb dX1_goodOrdersFrom_25 (by decide) ?_
      refine lv_istore (lv' := [(4, .int (0 : Int32)), (3, .ref (a (3 + 5 * ((x1 + (1 : Int32)).toNatClampNeg)))), (0, .ref (a 0)), (1, .int x1), (2, .int x2)]) hx hb dX1_goodOrdersFrom_26 hl (by decide) rfl (fun ls hl => ?_)
      refine lv_iconst (v := (0 : Int32)) hx hb dX1_goodOrdersFrom_28 (by decide) ?_
      refine lv_istore (lv' := [(5, .int (0 : Int32)), (4, .int (0 : Int32)), (3, .ref (a (3 + 5 * ((x1 + (1 : Int32)).toNatClampNeg)))), (0, .ref (a 0)), (1, .int x1), (2, .int x2)]) hx hb dX1_goodOrdersFrom_29 hl (by decide) rfl (fun ls hl => ?_)
      obtain ⟨n_22, h⟩ := h
      exact L_31 n_22 S0 (0 : Int32) (0 : Int32) hv_3 H locs ls hP hD hS (lv_sub hl [3, 4, 5, 2, 1, 0] rfl) h
    · have h := h.2 c_2
      refine lv_iconst (v := (1 : Int32)) hx hb dX1_goodOrdersFrom_14 (by decide) ?_
      exact W.iret (v := (1 : Int32)) hx hb hr (fun t ht hW => ⟨⟨(1 : Int32), S0, rfl, h, by rw [ht]; exact hP, va_K.moved hW.alike hK, hD⟩, hS.F ht⟩) hS.2.2 dX1_goodOrdersFrom_15
theorem c_X1_goodOrdersFrom (l : Launch) (D : va_G) (k : Nat → ClassId) : ∀ (d : Nat) (a : Nat → Nat) (S0 : St × (Nat → St)) (sz : Nat) (x1 : Int32) (x2 : Int32) (Q : Int32 → (St × (Nat → St)) → Prop), wp_X1_goodOrdersFrom d S0 x1 x2 Q → Met l yX1_goodOrdersFrom wsX1_goodOrdersFrom (rmX1_goodOrdersFrom d) (cPc D k (wEv k a S0) [.ref (a 0), .int x1, .int x2] sz) (va_Qi (fun (r : Int32) (u : (St × (Nat → St))) => Q r u) (cB D k (va_A (wEv k a S0) sz) (fun u : (St × (Nat → St)) => wEv k a u)) (va_A (wEv k a S0) sz)) 0 0 (va_A (wEv k a S0) sz) := by
  intro d
  induction d with
  | zero => intro a S0 sz x1 x2 Q h; exact absurd h (by unfold wp_X1_goodOrdersFrom; exact id)
  | succ d ih => intro a S0 sz x1 x2 Q h; exact c_X1_goodOrdersFrom_b l D k d (wp_X1_goodOrdersFrom d) ih a S0 sz x1 x2 Q (by unfold wp_X1_goodOrdersFrom at h; exact h)
/-! X1_goodOrders -/
def wp_X1_goodOrders (S0 : St × (Nat → St)) (S1 : St) (Q : Int32 → (St × (Nat → St)) → St → Prop) : Prop := wp_X2_copyFrom (S0.2 0) S1 (fun u_2 u_3 => ∀ S_5, S_5 = (S0.1, va_up S0.2 0 u_2) → (wp_X1_goodOrdersFrom 8 S_5 (0 : Int32) (0 : Int32) (fun r_7 u_8 => Q r_7 u_8 u_3)))
abbrev rmX1_goodOrders : Room := { frames := 14, cells := 0, slots := 0, locals := 344 }
set_option maxRecDepth 100000 in
set_option maxHeartbeats 4000000 in
theorem c_X1_goodOrders (l : Launch) (D : va_G) (k : Nat → ClassId) (a : Nat → Nat) (b : Nat → Nat) (S0 : St × (Nat → St)) (S1 : St) (sz : Nat) (Q : Int32 → (St × (Nat → St)) → St → Prop) (h : wp_X1_goodOrders S0 S1 Q) : Met l yX1_goodOrders wsX1_goodOrders rmX1_goodOrders (cPc D k (wEv k a S0 ++ wFl k b S1) [.ref (a 0), .ref (b 0)] sz) (va_Qi (fun (r : Int32) (u : (St × (Nat → St)) × St) => Q r u.1 u.2) (cB D k (va_A (wEv k a S0 ++ wFl k b S1) sz) (fun u : (St × (Nat → St)) × St => wEv k a u.1 ++ wFl k b u.2)) (va_A (wEv k a S0 ++ wFl k b S1) sz)) 0 0 (va_A (wEv k a S0 ++ wFl k b S1) sz) := by
  refine ct_entry (cc := cX1_goodOrders) (maxL := 2) (ret := (some .int)) (Rn := RX1) (Qc := fun A => (va_Qi (fun (r : Int32) (u : (St × (Nat → St)) × St) => Q r u.1 u.2) (cB D k A (fun u : (St × (Nat → St)) × St => wEv k a u.1 ++ wFl k b u.2)) A)) (by decide) rfl rfl (Nat.le_of_ble_eq_true rfl) ?_
  intro p e s m below meth c hx hb hr hlocks hml hts hown hnw hK A hA H locs hP hD hS ls hl
  have hl : lv_has ls 2 [(0, .ref (a 0)), (1, .ref (b 0))] := hl
  have ln_21 := hts (.fieldLink RX1 21 "WithTheSameOne$Evening" "minds" "[LWithTheSameOne$Floor;") (by decide +kernel)
  have in_Ev : ∀ w ∈ wsX10, w ∈ wsX1_goodOrders := fun _ h => List.mem_cons_of_mem _ (List.mem_append_left _ (List.mem_append_right _ h))
  unfold wp_X1_goodOrders at h
  refine lv_aload_n hx hb dX1_goodOrders_0 rfl (lv_at hl 0 rfl) ?_
  refine va_get (D := D) (ci := 1) (v := .ref (a 2)) (C := RX1) (T := TX1) (N := 3) hx hb hts in_Ev hown hK hP 0 rfl rfl 2 (by decide) ln_21 (fun _ h9 => h9) rfl dX1_goodOrders_1 ?_
  refine lv_iconst (v := (0 : Int32)) hx hb dX1_goodOrders_4 (by decide) ?_
  refine va_aldq (C := RX2) hx hb hK hP 2 1 rfl rfl (vp0 (by decide)) dX1_goodOrders_5 ?_
  refine W.eq (g2 := F0 m 6 ls [.ref (a 3)]) rfl ?_
  refine lv_aload_n hx hb dX1_goodOrders_6 rfl (lv_at hl 1 rfl) ?_
  have hPc := fc1_P hP
  have hDc := fc1_D hD
  have hFc := fr_self hDc hS hA
  refine gv_v (va_runV (As := [.ref (b 0)]) (rest := []) ⟨hx, hb, hml, hown, hts⟩ (c_X2_copyFrom l D k (sh a 3) b (S0.2 0) S1 H.size _ h) (cwV 1 hts gX1_goodOrders_X2_copyFrom rfl rfl rfl (by decide +kernel) ⟨Nat.le_of_ble_eq_true rfl, Nat.le_of_ble_eq_true rfl⟩) (gv_preV hK hnw hPc hDc (ci := 2) rfl 0 rfl) rfl rfl hl.1 rfl (lv_room (Nat.le_of_ble_eq_true rfl)) dX1_goodOrders_7 ⟨Nat.zero_le _, Nat.zero_le _⟩) hS hFc (fun w_4 H locs h hP1 hD1 hk1 hS => ?_)
  obtain ⟨u_2, u_3⟩ := w_4
  obtain ⟨hP, hD⟩ := fc1_J hP hD hk1 hFc hP1 hD1
  obtain ⟨S_5, e_6⟩ : ∃ z : St × (Nat → St), z = (S0.1, va_up S0.2 0 u_2) := ⟨_, rfl⟩
  have h := h S_5 e_6
  have hP : va_P D vwCl (wEv k a S_5 ++ wFl k b u_3) H := by rw [e_6]; exact hP
  have hD : va_D A (wEv k a S_5 ++ wFl k b u_3) := by rw [e_6]; exact hD
  refine lv_aload_n hx hb dX1_goodOrders_10 rfl (lv_at hl 0 rfl) ?_
  refine lv_iconst (v := (0 : Int32)) hx hb dX1_goodOrders_11 (by decide) ?_
  refine lv_iconst (v := (0 : Int32)) hx hb dX1_goodOrders_12 (by decide) ?_
  have hPc := fc5_P hP
  have hDc := fc5_D hD
  have hFc := fr_self hDc hS hA
  refine gv_i (va_runV (As := [.int (0 : Int32), .int (0 : Int32)]) (rest := []) ⟨hx, hb, hml, hown, hts⟩ (c_X1_goodOrdersFrom l D k 8 a S_5 H.size (0 : Int32) (0 : Int32) _ h) (cwV 2 hts gX1_goodOrders_X1_goodOrdersFrom rfl rfl rfl (by decide +kernel) ⟨Nat.le_of_ble_eq_true rfl, Nat.le_of_ble_eq_true rfl⟩) (gv_preV hK hnw hPc hDc (ci := 1) rfl 0 rfl) rfl rfl hl.1 rfl (lv_room (Nat.le_of_ble_eq_true rfl)) dX1_goodOrders_13 ⟨Nat.zero_le _, Nat.zero_le _⟩) hS hFc (fun r_7 u_8 H locs h hP1 hD1 hk1 hS => ?_)
  obtain ⟨hP, hD⟩ := fc5_J hP hD hk1 hFc hP1 hD1
  exact W.iret (v := r_7) hx hb hr (fun t ht hW => ⟨⟨r_7, (u_8, u_3), rfl, h, by rw [ht]; exact hP, va_K.moved hW.alike hK, hD⟩, hS.F ht⟩) hS.2.2 dX1_goodOrders_16
/-! X2_pairsDanced -/
def wp_X2_pairsDanced_4 (Q : Int32 → St → Prop) : Nat → St → Int32 → Int32 → Prop
  | 0, _, _, _ => False
  | n + 1, S0, x1, x2 => (((S0.1 0) ≤ x2) → (Q (x1 / (2 : Int32)) S0)) ∧ ((¬ (S0.1 0) ≤ x2) → (vp_in x2 8 ∧ (wp_J6_bitCount_0f7a4 (S0.2 5 x2.toNatClampNeg) (fun r_2 => wp_X2_pairsDanced_4 Q n S0 (x1 + r_2) (x2 + 1)))))
def wp_X2_pairsDanced (S0 : St) (Q : Int32 → St → Prop) : Prop := ∃ i, wp_X2_pairsDanced_4 Q i S0 (0 : Int32) (0 : Int32)
abbrev rmX2_pairsDanced : Room := { frames := 1, cells := 0, slots := 0, locals := 20 }
set_option maxRecDepth 100000 in
set_option maxHeartbeats 4000000 in
theorem c_X2_pairsDanced (l : Launch) (D : va_G) (k : Nat → ClassId) (a : Nat → Nat) (S0 : St) (sz : Nat) (Q : Int32 → St → Prop) (h : wp_X2_pairsDanced S0 Q) : Met l yX2_pairsDanced wsX2_pairsDanced rmX2_pairsDanced (cPc D k (wFl k a S0) [.ref (a 0)] sz) (va_Qi (fun (r : Int32) (u : St) => Q r u) (cB D k (va_A (wFl k a S0) sz) (fun u : St => wFl k a u)) (va_A (wFl k a S0) sz)) 0 0 (va_A (wFl k a S0) sz) := by
  refine ct_entry (cc := cX2_pairsDanced) (maxL := 3) (ret := (some .int)) (Rn := RX2) (Qc := fun A => (va_Qi (fun (r : Int32) (u : St) => Q r u) (cB D k A (fun u : St => wFl k a u)) A)) (by decide) rfl rfl (Nat.le_of_ble_eq_true rfl) ?_
  intro p e s m below meth c hx hb hr hlocks hml hts hown hnw hK A hA H locs hP hD hS ls hl
  have hl : lv_has ls 3 [(0, .ref (a 0))] := hl
  have ln_28 := hts (.fieldLink RX2 28 "WithTheSameOne$Floor" "partners" "[I") (by decide +kernel)
  have ln_9 := hts (.fieldLink RX2 9 "WithTheSameOne$Floor" "size" "I") (by decide +kernel)
  have in_Fl : ∀ w ∈ wsX20, w ∈ wsX2_pairsDanced := fun _ h => List.mem_cons_of_mem _ (List.mem_append_right _ h)
  have L_4 : ∀ (n : Nat), ∀ (S0 : St) (x1 : Int32) (x2 : Int32), ∀ (H : Heap) (locs : List Loc) (ls : Array Slot), va_P D vwCl (wFl k a S0) H → va_D A (wFl k a S0) → va_S A s.heap H locs → lv_has ls 3 [(0, .ref (a 0)), (1, .int x1), (2, .int x2)] → wp_X2_pairsDanced_4 Q n S0 x1 x2 → W p l e rmX2_pairsDanced s m ([.ref (a 0)] : List Value).toArray below meth c H locs 0 0 (MQ below (va_Qi (fun (r : Int32) (u : St) => Q r u) (cB D k A (fun u : St => wFl k a u)) A) ([.ref (a 0)] : List Value).toArray s 0 0 A) (F0 m 4 ls []) := by
    intro n
    induction n with
    | zero => intro S0 x1 x2 H locs ls hP hD hS hl h; exact absurd h (by unfold wp_X2_pairsDanced_4; exact id)
    | succ n ih =>
      intro S0 x1 x2 H locs ls hP hD hS hl h
      unfold wp_X2_pairsDanced_4 at h
      refine lv_iload_n hx hb dX2_pairsDanced_4 rfl (lv_at hl 2 rfl) ?_
      refine lv_aload_n hx hb dX2_pairsDanced_5 rfl (lv_at hl 0 rfl) ?_
      refine va_get (D := D) (ci := 2) (v := .int (S0.1 0)) (C := RX2) (T := TX2) (N := 6) hx hb hts in_Fl hown hK hP 0 rfl rfl 0 (by decide) ln_9 (fun _ h9 => h9) rfl dX2_pairsDanced_6 ?_
      refine lv_icmp_ge (tgt := 30) hx hb dX2_pairsDanced_9 (by decide) (fun c_1 => ?_) (fun c_1 => ?_)
      · have h := h.1 c_1
        refine lv_iload_n hx hb dX2_pairsDanced_30 rfl (lv_at hl 1 rfl) ?_
        refine lv_iconst (v := (2 : Int32)) hx hb dX2_pairsDanced_31 (by decide) ?_
        refine lv_idiv hx hb dX2_pairsDanced_32 (by decide) ?_
        exact W.iret (v := (x1 / (2 : Int32))) hx hb hr (fun t ht hW => ⟨⟨(x1 / (2 : Int32)), S0, rfl, h, by rw [ht]; exact hP, va_K.moved hW.alike hK, hD⟩, hS.F ht⟩) hS.2.2 dX2_pairsDanced_33
      · have h := h.2 c_1
        refine lv_iload_n hx hb dX2_pairsDanced_12 rfl (lv_at hl 1 rfl) ?_
        refine lv_aload_n hx hb dX2_pairsDanced_13 rfl (lv_at hl 0 rfl) ?_
        refine va_get (D := D) (ci := 2) (v := .ref (a 4)) (C := RX2) (T := TX2) (N := 6) hx hb hts in_Fl hown hK hP 0 rfl rfl 5 (by decide) ln_28 (fun _ h9 => h9) rfl dX2_pairsDanced_14 ?_
        refine lv_iload_n hx hb dX2_pairsDanced_17 rfl (lv_at hl 2 rfl) ?_
        refine va_iald hx hb hK hP 4 0 rfl rfl h.1 dX2_pairsDanced_18 ?_
        have h := h.2
        refine gs_i (va_runS (As := [.int (S0.2 5 x2.toNatClampNeg)]) (rest := [.int x1]) ⟨hx, hb, hml, hown, hts⟩ (c_J6_bitCount_0f7a4 l (S0.2 5 x2.toNatClampNeg) _ h) (va_cwS 1 hts gX2_pairsDanced_J6_bitCount_0f7a4 rfl rfl rfl (by decide +kernel) ⟨Nat.le_of_ble_eq_true rfl, Nat.le_of_ble_eq_true rfl⟩) preEq rfl rfl hl.1 rfl (lv_room (Nat.le_of_ble_eq_true rfl)) dX2_pairsDanced_19 ⟨Nat.zero_le _, Nat.zero_le _⟩) (fun r_2 h => ?_)
        refine lv_iadd hx hb dX2_pairsDanced_22 ?_
        refine lv_istore_n (lv' := [(1, .int (x1 + r_2)), (0, .ref (a 0)), (2, .int x2)]) hx hb dX2_pairsDanced_23 rfl hl (by decide) rfl (fun ls hl => ?_)
        refine lv_iinc (v := (x2 + 1)) (lv' := [(2, .int (x2 + 1)), (1, .int (x1 + r_2)), (0, .ref (a 0))]) hx hb dX2_pairsDanced_24 hl (k := 2) rfl rfl (by decide) rfl (fun ls hl => ?_)
        refine lv_goto (tgt := 4) hx hb dX2_pairsDanced_27 (by decide) ?_
        exact ih S0 (x1 + r_2) (x2 + 1) H locs ls hP hD hS (lv_sub hl [2, 1, 0] rfl) h
  unfold wp_X2_pairsDanced at h
  refine lv_iconst (v := (0 : Int32)) hx hb dX2_pairsDanced_0 (by decide) ?_
  refine lv_istore_n (lv' := [(1, .int (0 : Int32)), (0, .ref (a 0))]) hx hb dX2_pairsDanced_1 rfl hl (by decide) rfl (fun ls hl => ?_)
  refine lv_iconst (v := (0 : Int32)) hx hb dX2_pairsDanced_2 (by decide) ?_
  refine lv_istore_n (lv' := [(2, .int (0 : Int32)), (1, .int (0 : Int32)), (0, .ref (a 0))]) hx hb dX2_pairsDanced_3 rfl hl (by decide) rfl (fun ls hl => ?_)
  obtain ⟨n_3, h⟩ := h
  exact L_4 n_3 S0 (0 : Int32) (0 : Int32) H locs ls hP hD hS (lv_sub hl [2, 1, 0] rfl) h
/-! X1_nextSeed -/
def wp_X1_nextSeed (x0 : Int32) (Q : Int32 → Prop) : Prop := Q ((x0 * (1103515245 : Int32)) + (12345 : Int32))
abbrev rmX1_nextSeed : Room := { frames := 0, cells := 0, slots := 0, locals := 0 }
set_option maxRecDepth 100000 in
set_option maxHeartbeats 4000000 in
theorem c_X1_nextSeed (l : Launch) (x0 : Int32) (Q : Int32 → Prop) (h : wp_X1_nextSeed x0 Q) : Met l yX1_nextSeed wsX1_nextSeed rmX1_nextSeed (fun v _ => v = ([.int x0] : List Value).toArray) (vp_Si Q) 0 0 (fun _ => False) := by
  refine cs_entry (cc := cX1_nextSeed) (maxL := 1) (ret := (some .int)) (Rn := RX1) (by decide) rfl rfl (Nat.le_of_ble_eq_true rfl) ?_
  intro p e s m below meth c hx hb hr hlocks hml hts hown ls hl
  have hl : lv_has ls 1 [(0, .int x0)] := hl
  have lc_83 := hts (.constant RX1 83 (1103515245)) (by decide +kernel)
  unfold wp_X1_nextSeed at h
  refine lv_iload_n hx hb dX1_nextSeed_0 rfl (lv_at hl 0 rfl) ?_
  refine lv_ldc (v := (1103515245 : Int32)) hx hb hown lc_83 dX1_nextSeed_1 ?_
  refine lv_imul hx hb dX1_nextSeed_3 ?_
  refine lv_sipush (v := (12345 : Int32)) hx hb dX1_nextSeed_4 (by decide) ?_
  refine lv_iadd hx hb dX1_nextSeed_7 ?_
  exact W.iret (v := ((x0 * (1103515245 : Int32)) + (12345 : Int32))) hx hb hr (fun t ht hW => ⟨((x0 * (1103515245 : Int32)) + (12345 : Int32)), rfl, h, ht⟩) (fun q hq => by cases hq) dX1_nextSeed_8
/-! X1_drawBelow -/
def wp_X1_drawBelow (x0 : Int32) (x1 : Int32) (Q : Int32 → Prop) : Prop := (((1 : Int32) ≤ x0) → ((¬ x0 = 0) ∧ (Q (((x1 &&& (2147483647 : Int32)) / (65536 : Int32)) - ((x1 &&& (2147483647 : Int32)) / (65536 : Int32)) / x0 * x0)))) ∧ ((¬ (1 : Int32) ≤ x0) → (Q (0 : Int32)))
abbrev rmX1_drawBelow : Room := { frames := 0, cells := 0, slots := 0, locals := 0 }
set_option maxRecDepth 100000 in
set_option maxHeartbeats 4000000 in
theorem c_X1_drawBelow (l : Launch) (x0 : Int32) (x1 : Int32) (Q : Int32 → Prop) (h : wp_X1_drawBelow x0 x1 Q) : Met l yX1_drawBelow wsX1_drawBelow rmX1_drawBelow (fun v _ => v = ([.int x0, .int x1] : List Value).toArray) (vp_Si Q) 0 0 (fun _ => False) := by
  refine cs_entry (cc := cX1_drawBelow) (maxL := 2) (ret := (some .int)) (Rn := RX1) (by decide) rfl rfl (Nat.le_of_ble_eq_true rfl) ?_
  intro p e s m below meth c hx hb hr hlocks hml hts hown ls hl
  have hl : lv_has ls 2 [(0, .int x0), (1, .int x1)] := hl
  have lc_84 := hts (.constant RX1 84 (2147483647)) (by decide +kernel)
  have lc_85 := hts (.constant RX1 85 (65536)) (by decide +kernel)
  unfold wp_X1_drawBelow at h
  refine lv_iload_n hx hb dX1_drawBelow_0 rfl (lv_at hl 0 rfl) ?_
  refine lv_iconst (v := (1 : Int32)) hx hb dX1_drawBelow_1 (by decide) ?_
  refine lv_icmp_ge (tgt := 9) hx hb dX1_drawBelow_2 (by decide) (fun c_1 => ?_) (fun c_1 => ?_)
  · have h := h.1 c_1
    refine lv_iload_n hx hb dX1_drawBelow_9 rfl (lv_at hl 1 rfl) ?_
    refine lv_ldc (v := (2147483647 : Int32)) hx hb hown lc_84 dX1_drawBelow_10 ?_
    refine lv_iand hx hb dX1_drawBelow_12 ?_
    refine lv_ldc (v := (65536 : Int32)) hx hb hown lc_85 dX1_drawBelow_13 ?_
    refine lv_idiv hx hb dX1_drawBelow_15 (by decide) ?_
    refine lv_iload_n hx hb dX1_drawBelow_16 rfl (lv_at hl 0 rfl) ?_
    refine lv_irem hx hb dX1_drawBelow_17 h.1 ?_
    have h := h.2
    exact W.iret (v := (((x1 &&& (2147483647 : Int32)) / (65536 : Int32)) - ((x1 &&& (2147483647 : Int32)) / (65536 : Int32)) / x0 * x0)) hx hb hr (fun t ht hW => ⟨(((x1 &&& (2147483647 : Int32)) / (65536 : Int32)) - ((x1 &&& (2147483647 : Int32)) / (65536 : Int32)) / x0 * x0), rfl, h, ht⟩) (fun q hq => by cases hq) dX1_drawBelow_18
  · have h := h.2 c_1
    refine lv_iconst (v := (0 : Int32)) hx hb dX1_drawBelow_5 (by decide) ?_
    refine lv_goto (tgt := 18) hx hb dX1_drawBelow_6 (by decide) ?_
    exact W.iret (v := (0 : Int32)) hx hb hr (fun t ht hW => ⟨(0 : Int32), rfl, h, ht⟩) (fun q hq => by cases hq) dX1_drawBelow_18
/-! X1_pairsBySeed -/
def wp_X1_pairsBySeed_20 (x2 : Int32) (x3 : Int32) (Q : Int32 → (St × (Nat → St)) → St → Prop) : Nat → (St × (Nat → St)) → St → Int32 → Int32 → Prop
  | 0, _, _, _, _ => False
  | n + 1, S0, S1, x5, x6 => ((x2 ≤ x6) → (wp_X2_pairsDanced (S0.2 0) (fun r_8 u_9 => ∀ S_10, S_10 = (S0.1, va_up S0.2 0 u_9) → (Q r_8 S_10 S1)))) ∧ ((¬ x2 ≤ x6) → (wp_X1_nextSeed x5 (fun r_12 => wp_X1_drawBelow ((S0.2 0).1 0) r_12 (fun r_13 => wp_X1_nextSeed r_12 (fun r_14 => wp_X1_drawBelow ((S0.2 0).1 0) r_14 (fun r_15 => wp_X2_stepByLeast (S0.2 0) r_13 r_15 (fun r_16 u_17 => ∀ S_18, S_18 = (S0.1, va_up S0.2 0 u_17) → (wp_X1_pairsBySeed_20 x2 x3 Q n S_18 S1 r_14 (x6 + 1)))))))))
def wp_X1_pairsBySeed (S0 : St × (Nat → St)) (S1 : St) (x2 : Int32) (x3 : Int32) (Q : Int32 → (St × (Nat → St)) → St → Prop) : Prop := wp_X2_copyFrom (S0.2 0) S1 (fun u_2 u_3 => ∀ S_5, S_5 = (S0.1, va_up S0.2 0 u_2) → (∃ i, wp_X1_pairsBySeed_20 x2 x3 Q i S_5 u_3 x3 (0 : Int32)))
abbrev rmX1_pairsBySeed : Room := { frames := 5, cells := 0, slots := 0, locals := 119 }
set_option maxRecDepth 100000 in
set_option maxHeartbeats 4000000 in
theorem c_X1_pairsBySeed (l : Launch) (D : va_G) (k : Nat → ClassId) (a : Nat → Nat) (b : Nat → Nat) (S0 : St × (Nat → St)) (S1 : St) (sz : Nat) (x2 : Int32) (x3 : Int32) (Q : Int32 → (St × (Nat → St)) → St → Prop) (h : wp_X1_pairsBySeed S0 S1 x2 x3 Q) : Met l yX1_pairsBySeed wsX1_pairsBySeed rmX1_pairsBySeed (cPc D k (wEv k a S0 ++ wFl k b S1) [.ref (a 0), .ref (b 0), .int x2, .int x3] sz) (va_Qi (fun (r : Int32) (u : (St × (Nat → St)) × St) => Q r u.1 u.2) (cB D k (va_A (wEv k a S0 ++ wFl k b S1) sz) (fun u : (St × (Nat → St)) × St => wEv k a u.1 ++ wFl k b u.2)) (va_A (wEv k a S0 ++ wFl k b S1) sz)) 0 0 (va_A (wEv k a S0 ++ wFl k b S1) sz) := by
  refine ct_entry (cc := cX1_pairsBySeed) (maxL := 9) (ret := (some .int)) (Rn := RX1) (Qc := fun A => (va_Qi (fun (r : Int32) (u : (St × (Nat → St)) × St) => Q r u.1 u.2) (cB D k A (fun u : (St × (Nat → St)) × St => wEv k a u.1 ++ wFl k b u.2)) A)) (by decide) rfl rfl (Nat.le_of_ble_eq_true rfl) ?_
  intro p e s m below meth c hx hb hr hlocks hml hts hown hnw hK A hA H locs hP hD hS ls hl
  have hl : lv_has ls 9 [(0, .ref (a 0)), (1, .ref (b 0)), (2, .int x2), (3, .int x3)] := hl
  have ln_21 := hts (.fieldLink RX1 21 "WithTheSameOne$Evening" "minds" "[LWithTheSameOne$Floor;") (by decide +kernel)
  have ln_75 := hts (.fieldLink RX1 75 "WithTheSameOne$Floor" "size" "I") (by decide +kernel)
  have in_Ev : ∀ w ∈ wsX10, w ∈ wsX1_pairsBySeed := fun _ h => List.mem_cons_of_mem _ (List.mem_append_left _ (List.mem_append_right _ h))
  have in_Fl : ∀ w ∈ wsX20, w ∈ wsX1_pairsBySeed := fun _ h => List.mem_cons_of_mem _ (List.mem_append_right _ h)
  have L_20 : ∀ (n : Nat), ∀ (S0 : St × (Nat → St)) (S1 : St) (x5 : Int32) (x6 : Int32), ∀ (H : Heap) (locs : List Loc) (ls : Array Slot), va_P D vwCl (wEv k a S0 ++ wFl k b S1) H → va_D A (wEv k a S0 ++ wFl k b S1) → va_S A s.heap H locs → lv_has ls 9 [(2, .int x2), (4, .ref (a 3)), (5, .int x5), (6, .int x6)] → wp_X1_pairsBySeed_20 x2 x3 Q n S0 S1 x5 x6 → W p l e rmX1_pairsBySeed s m ([.ref (a 0), .ref (b 0), .int x2, .int x3] : List Value).toArray below meth c H locs 0 0 (MQ below (va_Qi (fun (r : Int32) (u : (St × (Nat → St)) × St) => Q r u.1 u.2) (cB D k A (fun u : (St × (Nat → St)) × St => wEv k a u.1 ++ wFl k b u.2)) A) ([.ref (a 0), .ref (b 0), .int x2, .int x3] : List Value).toArray s 0 0 A) (F0 m 20 ls []) := by
    intro n
    induction n with
    | zero => intro S0 S1 x5 x6 H locs ls hP hD hS hl h; exact absurd h (by unfold wp_X1_pairsBySeed_20; exact id)
    | succ n ih =>
      intro S0 S1 x5 x6 H locs ls hP hD hS hl h
      unfold wp_X1_pairsBySeed_20 at h
      refine lv_iload hx hb dX1_pairsBySeed_20 (lv_at hl 3 rfl) ?_
      refine lv_iload_n hx hb dX1_pairsBySeed_22 rfl (lv_at hl 0 rfl) ?_
      refine lv_icmp_ge (tgt := 80) hx hb dX1_pairsBySeed_23 (by decide) (fun c_7 => ?_) (fun c_7 => ?_)
      · have h := h.1 c_7
        refine lv_aload hx hb dX1_pairsBySeed_80 (lv_at hl 1 rfl) ?_
        have hPc := fc2_P hP
        have hDc := fc2_D hD
        have hFc := fr_self hDc hS hA
        refine gv_i (va_runV (As := []) (rest := []) ⟨hx, hb, hml, hown, hts⟩ (c_X2_pairsDanced l D k (sh a 3) (S0.2 0) H.size _ h) (cwV 0 hts gX1_pairsBySeed_X2_pairsDanced rfl rfl rfl (by decide +kernel) ⟨Nat.le_of_ble_eq_true rfl, Nat.le_of_ble_eq_true rfl⟩) (gv_preV hK hnw hPc hDc (ci := 2) rfl 0 rfl) rfl rfl hl.1 rfl (lv_room (Nat.le_of_ble_eq_true rfl)) dX1_pairsBySeed_82 ⟨Nat.zero_le _, Nat.zero_le _⟩) hS hFc (fun r_8 u_9 H locs h hP1 hD1 hk1 hS => ?_)
        obtain ⟨hP, hD⟩ := fc2_J hP hD hk1 hFc hP1 hD1
        obtain ⟨S_10, e_11⟩ : ∃ z : St × (Nat → St), z = (S0.1, va_up S0.2 0 u_9) := ⟨_, rfl⟩
        have h := h S_10 e_11
        have hP : va_P D vwCl (wEv k a S_10 ++ wFl k b S1) H := by rw [e_11]; exact hP
        have hD : va_D A (wEv k a S_10 ++ wFl k b S1) := by rw [e_11]; exact hD
        exact W.iret (v := r_8) hx hb hr (fun t ht hW => ⟨⟨r_8, (S_10, S1), rfl, h, by rw [ht]; exact hP, va_K.moved hW.alike hK, hD⟩, hS.F ht⟩) hS.2.2 dX1_pairsBySeed_85
      · have h := h.2 c_7
        refine lv_iload hx hb dX1_pairsBySeed_26 (lv_at hl 2 rfl) ?_
        refine gs_i (va_runS (As := [.int x5]) (rest := []) ⟨hx, hb, hml, hown, hts⟩ (c_X1_nextSeed l x5 _ h) (va_cwS 1 hts gX1_pairsBySeed_X1_nextSeed rfl rfl rfl (by decide +kernel) ⟨Nat.le_of_ble_eq_true rfl, Nat.le_of_ble_eq_true rfl⟩) preEq rfl rfl hl.1 rfl (lv_room (Nat.le_of_ble_eq_true rfl)) dX1_pairsBySeed_28 ⟨Nat.zero_le _, Nat.zero_le _⟩) (fun r_12 h => ?_)
        refine lv_istore (lv' := [(5, .int r_12), (2, .int x2), (4, .ref (a 3)), (6, .int x6)]) hx hb dX1_pairsBySeed_31 hl (by decide) rfl (fun ls hl => ?_)
        refine lv_aload hx hb dX1_pairsBySeed_33 (lv_at hl 2 rfl) ?_
        refine va_get (D := D) (ci := 2) (v := .int ((S0.2 0).1 0)) (C := RX2) (T := TX2) (N := 6) hx hb hts in_Fl hown hK hP 3 rfl rfl 0 (by decide) ln_75 (fun _ h9 => h9) rfl dX1_pairsBySeed_35 ?_
        refine lv_iload hx hb dX1_pairsBySeed_38 (lv_at hl 0 rfl) ?_
        refine gs_i (va_runS (As := [.int ((S0.2 0).1 0), .int r_12]) (rest := []) ⟨hx, hb, hml, hown, hts⟩ (c_X1_drawBelow l ((S0.2 0).1 0) r_12 _ h) (va_cwS 2 hts gX1_pairsBySeed_X1_drawBelow rfl rfl rfl (by decide +kernel) ⟨Nat.le_of_ble_eq_true rfl, Nat.le_of_ble_eq_true rfl⟩) preEq rfl rfl hl.1 rfl (lv_room (Nat.le_of_ble_eq_true rfl)) dX1_pairsBySeed_40 ⟨Nat.zero_le _, Nat.zero_le _⟩) (fun r_13 h => ?_)
        refine lv_istore (lv' := [(7, .int r_13), (5, .int r_12), (2, .int x2), (4, .ref (a 3)), (6, .int x6)]) hx hb dX1_pairsBySeed_43 hl (by decide) rfl (fun ls hl => ?_)
        refine lv_iload hx hb dX1_pairsBySeed_45 (lv_at hl 1 rfl) ?_
        refine gs_i (va_runS (As := [.int r_12]) (rest := []) ⟨hx, hb, hml, hown, hts⟩ (c_X1_nextSeed l r_12 _ h) (va_cwS 1 hts gX1_pairsBySeed_X1_nextSeed rfl rfl rfl (by decide +kernel) ⟨Nat.le_of_ble_eq_true rfl, Nat.le_of_ble_eq_true rfl⟩) preEq rfl rfl hl.1 rfl (lv_room (Nat.le_of_ble_eq_true rfl)) dX1_pairsBySeed_47 ⟨Nat.zero_le _, Nat.zero_le _⟩) (fun r_14 h => ?_)
        refine lv_istore (lv' := [(5, .int r_14), (7, .int r_13), (2, .int x2), (4, .ref (a 3)), (6, .int x6)]) hx hb dX1_pairsBySeed_50 hl (by decide) rfl (fun ls hl => ?_)
        refine lv_aload hx hb dX1_pairsBySeed_52 (lv_at hl 3 rfl) ?_
        refine va_get (D := D) (ci := 2) (v := .int ((S0.2 0).1 0)) (C := RX2) (T := TX2) (N := 6) hx hb hts in_Fl hown hK hP 3 rfl rfl 0 (by decide) ln_75 (fun _ h9 => h9) rfl dX1_pairsBySeed_54 ?_
        refine lv_iload hx hb dX1_pairsBySeed_57 (lv_at hl 0 rfl) ?_
        refine gs_i (va_runS (As := [.int ((S0.2 0).1 0), .int r_14]) (rest := []) ⟨hx, hb, hml, hown, hts⟩ (c_X1_drawBelow l ((S0.2 0).1 0) r_14 _ h) (va_cwS 2 hts gX1_pairsBySeed_X1_drawBelow rfl rfl rfl (by decide +kernel) ⟨Nat.le_of_ble_eq_true rfl, Nat.le_of_ble_eq_true rfl⟩) preEq rfl rfl hl.1 rfl (lv_room (Nat.le_of_ble_eq_true rfl)) dX1_pairsBySeed_59 ⟨Nat.zero_le _, Nat.zero_le _⟩) (fun r_15 h => ?_)
        refine lv_istore (lv' := [(8, .int r_15), (5, .int r_14), (7, .int r_13), (2, .int x2), (4, .ref (a 3)), (6, .int x6)]) hx hb dX1_pairsBySeed_62 hl (by decide) rfl (fun ls hl => ?_)
        refine lv_aload hx hb dX1_pairsBySeed_64 (lv_at hl 4 rfl) ?_
        refine lv_iload hx hb dX1_pairsBySeed_66 (lv_at hl 2 rfl) ?_
        refine lv_iload hx hb dX1_pairsBySeed_68 (lv_at hl 0 rfl) ?_
        have hPc := fc2_P hP
        have hDc := fc2_D hD
        have hFc := fr_self hDc hS hA
        refine gv_i (va_runV (As := [.int r_13, .int r_15]) (rest := []) ⟨hx, hb, hml, hown, hts⟩ (c_X2_stepByLeast l D k (sh a 3) (S0.2 0) H.size r_13 r_15 _ h) (cwV 2 hts gX1_pairsBySeed_X2_stepByLeast rfl rfl rfl (by decide +kernel) ⟨Nat.le_of_ble_eq_true rfl, Nat.le_of_ble_eq_true rfl⟩) (gv_preV hK hnw hPc hDc (ci := 2) rfl 0 rfl) rfl rfl hl.1 rfl (lv_room (Nat.le_of_ble_eq_true rfl)) dX1_pairsBySeed_70 ⟨Nat.zero_le _, Nat.zero_le _⟩) hS hFc (fun r_16 u_17 H locs h hP1 hD1 hk1 hS => ?_)
        obtain ⟨hP, hD⟩ := fc2_J hP hD hk1 hFc hP1 hD1
        obtain ⟨S_18, e_19⟩ : ∃ z : St × (Nat → St), z = (S0.1, va_up S0.2 0 u_17) := ⟨_, rfl⟩
        have h := h S_18 e_19
        have hP : va_P D vwCl (wEv k a S_18 ++ wFl k b S1) H := by rw [e_19]; exact hP
        have hD : va_D A (wEv k a S_18 ++ wFl k b S1) := by rw [e_19]; exact hD
        refine lv_pop hx hb dX1_pairsBySeed_73 rfl ?_
        refine lv_iinc (v := (x6 + 1)) (lv' := [(6, .int (x6 + 1)), (8, .int r_15), (5, .int r_14), (7, .int r_13), (2, .int x2), (4, .ref (a 3))]) hx hb dX1_pairsBySeed_74 hl (k := 5) rfl rfl (by decide) rfl (fun ls hl => ?_)
        refine lv_goto (tgt := 20) hx hb dX1_pairsBySeed_77 (by decide) ?_
        exact ih S_18 S1 r_14 (x6 + 1) H locs ls hP hD hS (lv_sub hl [4, 5, 2, 0] rfl) h
  unfold wp_X1_pairsBySeed at h
  refine lv_aload_n hx hb dX1_pairsBySeed_0 rfl (lv_at hl 0 rfl) ?_
  refine va_get (D := D) (ci := 1) (v := .ref (a 2)) (C := RX1) (T := TX1) (N := 3) hx hb hts in_Ev hown hK hP 0 rfl rfl 2 (by decide) ln_21 (fun _ h9 => h9) rfl dX1_pairsBySeed_1 ?_
  refine lv_iconst (v := (0 : Int32)) hx hb dX1_pairsBySeed_4 (by decide) ?_
  refine va_aldq (C := RX2) hx hb hK hP 2 1 rfl rfl (vp0 (by decide)) dX1_pairsBySeed_5 ?_
  refine W.eq (g2 := F0 m 6 ls [.ref (a 3)]) rfl ?_
  refine lv_astore (lv' := [(4, .ref (a 3)), (0, .ref (a 0)), (1, .ref (b 0)), (2, .int x2), (3, .int x3)]) hx hb dX1_pairsBySeed_6 hl (by decide) rfl (fun ls hl => ?_)
  refine lv_aload hx hb dX1_pairsBySeed_8 (lv_at hl 0 rfl) ?_
  refine lv_aload_n hx hb dX1_pairsBySeed_10 rfl (lv_at hl 2 rfl) ?_
  have hPc := fc1_P hP
  have hDc := fc1_D hD
  have hFc := fr_self hDc hS hA
  refine gv_v (va_runV (As := [.ref (b 0)]) (rest := []) ⟨hx, hb, hml, hown, hts⟩ (c_X2_copyFrom l D k (sh a 3) b (S0.2 0) S1 H.size _ h) (cwV 1 hts gX1_pairsBySeed_X2_copyFrom rfl rfl rfl (by decide +kernel) ⟨Nat.le_of_ble_eq_true rfl, Nat.le_of_ble_eq_true rfl⟩) (gv_preV hK hnw hPc hDc (ci := 2) rfl 0 rfl) rfl rfl hl.1 rfl (lv_room (Nat.le_of_ble_eq_true rfl)) dX1_pairsBySeed_11 ⟨Nat.zero_le _, Nat.zero_le _⟩) hS hFc (fun w_4 H locs h hP1 hD1 hk1 hS => ?_)
  obtain ⟨u_2, u_3⟩ := w_4
  obtain ⟨hP, hD⟩ := fc1_J hP hD hk1 hFc hP1 hD1
  obtain ⟨S_5, e_6⟩ : ∃ z : St × (Nat → St), z = (S0.1, va_up S0.2 0 u_2) := ⟨_, rfl⟩
  have h := h S_5 e_6
  have hP : va_P D vwCl (wEv k a S_5 ++ wFl k b u_3) H := by rw [e_6]; exact hP
  have hD : va_D A (wEv k a S_5 ++ wFl k b u_3) := by rw [e_6]; exact hD
  refine lv_iload_n hx hb dX1_pairsBySeed_14 rfl (lv_at hl 4 rfl) ?_
  refine lv_istore (lv' := [(5, .int x3), (4, .ref (a 3)), (0, .ref (a 0)), (1, .ref (b 0)), (2, .int x2), (3, .int x3)]) hx hb dX1_pairsBySeed_15 hl (by decide) rfl (fun ls hl => ?_)
  refine lv_iconst (v := (0 : Int32)) hx hb dX1_pairsBySeed_17 (by decide) ?_
  refine lv_istore (lv' := [(6, .int (0 : Int32)), (5, .int x3), (4, .ref (a 3)), (0, .ref (a 0)), (1, .ref (b 0)), (2, .int x2), (3, .int x3)]) hx hb dX1_pairsBySeed_18 hl (by decide) rfl (fun ls hl => ?_)
  obtain ⟨n_20, h⟩ := h
  exact L_20 n_20 S_5 u_3 x3 (0 : Int32) H locs ls hP hD hS (lv_sub hl [5, 2, 1, 0] rfl) h
/-! X2_isPair -/
def wp_X2_isPair (S0 : St) (x1 : Int32) (Q : Int32 → St → Prop) : Prop := wp_X6_lesserOf x1 (fun r_1 => wp_X6_greaterOf x1 (fun r_2 => ((r_2 ≤ r_1) → (Q (0 : Int32) S0)) ∧ ((¬ r_2 ≤ r_1) → (wp_X2_areTwo S0 r_1 r_2 (fun r_4 u_5 => ((r_4 = 0) → (Q (0 : Int32) u_5)) ∧ ((¬ r_4 = 0) → (Q (1 : Int32) u_5)))))))
abbrev rmX2_isPair : Room := { frames := 2, cells := 0, slots := 0, locals := 43 }
set_option maxRecDepth 100000 in
set_option maxHeartbeats 4000000 in
theorem c_X2_isPair (l : Launch) (D : va_G) (k : Nat → ClassId) (a : Nat → Nat) (S0 : St) (sz : Nat) (x1 : Int32) (Q : Int32 → St → Prop) (h : wp_X2_isPair S0 x1 Q) : Met l yX2_isPair wsX2_isPair rmX2_isPair (cPc D k (wFl k a S0) [.ref (a 0), .int x1] sz) (va_Qi (fun (r : Int32) (u : St) => Q r u) (cB D k (va_A (wFl k a S0) sz) (fun u : St => wFl k a u)) (va_A (wFl k a S0) sz)) 0 0 (va_A (wFl k a S0) sz) := by
  refine ct_entry (cc := cX2_isPair) (maxL := 4) (ret := (some .boolean)) (Rn := RX2) (Qc := fun A => (va_Qi (fun (r : Int32) (u : St) => Q r u) (cB D k A (fun u : St => wFl k a u)) A)) (by decide) rfl rfl (Nat.le_of_ble_eq_true rfl) ?_
  intro p e s m below meth c hx hb hr hlocks hml hts hown hnw hK A hA H locs hP hD hS ls hl
  have hl : lv_has ls 4 [(0, .ref (a 0)), (1, .int x1)] := hl
  have ni_X6 := hts (.initialized RX6) (by decide +kernel)
  have ns_yX6_greaterOf := hts (.static yX6_greaterOf) (by decide +kernel)
  have ns_yX6_lesserOf := hts (.static yX6_lesserOf) (by decide +kernel)
  unfold wp_X2_isPair at h
  refine lv_iload_n hx hb dX2_isPair_0 rfl (lv_at hl 1 rfl) ?_
  refine gs_i (va_runSN (As := [.int x1]) (rest := []) ⟨hx, hb, hml, hown, hts⟩ (c_X6_lesserOf l x1 _ h) ⟨va_cnB 1 hts gX2_isPair_X6_lesserOf_n35 rfl rfl rfl (hnw.1 _ (List.mem_of_getElem? (i := 4) rfl)) ni_X6 (by decide +kernel) ⟨Nat.le_of_ble_eq_true rfl, Nat.le_of_ble_eq_true rfl⟩, ns_yX6_lesserOf, trivial⟩ preEq rfl rfl hl.1 rfl (lv_room (Nat.le_of_ble_eq_true rfl)) dX2_isPair_1 ⟨Nat.zero_le _, Nat.zero_le _⟩) (fun r_1 h => ?_)
  refine lv_istore_n (lv' := [(2, .int r_1), (0, .ref (a 0)), (1, .int x1)]) hx hb dX2_isPair_4 rfl hl (by decide) rfl (fun ls hl => ?_)
  refine lv_iload_n hx hb dX2_isPair_5 rfl (lv_at hl 2 rfl) ?_
  refine gs_i (va_runSN (As := [.int x1]) (rest := []) ⟨hx, hb, hml, hown, hts⟩ (c_X6_greaterOf l x1 _ h) ⟨va_cnB 1 hts gX2_isPair_X6_greaterOf_n39 rfl rfl rfl (hnw.1 _ (List.mem_of_getElem? (i := 5) rfl)) ni_X6 (by decide +kernel) ⟨Nat.le_of_ble_eq_true rfl, Nat.le_of_ble_eq_true rfl⟩, ns_yX6_greaterOf, trivial⟩ preEq rfl rfl hl.1 rfl (lv_room (Nat.le_of_ble_eq_true rfl)) dX2_isPair_6 ⟨Nat.zero_le _, Nat.zero_le _⟩) (fun r_2 h => ?_)
  refine lv_istore_n (lv' := [(3, .int r_2), (2, .int r_1), (0, .ref (a 0)), (1, .int x1)]) hx hb dX2_isPair_9 rfl hl (by decide) rfl (fun ls hl => ?_)
  refine lv_iload_n hx hb dX2_isPair_10 rfl (lv_at hl 1 rfl) ?_
  refine lv_iload_n hx hb dX2_isPair_11 rfl (lv_at hl 0 rfl) ?_
  refine lv_icmp_ge (tgt := 28) hx hb dX2_isPair_12 (by decide) (fun c_3 => ?_) (fun c_3 => ?_)
  · have h := h.1 c_3
    refine lv_iconst (v := (0 : Int32)) hx hb dX2_isPair_28 (by decide) ?_
    exact W.zret (v := (0 : Int32)) hx hb hr rfl (fun t ht hW => ⟨⟨(0 : Int32), S0, rfl, h, by rw [ht]; exact hP, va_K.moved hW.alike hK, hD⟩, hS.F ht⟩) hS.2.2 dX2_isPair_29
  · have h := h.2 c_3
    refine lv_aload_n hx hb dX2_isPair_15 rfl (lv_at hl 2 rfl) ?_
    refine lv_iload_n hx hb dX2_isPair_16 rfl (lv_at hl 1 rfl) ?_
    refine lv_iload_n hx hb dX2_isPair_17 rfl (lv_at hl 0 rfl) ?_
    have hFc := fr_self hD hS hA
    refine gv_i (va_runV (As := [.int r_1, .int r_2]) (rest := []) ⟨hx, hb, hml, hown, hts⟩ (c_X2_areTwo l D k a S0 H.size r_1 r_2 _ h) (cwV 2 hts gX2_isPair_X2_areTwo rfl rfl rfl (by decide +kernel) ⟨Nat.le_of_ble_eq_true rfl, Nat.le_of_ble_eq_true rfl⟩) (gv_preV hK hnw hP hD (ci := 2) rfl 0 rfl) rfl rfl hl.1 rfl (lv_room (Nat.le_of_ble_eq_true rfl)) dX2_isPair_18 ⟨Nat.zero_le _, Nat.zero_le _⟩) hS hFc (fun r_4 u_5 H locs h hP1 hD1 hk1 hS => ?_)
    have hP := hP1
    have hD := hD1.weaken (fun _ _ _ z => hFc _ z)
    refine lv_if_eq (tgt := 28) hx hb dX2_isPair_21 (by decide) (fun c_6 => ?_) (fun c_6 => ?_)
    · have h := h.1 c_6
      refine lv_iconst (v := (0 : Int32)) hx hb dX2_isPair_28 (by decide) ?_
      exact W.zret (v := (0 : Int32)) hx hb hr rfl (fun t ht hW => ⟨⟨(0 : Int32), u_5, rfl, h, by rw [ht]; exact hP, va_K.moved hW.alike hK, hD⟩, hS.F ht⟩) hS.2.2 dX2_isPair_29
    · have h := h.2 c_6
      refine lv_iconst (v := (1 : Int32)) hx hb dX2_isPair_24 (by decide) ?_
      refine lv_goto (tgt := 29) hx hb dX2_isPair_25 (by decide) ?_
      exact W.zret (v := (1 : Int32)) hx hb hr rfl (fun t ht hW => ⟨⟨(1 : Int32), u_5, rfl, h, by rw [ht]; exact hP, va_K.moved hW.alike hK, hD⟩, hS.F ht⟩) hS.2.2 dX2_isPair_29
/-! X2_isDancedPair -/
def wp_X2_isDancedPair (S0 : St) (x1 : Int32) (Q : Int32 → St → Prop) : Prop := wp_X2_isPair S0 x1 (fun r_1 u_2 => ((r_1 = 0) → (Q (0 : Int32) u_2)) ∧ ((¬ r_1 = 0) → (wp_X6_lesserOf x1 (fun r_4 => wp_X6_greaterOf x1 (fun r_5 => wp_X2_haveDanced u_2 r_4 r_5 (fun r_6 u_7 => ((r_6 = 0) → (Q (0 : Int32) u_7)) ∧ ((¬ r_6 = 0) → (Q (1 : Int32) u_7))))))))
abbrev rmX2_isDancedPair : Room := { frames := 3, cells := 0, slots := 0, locals := 66 }
set_option maxRecDepth 100000 in
set_option maxHeartbeats 4000000 in
theorem c_X2_isDancedPair (l : Launch) (D : va_G) (k : Nat → ClassId) (a : Nat → Nat) (S0 : St) (sz : Nat) (x1 : Int32) (Q : Int32 → St → Prop) (h : wp_X2_isDancedPair S0 x1 Q) : Met l yX2_isDancedPair wsX2_isDancedPair rmX2_isDancedPair (cPc D k (wFl k a S0) [.ref (a 0), .int x1] sz) (va_Qi (fun (r : Int32) (u : St) => Q r u) (cB D k (va_A (wFl k a S0) sz) (fun u : St => wFl k a u)) (va_A (wFl k a S0) sz)) 0 0 (va_A (wFl k a S0) sz) := by
  refine ct_entry (cc := cX2_isDancedPair) (maxL := 2) (ret := (some .boolean)) (Rn := RX2) (Qc := fun A => (va_Qi (fun (r : Int32) (u : St) => Q r u) (cB D k A (fun u : St => wFl k a u)) A)) (by decide) rfl rfl (Nat.le_of_ble_eq_true rfl) ?_
  intro p e s m below meth c hx hb hr hlocks hml hts hown hnw hK A hA H locs hP hD hS ls hl
  have hl : lv_has ls 2 [(0, .ref (a 0)), (1, .int x1)] := hl
  have ni_X6 := hts (.initialized RX6) (by decide +kernel)
  have ns_yX6_greaterOf := hts (.static yX6_greaterOf) (by decide +kernel)
  have ns_yX6_lesserOf := hts (.static yX6_lesserOf) (by decide +kernel)
  unfold wp_X2_isDancedPair at h
  refine lv_aload_n hx hb dX2_isDancedPair_0 rfl (lv_at hl 0 rfl) ?_
  refine lv_iload_n hx hb dX2_isDancedPair_1 rfl (lv_at hl 1 rfl) ?_
  have hFc := fr_self hD hS hA
  refine gv_i (va_runV (As := [.int x1]) (rest := []) ⟨hx, hb, hml, hown, hts⟩ (c_X2_isPair l D k a S0 H.size x1 _ h) (cwV 1 hts gX2_isDancedPair_X2_isPair rfl rfl rfl (by decide +kernel) ⟨Nat.le_of_ble_eq_true rfl, Nat.le_of_ble_eq_true rfl⟩) (gv_preV hK hnw hP hD (ci := 2) rfl 0 rfl) rfl rfl hl.1 rfl (lv_room (Nat.le_of_ble_eq_true rfl)) dX2_isDancedPair_2 ⟨Nat.zero_le _, Nat.zero_le _⟩) hS hFc (fun r_1 u_2 H locs h hP1 hD1 hk1 hS => ?_)
  have hP := hP1
  have hD := hD1.weaken (fun _ _ _ z => hFc _ z)
  refine lv_if_eq (tgt := 27) hx hb dX2_isDancedPair_5 (by decide) (fun c_3 => ?_) (fun c_3 => ?_)
  · have h := h.1 c_3
    refine lv_iconst (v := (0 : Int32)) hx hb dX2_isDancedPair_27 (by decide) ?_
    exact W.zret (v := (0 : Int32)) hx hb hr rfl (fun t ht hW => ⟨⟨(0 : Int32), u_2, rfl, h, by rw [ht]; exact hP, va_K.moved hW.alike hK, hD⟩, hS.F ht⟩) hS.2.2 dX2_isDancedPair_28
  · have h := h.2 c_3
    refine lv_aload_n hx hb dX2_isDancedPair_8 rfl (lv_at hl 0 rfl) ?_
    refine lv_iload_n hx hb dX2_isDancedPair_9 rfl (lv_at hl 1 rfl) ?_
    refine gs_i (va_runSN (As := [.int x1]) (rest := [.ref (a 0)]) ⟨hx, hb, hml, hown, hts⟩ (c_X6_lesserOf l x1 _ h) ⟨va_cnB 1 hts gX2_isDancedPair_X6_lesserOf_n35 rfl rfl rfl (hnw.1 _ (List.mem_of_getElem? (i := 4) rfl)) ni_X6 (by decide +kernel) ⟨Nat.le_of_ble_eq_true rfl, Nat.le_of_ble_eq_true rfl⟩, ns_yX6_lesserOf, trivial⟩ preEq rfl rfl hl.1 rfl (lv_room (Nat.le_of_ble_eq_true rfl)) dX2_isDancedPair_10 ⟨Nat.zero_le _, Nat.zero_le _⟩) (fun r_4 h => ?_)
    refine lv_iload_n hx hb dX2_isDancedPair_13 rfl (lv_at hl 1 rfl) ?_
    refine gs_i (va_runSN (As := [.int x1]) (rest := [.int r_4, .ref (a 0)]) ⟨hx, hb, hml, hown, hts⟩ (c_X6_greaterOf l x1 _ h) ⟨va_cnB 1 hts gX2_isDancedPair_X6_greaterOf_n39 rfl rfl rfl (hnw.1 _ (List.mem_of_getElem? (i := 5) rfl)) ni_X6 (by decide +kernel) ⟨Nat.le_of_ble_eq_true rfl, Nat.le_of_ble_eq_true rfl⟩, ns_yX6_greaterOf, trivial⟩ preEq rfl rfl hl.1 rfl (lv_room (Nat.le_of_ble_eq_true rfl)) dX2_isDancedPair_14 ⟨Nat.zero_le _, Nat.zero_le _⟩) (fun r_5 h => ?_)
    have hFc := fr_self hD hS hA
    refine gv_i (va_runV (As := [.int r_4, .int r_5]) (rest := []) ⟨hx, hb, hml, hown, hts⟩ (c_X2_haveDanced l D k a u_2 H.size r_4 r_5 _ h) (cwV 2 hts gX2_isDancedPair_X2_haveDanced rfl rfl rfl (by decide +kernel) ⟨Nat.le_of_ble_eq_true rfl, Nat.le_of_ble_eq_true rfl⟩) (gv_preV hK hnw hP hD (ci := 2) rfl 0 rfl) rfl rfl hl.1 rfl (lv_room (Nat.le_of_ble_eq_true rfl)) dX2_isDancedPair_17 ⟨Nat.zero_le _, Nat.zero_le _⟩) hS hFc (fun r_6 u_7 H locs h hP1 hD1 hk1 hS => ?_)
    have hP := hP1
    have hD := hD1.weaken (fun _ _ _ z => hFc _ z)
    refine lv_if_eq (tgt := 27) hx hb dX2_isDancedPair_20 (by decide) (fun c_8 => ?_) (fun c_8 => ?_)
    · have h := h.1 c_8
      refine lv_iconst (v := (0 : Int32)) hx hb dX2_isDancedPair_27 (by decide) ?_
      exact W.zret (v := (0 : Int32)) hx hb hr rfl (fun t ht hW => ⟨⟨(0 : Int32), u_7, rfl, h, by rw [ht]; exact hP, va_K.moved hW.alike hK, hD⟩, hS.F ht⟩) hS.2.2 dX2_isDancedPair_28
    · have h := h.2 c_8
      refine lv_iconst (v := (1 : Int32)) hx hb dX2_isDancedPair_23 (by decide) ?_
      refine lv_goto (tgt := 28) hx hb dX2_isDancedPair_24 (by decide) ?_
      exact W.zret (v := (1 : Int32)) hx hb hr rfl (fun t ht hW => ⟨⟨(1 : Int32), u_7, rfl, h, by rw [ht]; exact hP, va_K.moved hW.alike hK, hD⟩, hS.F ht⟩) hS.2.2 dX2_isDancedPair_28
/-! X2_isOpenPair -/
def wp_X2_isOpenPair (S0 : St) (x1 : Int32) (Q : Int32 → St → Prop) : Prop := wp_X2_isPair S0 x1 (fun r_1 u_2 => ((r_1 = 0) → (Q (0 : Int32) u_2)) ∧ ((¬ r_1 = 0) → (wp_X6_lesserOf x1 (fun r_4 => wp_X6_greaterOf x1 (fun r_5 => wp_X2_haveDanced u_2 r_4 r_5 (fun r_6 u_7 => ((¬ r_6 = 0) → (Q (0 : Int32) u_7)) ∧ ((r_6 = 0) → (Q (1 : Int32) u_7))))))))
abbrev rmX2_isOpenPair : Room := { frames := 3, cells := 0, slots := 0, locals := 66 }
set_option maxRecDepth 100000 in
set_option maxHeartbeats 4000000 in
theorem c_X2_isOpenPair (l : Launch) (D : va_G) (k : Nat → ClassId) (a : Nat → Nat) (S0 : St) (sz : Nat) (x1 : Int32) (Q : Int32 → St → Prop) (h : wp_X2_isOpenPair S0 x1 Q) : Met l yX2_isOpenPair wsX2_isOpenPair rmX2_isOpenPair (cPc D k (wFl k a S0) [.ref (a 0), .int x1] sz) (va_Qi (fun (r : Int32) (u : St) => Q r u) (cB D k (va_A (wFl k a S0) sz) (fun u : St => wFl k a u)) (va_A (wFl k a S0) sz)) 0 0 (va_A (wFl k a S0) sz) := by
  refine ct_entry (cc := cX2_isOpenPair) (maxL := 2) (ret := (some .boolean)) (Rn := RX2) (Qc := fun A => (va_Qi (fun (r : Int32) (u : St) => Q r u) (cB D k A (fun u : St => wFl k a u)) A)) (by decide) rfl rfl (Nat.le_of_ble_eq_true rfl) ?_
  intro p e s m below meth c hx hb hr hlocks hml hts hown hnw hK A hA H locs hP hD hS ls hl
  have hl : lv_has ls 2 [(0, .ref (a 0)), (1, .int x1)] := hl
  have ni_X6 := hts (.initialized RX6) (by decide +kernel)
  have ns_yX6_greaterOf := hts (.static yX6_greaterOf) (by decide +kernel)
  have ns_yX6_lesserOf := hts (.static yX6_lesserOf) (by decide +kernel)
  unfold wp_X2_isOpenPair at h
  refine lv_aload_n hx hb dX2_isOpenPair_0 rfl (lv_at hl 0 rfl) ?_
  refine lv_iload_n hx hb dX2_isOpenPair_1 rfl (lv_at hl 1 rfl) ?_
  have hFc := fr_self hD hS hA
  refine gv_i (va_runV (As := [.int x1]) (rest := []) ⟨hx, hb, hml, hown, hts⟩ (c_X2_isPair l D k a S0 H.size x1 _ h) (cwV 1 hts gX2_isOpenPair_X2_isPair rfl rfl rfl (by decide +kernel) ⟨Nat.le_of_ble_eq_true rfl, Nat.le_of_ble_eq_true rfl⟩) (gv_preV hK hnw hP hD (ci := 2) rfl 0 rfl) rfl rfl hl.1 rfl (lv_room (Nat.le_of_ble_eq_true rfl)) dX2_isOpenPair_2 ⟨Nat.zero_le _, Nat.zero_le _⟩) hS hFc (fun r_1 u_2 H locs h hP1 hD1 hk1 hS => ?_)
  have hP := hP1
  have hD := hD1.weaken (fun _ _ _ z => hFc _ z)
  refine lv_if_eq (tgt := 27) hx hb dX2_isOpenPair_5 (by decide) (fun c_3 => ?_) (fun c_3 => ?_)
  · have h := h.1 c_3
    refine lv_iconst (v := (0 : Int32)) hx hb dX2_isOpenPair_27 (by decide) ?_
    exact W.zret (v := (0 : Int32)) hx hb hr rfl (fun t ht hW => ⟨⟨(0 : Int32), u_2, rfl, h, by rw [ht]; exact hP, va_K.moved hW.alike hK, hD⟩, hS.F ht⟩) hS.2.2 dX2_isOpenPair_28
  · have h := h.2 c_3
    refine lv_aload_n hx hb dX2_isOpenPair_8 rfl (lv_at hl 0 rfl) ?_
    refine lv_iload_n hx hb dX2_isOpenPair_9 rfl (lv_at hl 1 rfl) ?_
    refine gs_i (va_runSN (As := [.int x1]) (rest := [.ref (a 0)]) ⟨hx, hb, hml, hown, hts⟩ (c_X6_lesserOf l x1 _ h) ⟨va_cnB 1 hts gX2_isOpenPair_X6_lesserOf_n35 rfl rfl rfl (hnw.1 _ (List.mem_of_getElem? (i := 4) rfl)) ni_X6 (by decide +kernel) ⟨Nat.le_of_ble_eq_true rfl, Nat.le_of_ble_eq_true rfl⟩, ns_yX6_lesserOf, trivial⟩ preEq rfl rfl hl.1 rfl (lv_room (Nat.le_of_ble_eq_true rfl)) dX2_isOpenPair_10 ⟨Nat.zero_le _, Nat.zero_le _⟩) (fun r_4 h => ?_)
    refine lv_iload_n hx hb dX2_isOpenPair_13 rfl (lv_at hl 1 rfl) ?_
    refine gs_i (va_runSN (As := [.int x1]) (rest := [.int r_4, .ref (a 0)]) ⟨hx, hb, hml, hown, hts⟩ (c_X6_greaterOf l x1 _ h) ⟨va_cnB 1 hts gX2_isOpenPair_X6_greaterOf_n39 rfl rfl rfl (hnw.1 _ (List.mem_of_getElem? (i := 5) rfl)) ni_X6 (by decide +kernel) ⟨Nat.le_of_ble_eq_true rfl, Nat.le_of_ble_eq_true rfl⟩, ns_yX6_greaterOf, trivial⟩ preEq rfl rfl hl.1 rfl (lv_room (Nat.le_of_ble_eq_true rfl)) dX2_isOpenPair_14 ⟨Nat.zero_le _, Nat.zero_le _⟩) (fun r_5 h => ?_)
    have hFc := fr_self hD hS hA
    refine gv_i (va_runV (As := [.int r_4, .int r_5]) (rest := []) ⟨hx, hb, hml, hown, hts⟩ (c_X2_haveDanced l D k a u_2 H.size r_4 r_5 _ h) (cwV 2 hts gX2_isOpenPair_X2_haveDanced rfl rfl rfl (by decide +kernel) ⟨Nat.le_of_ble_eq_true rfl, Nat.le_of_ble_eq_true rfl⟩) (gv_preV hK hnw hP hD (ci := 2) rfl 0 rfl) rfl rfl hl.1 rfl (lv_room (Nat.le_of_ble_eq_true rfl)) dX2_isOpenPair_17 ⟨Nat.zero_le _, Nat.zero_le _⟩) hS hFc (fun r_6 u_7 H locs h hP1 hD1 hk1 hS => ?_)
    have hP := hP1
    have hD := hD1.weaken (fun _ _ _ z => hFc _ z)
    refine lv_if_ne (tgt := 27) hx hb dX2_isOpenPair_20 (by decide) (fun c_8 => ?_) (fun c_8 => ?_)
    · have h := h.1 c_8
      refine lv_iconst (v := (0 : Int32)) hx hb dX2_isOpenPair_27 (by decide) ?_
      exact W.zret (v := (0 : Int32)) hx hb hr rfl (fun t ht hW => ⟨⟨(0 : Int32), u_7, rfl, h, by rw [ht]; exact hP, va_K.moved hW.alike hK, hD⟩, hS.F ht⟩) hS.2.2 dX2_isOpenPair_28
    · have h := h.2 c_8
      refine lv_iconst (v := (1 : Int32)) hx hb dX2_isOpenPair_23 (by decide) ?_
      refine lv_goto (tgt := 28) hx hb dX2_isOpenPair_24 (by decide) ?_
      exact W.zret (v := (1 : Int32)) hx hb hr rfl (fun t ht hW => ⟨⟨(1 : Int32), u_7, rfl, h, by rw [ht]; exact hP, va_K.moved hW.alike hK, hD⟩, hS.F ht⟩) hS.2.2 dX2_isOpenPair_28
/-! X2_admit -/
def wp_X2_admit (S0 : St) (x1 : Int32) (x2 : Int32) (Q : Int32 → St → Prop) : Prop := (((8 : Int32) ≤ (S0.1 0)) → (Q (0 : Int32) S0)) ∧ ((¬ (8 : Int32) ≤ (S0.1 0)) → (((x1 < 0) → (Q (0 : Int32) S0)) ∧ ((¬ x1 < 0) → (((x1 ≤ (5 : Int32)) → (vp_in (S0.1 0) 8 ∧ (∀ S_4, S_4 = (sA S0 2 (S0.1 0).toNatClampNeg x1) → (vp_in (S_4.1 0) 8 ∧ (∀ S_6, S_6 = (sA S_4 3 (S_4.1 0).toNatClampNeg x2) → (vp_in (S_6.1 0) 8 ∧ (∀ S_8, S_8 = (sA S_6 4 (S_6.1 0).toNatClampNeg (0 : Int32)) → (vp_in (S_8.1 0) 8 ∧ (∀ S_10, S_10 = (sA S_8 5 (S_8.1 0).toNatClampNeg (0 : Int32)) → (∀ S_12, S_12 = (sI S_10 0 ((S_10.1 0) + (1 : Int32))) → (Q (1 : Int32) S_12))))))))))) ∧ ((¬ x1 ≤ (5 : Int32)) → (Q (0 : Int32) S0))))))
abbrev rmX2_admit : Room := { frames := 0, cells := 0, slots := 0, locals := 0 }
set_option maxRecDepth 100000 in
set_option maxHeartbeats 4000000 in
theorem c_X2_admit (l : Launch) (D : va_G) (k : Nat → ClassId) (a : Nat → Nat) (S0 : St) (sz : Nat) (x1 : Int32) (x2 : Int32) (Q : Int32 → St → Prop) (h : wp_X2_admit S0 x1 x2 Q) : Met l yX2_admit wsX2_admit rmX2_admit (cPc D k (wFl k a S0) [.ref (a 0), .int x1, .int x2] sz) (va_Qi (fun (r : Int32) (u : St) => Q r u) (cB D k (va_A (wFl k a S0) sz) (fun u : St => wFl k a u)) (va_A (wFl k a S0) sz)) 0 0 (va_A (wFl k a S0) sz) := by
  refine ct_entry (cc := cX2_admit) (maxL := 3) (ret := (some .boolean)) (Rn := RX2) (Qc := fun A => (va_Qi (fun (r : Int32) (u : St) => Q r u) (cB D k A (fun u : St => wFl k a u)) A)) (by decide) rfl rfl (Nat.le_of_ble_eq_true rfl) ?_
  intro p e s m below meth c hx hb hr hlocks hml hts hown hnw hK A hA H locs hP hD hS ls hl
  have hl : lv_has ls 3 [(0, .ref (a 0)), (1, .int x1), (2, .int x2)] := hl
  have ln_18 := hts (.fieldLink RX2 18 "WithTheSameOne$Floor" "kind" "[I") (by decide +kernel)
  have ln_22 := hts (.fieldLink RX2 22 "WithTheSameOne$Floor" "figure" "[I") (by decide +kernel)
  have ln_25 := hts (.fieldLink RX2 25 "WithTheSameOne$Floor" "brought" "[I") (by decide +kernel)
  have ln_28 := hts (.fieldLink RX2 28 "WithTheSameOne$Floor" "partners" "[I") (by decide +kernel)
  have ln_9 := hts (.fieldLink RX2 9 "WithTheSameOne$Floor" "size" "I") (by decide +kernel)
  have in_Fl : ∀ w ∈ wsX20, w ∈ wsX2_admit := fun _ h => List.mem_cons_of_mem _ (List.mem_append_right _ h)
  unfold wp_X2_admit at h
  refine lv_aload_n hx hb dX2_admit_0 rfl (lv_at hl 0 rfl) ?_
  refine va_get (D := D) (ci := 2) (v := .int (S0.1 0)) (C := RX2) (T := TX2) (N := 6) hx hb hts in_Fl hown hK hP 0 rfl rfl 0 (by decide) ln_9 (fun _ h9 => h9) rfl dX2_admit_1 ?_
  refine lv_bipush (v := (8 : Int32)) hx hb dX2_admit_4 (by decide) ?_
  refine lv_icmp_ge (tgt := 18) hx hb dX2_admit_6 (by decide) (fun c_1 => ?_) (fun c_1 => ?_)
  · have h := h.1 c_1
    refine lv_iconst (v := (0 : Int32)) hx hb dX2_admit_18 (by decide) ?_
    exact W.zret (v := (0 : Int32)) hx hb hr rfl (fun t ht hW => ⟨⟨(0 : Int32), S0, rfl, h, by rw [ht]; exact hP, va_K.moved hW.alike hK, hD⟩, hS.F ht⟩) hS.2.2 dX2_admit_19
  · have h := h.2 c_1
    refine lv_iload_n hx hb dX2_admit_9 rfl (lv_at hl 1 rfl) ?_
    refine lv_if_lt (tgt := 18) hx hb dX2_admit_10 (by decide) (fun c_2 => ?_) (fun c_2 => ?_)
    · have h := h.1 c_2
      refine lv_iconst (v := (0 : Int32)) hx hb dX2_admit_18 (by decide) ?_
      exact W.zret (v := (0 : Int32)) hx hb hr rfl (fun t ht hW => ⟨⟨(0 : Int32), S0, rfl, h, by rw [ht]; exact hP, va_K.moved hW.alike hK, hD⟩, hS.F ht⟩) hS.2.2 dX2_admit_19
    · have h := h.2 c_2
      refine lv_iload_n hx hb dX2_admit_13 rfl (lv_at hl 1 rfl) ?_
      refine lv_iconst (v := (5 : Int32)) hx hb dX2_admit_14 (by decide) ?_
      refine lv_icmp_le (tgt := 20) hx hb dX2_admit_15 (by decide) (fun c_3 => ?_) (fun c_3 => ?_)
      · have h := h.1 c_3
        refine lv_aload_n hx hb dX2_admit_20 rfl (lv_at hl 0 rfl) ?_
        refine va_get (D := D) (ci := 2) (v := .ref (a 1)) (C := RX2) (T := TX2) (N := 6) hx hb hts in_Fl hown hK hP 0 rfl rfl 2 (by decide) ln_18 (fun _ h9 => h9) rfl dX2_admit_21 ?_
        refine lv_aload_n hx hb dX2_admit_24 rfl (lv_at hl 0 rfl) ?_
        refine va_get (D := D) (ci := 2) (v := .int (S0.1 0)) (C := RX2) (T := TX2) (N := 6) hx hb hts in_Fl hown hK hP 0 rfl rfl 0 (by decide) ln_9 (fun _ h9 => h9) rfl dX2_admit_25 ?_
        refine lv_iload_n hx hb dX2_admit_28 rfl (lv_at hl 1 rfl) ?_
        refine va_iast hx hb hK hP hD hS 1 0 rfl rfl h.1 dX2_admit_29 (fun H locs hP hD hS => ?_)
        have h := h.2
        obtain ⟨S_4, e_5⟩ : ∃ z : St, z = (sA S0 2 (S0.1 0).toNatClampNeg x1) := ⟨_, rfl⟩
        have h := h S_4 e_5
        have hP : va_P D vwCl (wFl k a S_4) H := by rw [e_5]; exact hP
        have hD : va_D A (wFl k a S_4) := by rw [e_5]; exact hD
        refine lv_aload_n hx hb dX2_admit_30 rfl (lv_at hl 0 rfl) ?_
        refine va_get (D := D) (ci := 2) (v := .ref (a 2)) (C := RX2) (T := TX2) (N := 6) hx hb hts in_Fl hown hK hP 0 rfl rfl 3 (by decide) ln_22 (fun _ h9 => h9) rfl dX2_admit_31 ?_
        refine lv_aload_n hx hb dX2_admit_34 rfl (lv_at hl 0 rfl) ?_
        refine va_get (D := D) (ci := 2) (v := .int (S_4.1 0)) (C := RX2) (T := TX2) (N := 6) hx hb hts in_Fl hown hK hP 0 rfl rfl 0 (by decide) ln_9 (fun _ h9 => h9) rfl dX2_admit_35 ?_
        refine lv_iload_n hx hb dX2_admit_38 rfl (lv_at hl 2 rfl) ?_
        refine va_iast hx hb hK hP hD hS 2 0 rfl rfl h.1 dX2_admit_39 (fun H locs hP hD hS => ?_)
        have h := h.2
        obtain ⟨S_6, e_7⟩ : ∃ z : St, z = (sA S_4 3 (S_4.1 0).toNatClampNeg x2) := ⟨_, rfl⟩
        have h := h S_6 e_7
        have hP : va_P D vwCl (wFl k a S_6) H := by rw [e_7]; exact hP
        have hD : va_D A (wFl k a S_6) := by rw [e_7]; exact hD
        refine lv_aload_n hx hb dX2_admit_40 rfl (lv_at hl 0 rfl) ?_
        refine va_get (D := D) (ci := 2) (v := .ref (a 3)) (C := RX2) (T := TX2) (N := 6) hx hb hts in_Fl hown hK hP 0 rfl rfl 4 (by decide) ln_25 (fun _ h9 => h9) rfl dX2_admit_41 ?_
        refine lv_aload_n hx hb dX2_admit_44 rfl (lv_at hl 0 rfl) ?_
        refine va_get (D := D) (ci := 2) (v := .int (S_6.1 0)) (C := RX2) (T := TX2) (N := 6) hx hb hts in_Fl hown hK hP 0 rfl rfl 0 (by decide) ln_9 (fun _ h9 => h9) rfl dX2_admit_45 ?_
        refine lv_iconst (v := (0 : Int32)) hx hb dX2_admit_48 (by decide) ?_
        refine va_iast hx hb hK hP hD hS 3 0 rfl rfl h.1 dX2_admit_49 (fun H locs hP hD hS => ?_)
        have h := h.2
        obtain ⟨S_8, e_9⟩ : ∃ z : St, z = (sA S_6 4 (S_6.1 0).toNatClampNeg (0 : Int32)) := ⟨_, rfl⟩
        have h := h S_8 e_9
        have hP : va_P D vwCl (wFl k a S_8) H := by rw [e_9]; exact hP
        have hD : va_D A (wFl k a S_8) := by rw [e_9]; exact hD
        refine lv_aload_n hx hb dX2_admit_50 rfl (lv_at hl 0 rfl) ?_
        refine va_get (D := D) (ci := 2) (v := .ref (a 4)) (C := RX2) (T := TX2) (N := 6) hx hb hts in_Fl hown hK hP 0 rfl rfl 5 (by decide) ln_28 (fun _ h9 => h9) rfl dX2_admit_51 ?_
        refine lv_aload_n hx hb dX2_admit_54 rfl (lv_at hl 0 rfl) ?_
        refine va_get (D := D) (ci := 2) (v := .int (S_8.1 0)) (C := RX2) (T := TX2) (N := 6) hx hb hts in_Fl hown hK hP 0 rfl rfl 0 (by decide) ln_9 (fun _ h9 => h9) rfl dX2_admit_55 ?_
        refine lv_iconst (v := (0 : Int32)) hx hb dX2_admit_58 (by decide) ?_
        refine va_iast hx hb hK hP hD hS 4 0 rfl rfl h.1 dX2_admit_59 (fun H locs hP hD hS => ?_)
        have h := h.2
        obtain ⟨S_10, e_11⟩ : ∃ z : St, z = (sA S_8 5 (S_8.1 0).toNatClampNeg (0 : Int32)) := ⟨_, rfl⟩
        have h := h S_10 e_11
        have hP : va_P D vwCl (wFl k a S_10) H := by rw [e_11]; exact hP
        have hD : va_D A (wFl k a S_10) := by rw [e_11]; exact hD
        refine lv_aload_n hx hb dX2_admit_60 rfl (lv_at hl 0 rfl) ?_
        refine lv_dup hx hb dX2_admit_61 rfl ?_
        refine va_get (D := D) (ci := 2) (v := .int (S_10.1 0)) (C := RX2) (T := TX2) (N := 6) hx hb hts in_Fl hown hK hP 0 rfl rfl 0 (by decide) ln_9 (fun _ h9 => h9) rfl dX2_admit_62 ?_
        refine lv_iconst (v := (1 : Int32)) hx hb dX2_admit_65 (by decide) ?_
        refine lv_iadd hx hb dX2_admit_66 ?_
        refine va_put (D := D) (ci := 2) (v := .int ((S_10.1 0) + (1 : Int32))) (ty := .int) (C := RX2) (T := TX2) (N := 6) hx hb hts in_Fl tyX2 tyX2_ok nmX2 hown hK hP hD hS 0 rfl rfl 0 (by decide) ln_9 (fun _ h9 => h9) rfl (by decide +kernel) rfl rfl (Nat.le_of_ble_eq_true rfl) dX2_admit_67 (fun H locs hP hD hS => ?_)
        obtain ⟨S_12, e_13⟩ : ∃ z : St, z = (sI S_10 0 ((S_10.1 0) + (1 : Int32))) := ⟨_, rfl⟩
        have h := h S_12 e_13
        have hP : va_P D vwCl (wFl k a S_12) H := by rw [e_13]; exact hP
        have hD : va_D A (wFl k a S_12) := by rw [e_13]; exact hD
        refine lv_iconst (v := (1 : Int32)) hx hb dX2_admit_70 (by decide) ?_
        exact W.zret (v := (1 : Int32)) hx hb hr rfl (fun t ht hW => ⟨⟨(1 : Int32), S_12, rfl, h, by rw [ht]; exact hP, va_K.moved hW.alike hK, hD⟩, hS.F ht⟩) hS.2.2 dX2_admit_71
      · have h := h.2 c_3
        refine lv_iconst (v := (0 : Int32)) hx hb dX2_admit_18 (by decide) ?_
        exact W.zret (v := (0 : Int32)) hx hb hr rfl (fun t ht hW => ⟨⟨(0 : Int32), S0, rfl, h, by rw [ht]; exact hP, va_K.moved hW.alike hK, hD⟩, hS.F ht⟩) hS.2.2 dX2_admit_19
/-! X6_isLaw -/
def wp_X6_isLaw (x0 : Int32) (Q : Int32 → Prop) : Prop := ((x0 < 0) → (Q (0 : Int32))) ∧ ((¬ x0 < 0) → ((((2 : Int32) < x0) → (Q (0 : Int32))) ∧ ((¬ (2 : Int32) < x0) → (Q (1 : Int32)))))
abbrev rmX6_isLaw : Room := { frames := 0, cells := 0, slots := 0, locals := 0 }
set_option maxRecDepth 100000 in
set_option maxHeartbeats 4000000 in
theorem c_X6_isLaw (l : Launch) (x0 : Int32) (Q : Int32 → Prop) (h : wp_X6_isLaw x0 Q) : Met l yX6_isLaw wsX6_isLaw rmX6_isLaw (fun v _ => v = ([.int x0] : List Value).toArray) (vp_Si Q) 0 0 (fun _ => False) := by
  refine cs_entry (cc := cX6_isLaw) (maxL := 1) (ret := (some .boolean)) (Rn := RX6) (by decide) rfl rfl (Nat.le_of_ble_eq_true rfl) ?_
  intro p e s m below meth c hx hb hr hlocks hml hts hown ls hl
  have hl : lv_has ls 1 [(0, .int x0)] := hl
  unfold wp_X6_isLaw at h
  refine lv_iload_n hx hb dX6_isLaw_0 rfl (lv_at hl 0 rfl) ?_
  refine lv_if_lt (tgt := 13) hx hb dX6_isLaw_1 (by decide) (fun c_1 => ?_) (fun c_1 => ?_)
  · have h := h.1 c_1
    refine lv_iconst (v := (0 : Int32)) hx hb dX6_isLaw_13 (by decide) ?_
    exact W.zret (v := (0 : Int32)) hx hb hr rfl (fun t ht hW => ⟨(0 : Int32), rfl, h, ht⟩) (fun q hq => by cases hq) dX6_isLaw_14
  · have h := h.2 c_1
    refine lv_iload_n hx hb dX6_isLaw_4 rfl (lv_at hl 0 rfl) ?_
    refine lv_iconst (v := (2 : Int32)) hx hb dX6_isLaw_5 (by decide) ?_
    refine lv_icmp_gt (tgt := 13) hx hb dX6_isLaw_6 (by decide) (fun c_2 => ?_) (fun c_2 => ?_)
    · have h := h.1 c_2
      refine lv_iconst (v := (0 : Int32)) hx hb dX6_isLaw_13 (by decide) ?_
      exact W.zret (v := (0 : Int32)) hx hb hr rfl (fun t ht hW => ⟨(0 : Int32), rfl, h, ht⟩) (fun q hq => by cases hq) dX6_isLaw_14
    · have h := h.2 c_2
      refine lv_iconst (v := (1 : Int32)) hx hb dX6_isLaw_9 (by decide) ?_
      refine lv_goto (tgt := 14) hx hb dX6_isLaw_10 (by decide) ?_
      exact W.zret (v := (1 : Int32)) hx hb hr rfl (fun t ht hW => ⟨(1 : Int32), rfl, h, ht⟩) (fun q hq => by cases hq) dX6_isLaw_14
/-! X2_changeLaw -/
def wp_X2_changeLaw (S0 : St) (x1 : Int32) (Q : Int32 → St → Prop) : Prop := wp_X6_isLaw x1 (fun r_1 => ((¬ r_1 = 0) → (∀ S_3, S_3 = (sI S0 1 x1) → (Q (1 : Int32) S_3))) ∧ ((r_1 = 0) → (Q (0 : Int32) S0)))
abbrev rmX2_changeLaw : Room := { frames := 1, cells := 0, slots := 0, locals := 20 }
set_option maxRecDepth 100000 in
set_option maxHeartbeats 4000000 in
theorem c_X2_changeLaw (l : Launch) (D : va_G) (k : Nat → ClassId) (a : Nat → Nat) (S0 : St) (sz : Nat) (x1 : Int32) (Q : Int32 → St → Prop) (h : wp_X2_changeLaw S0 x1 Q) : Met l yX2_changeLaw wsX2_changeLaw rmX2_changeLaw (cPc D k (wFl k a S0) [.ref (a 0), .int x1] sz) (va_Qi (fun (r : Int32) (u : St) => Q r u) (cB D k (va_A (wFl k a S0) sz) (fun u : St => wFl k a u)) (va_A (wFl k a S0) sz)) 0 0 (va_A (wFl k a S0) sz) := by
  refine ct_entry (cc := cX2_changeLaw) (maxL := 2) (ret := (some .boolean)) (Rn := RX2) (Qc := fun A => (va_Qi (fun (r : Int32) (u : St) => Q r u) (cB D k A (fun u : St => wFl k a u)) A)) (by decide) rfl rfl (Nat.le_of_ble_eq_true rfl) ?_
  intro p e s m below meth c hx hb hr hlocks hml hts hown hnw hK A hA H locs hP hD hS ls hl
  have hl : lv_has ls 2 [(0, .ref (a 0)), (1, .int x1)] := hl
  have ln_15 := hts (.fieldLink RX2 15 "WithTheSameOne$Floor" "law" "I") (by decide +kernel)
  have ni_X6 := hts (.initialized RX6) (by decide +kernel)
  have ns_yX6_isLaw := hts (.static yX6_isLaw) (by decide +kernel)
  have in_Fl : ∀ w ∈ wsX20, w ∈ wsX2_changeLaw := fun _ h => List.mem_cons_of_mem _ (List.mem_append_right _ h)
  unfold wp_X2_changeLaw at h
  refine lv_iload_n hx hb dX2_changeLaw_0 rfl (lv_at hl 1 rfl) ?_
  refine gs_i (va_runSN (As := [.int x1]) (rest := []) ⟨hx, hb, hml, hown, hts⟩ (c_X6_isLaw l x1 _ h) ⟨va_cnB 1 hts gX2_changeLaw_X6_isLaw_n55 rfl rfl rfl (hnw.1 _ (List.mem_of_getElem? (i := 7) rfl)) ni_X6 (by decide +kernel) ⟨Nat.le_of_ble_eq_true rfl, Nat.le_of_ble_eq_true rfl⟩, ns_yX6_isLaw, trivial⟩ preEq rfl rfl hl.1 rfl (lv_room (Nat.le_of_ble_eq_true rfl)) dX2_changeLaw_1 ⟨Nat.zero_le _, Nat.zero_le _⟩) (fun r_1 h => ?_)
  refine lv_if_ne (tgt := 9) hx hb dX2_changeLaw_4 (by decide) (fun c_2 => ?_) (fun c_2 => ?_)
  · have h := h.1 c_2
    refine lv_aload_n hx hb dX2_changeLaw_9 rfl (lv_at hl 0 rfl) ?_
    refine lv_iload_n hx hb dX2_changeLaw_10 rfl (lv_at hl 1 rfl) ?_
    refine va_put (D := D) (ci := 2) (v := .int x1) (ty := .int) (C := RX2) (T := TX2) (N := 6) hx hb hts in_Fl tyX2 tyX2_ok nmX2 hown hK hP hD hS 0 rfl rfl 1 (by decide) ln_15 (fun _ h9 => h9) rfl (by decide +kernel) rfl rfl (Nat.le_of_ble_eq_true rfl) dX2_changeLaw_11 (fun H locs hP hD hS => ?_)
    obtain ⟨S_3, e_4⟩ : ∃ z : St, z = (sI S0 1 x1) := ⟨_, rfl⟩
    have h := h S_3 e_4
    have hP : va_P D vwCl (wFl k a S_3) H := by rw [e_4]; exact hP
    have hD : va_D A (wFl k a S_3) := by rw [e_4]; exact hD
    refine lv_iconst (v := (1 : Int32)) hx hb dX2_changeLaw_14 (by decide) ?_
    exact W.zret (v := (1 : Int32)) hx hb hr rfl (fun t ht hW => ⟨⟨(1 : Int32), S_3, rfl, h, by rw [ht]; exact hP, va_K.moved hW.alike hK, hD⟩, hS.F ht⟩) hS.2.2 dX2_changeLaw_15
  · have h := h.2 c_2
    refine lv_iconst (v := (0 : Int32)) hx hb dX2_changeLaw_7 (by decide) ?_
    exact W.zret (v := (0 : Int32)) hx hb hr rfl (fun t ht hW => ⟨⟨(0 : Int32), S0, rfl, h, by rw [ht]; exact hP, va_K.moved hW.alike hK, hD⟩, hS.F ht⟩) hS.2.2 dX2_changeLaw_8
/-! X2_isAllowed -/
def wp_X2_isAllowed (S0 : St) (x1 : Int32) (x2 : Int32) (Q : Int32 → St → Prop) : Prop := wp_X2_waysToDance S0 x1 x2 (fun r_1 u_2 => ((r_1 = 0) → (Q (0 : Int32) u_2)) ∧ ((¬ r_1 = 0) → (Q (1 : Int32) u_2)))
abbrev rmX2_isAllowed : Room := { frames := 4, cells := 0, slots := 0, locals := 96 }
set_option maxRecDepth 100000 in
set_option maxHeartbeats 4000000 in
theorem c_X2_isAllowed (l : Launch) (D : va_G) (k : Nat → ClassId) (a : Nat → Nat) (S0 : St) (sz : Nat) (x1 : Int32) (x2 : Int32) (Q : Int32 → St → Prop) (h : wp_X2_isAllowed S0 x1 x2 Q) : Met l yX2_isAllowed wsX2_isAllowed rmX2_isAllowed (cPc D k (wFl k a S0) [.ref (a 0), .int x1, .int x2] sz) (va_Qi (fun (r : Int32) (u : St) => Q r u) (cB D k (va_A (wFl k a S0) sz) (fun u : St => wFl k a u)) (va_A (wFl k a S0) sz)) 0 0 (va_A (wFl k a S0) sz) := by
  refine ct_entry (cc := cX2_isAllowed) (maxL := 3) (ret := (some .boolean)) (Rn := RX2) (Qc := fun A => (va_Qi (fun (r : Int32) (u : St) => Q r u) (cB D k A (fun u : St => wFl k a u)) A)) (by decide) rfl rfl (Nat.le_of_ble_eq_true rfl) ?_
  intro p e s m below meth c hx hb hr hlocks hml hts hown hnw hK A hA H locs hP hD hS ls hl
  have hl : lv_has ls 3 [(0, .ref (a 0)), (1, .int x1), (2, .int x2)] := hl
  unfold wp_X2_isAllowed at h
  refine lv_aload_n hx hb dX2_isAllowed_0 rfl (lv_at hl 0 rfl) ?_
  refine lv_iload_n hx hb dX2_isAllowed_1 rfl (lv_at hl 1 rfl) ?_
  refine lv_iload_n hx hb dX2_isAllowed_2 rfl (lv_at hl 2 rfl) ?_
  have hFc := fr_self hD hS hA
  refine gv_i (va_runV (As := [.int x1, .int x2]) (rest := []) ⟨hx, hb, hml, hown, hts⟩ (c_X2_waysToDance l D k a S0 H.size x1 x2 _ h) (cwV 2 hts gX2_isAllowed_X2_waysToDance rfl rfl rfl (by decide +kernel) ⟨Nat.le_of_ble_eq_true rfl, Nat.le_of_ble_eq_true rfl⟩) (gv_preV hK hnw hP hD (ci := 2) rfl 0 rfl) rfl rfl hl.1 rfl (lv_room (Nat.le_of_ble_eq_true rfl)) dX2_isAllowed_3 ⟨Nat.zero_le _, Nat.zero_le _⟩) hS hFc (fun r_1 u_2 H locs h hP1 hD1 hk1 hS => ?_)
  have hP := hP1
  have hD := hD1.weaken (fun _ _ _ z => hFc _ z)
  refine lv_if_eq (tgt := 13) hx hb dX2_isAllowed_6 (by decide) (fun c_3 => ?_) (fun c_3 => ?_)
  · have h := h.1 c_3
    refine lv_iconst (v := (0 : Int32)) hx hb dX2_isAllowed_13 (by decide) ?_
    exact W.zret (v := (0 : Int32)) hx hb hr rfl (fun t ht hW => ⟨⟨(0 : Int32), u_2, rfl, h, by rw [ht]; exact hP, va_K.moved hW.alike hK, hD⟩, hS.F ht⟩) hS.2.2 dX2_isAllowed_14
  · have h := h.2 c_3
    refine lv_iconst (v := (1 : Int32)) hx hb dX2_isAllowed_9 (by decide) ?_
    refine lv_goto (tgt := 14) hx hb dX2_isAllowed_10 (by decide) ?_
    exact W.zret (v := (1 : Int32)) hx hb hr rfl (fun t ht hW => ⟨⟨(1 : Int32), u_2, rfl, h, by rw [ht]; exact hP, va_K.moved hW.alike hK, hD⟩, hS.F ht⟩) hS.2.2 dX2_isAllowed_14
/-! X2_isAllowedBy -/
def wp_X2_isAllowedBy (S0 : St) (x1 : Int32) (x2 : Int32) (x3 : Int32) (Q : Int32 → St → Prop) : Prop := ((x3 < 0) → (Q (0 : Int32) S0)) ∧ ((¬ x3 < 0) → ((((9 : Int32) < x3) → (Q (0 : Int32) S0)) ∧ ((¬ (9 : Int32) < x3) → (wp_X2_waysToDance S0 x1 x2 (fun r_3 u_4 => wp_X6_hasBit r_3 x3 (fun r_5 => ((r_5 = 0) → (Q (0 : Int32) u_4)) ∧ ((¬ r_5 = 0) → (Q (1 : Int32) u_4))))))))
abbrev rmX2_isAllowedBy : Room := { frames := 4, cells := 0, slots := 0, locals := 96 }
set_option maxRecDepth 100000 in
set_option maxHeartbeats 4000000 in
theorem c_X2_isAllowedBy (l : Launch) (D : va_G) (k : Nat → ClassId) (a : Nat → Nat) (S0 : St) (sz : Nat) (x1 : Int32) (x2 : Int32) (x3 : Int32) (Q : Int32 → St → Prop) (h : wp_X2_isAllowedBy S0 x1 x2 x3 Q) : Met l yX2_isAllowedBy wsX2_isAllowedBy rmX2_isAllowedBy (cPc D k (wFl k a S0) [.ref (a 0), .int x1, .int x2, .int x3] sz) (va_Qi (fun (r : Int32) (u : St) => Q r u) (cB D k (va_A (wFl k a S0) sz) (fun u : St => wFl k a u)) (va_A (wFl k a S0) sz)) 0 0 (va_A (wFl k a S0) sz) := by
  refine ct_entry (cc := cX2_isAllowedBy) (maxL := 4) (ret := (some .boolean)) (Rn := RX2) (Qc := fun A => (va_Qi (fun (r : Int32) (u : St) => Q r u) (cB D k A (fun u : St => wFl k a u)) A)) (by decide) rfl rfl (Nat.le_of_ble_eq_true rfl) ?_
  intro p e s m below meth c hx hb hr hlocks hml hts hown hnw hK A hA H locs hP hD hS ls hl
  have hl : lv_has ls 4 [(0, .ref (a 0)), (1, .int x1), (2, .int x2), (3, .int x3)] := hl
  have ni_X6 := hts (.initialized RX6) (by decide +kernel)
  have ns_yX6_hasBit := hts (.static yX6_hasBit) (by decide +kernel)
  unfold wp_X2_isAllowedBy at h
  refine lv_iload_n hx hb dX2_isAllowedBy_0 rfl (lv_at hl 3 rfl) ?_
  refine lv_if_lt (tgt := 27) hx hb dX2_isAllowedBy_1 (by decide) (fun c_1 => ?_) (fun c_1 => ?_)
  · have h := h.1 c_1
    refine lv_iconst (v := (0 : Int32)) hx hb dX2_isAllowedBy_27 (by decide) ?_
    exact W.zret (v := (0 : Int32)) hx hb hr rfl (fun t ht hW => ⟨⟨(0 : Int32), S0, rfl, h, by rw [ht]; exact hP, va_K.moved hW.alike hK, hD⟩, hS.F ht⟩) hS.2.2 dX2_isAllowedBy_28
  · have h := h.2 c_1
    refine lv_iload_n hx hb dX2_isAllowedBy_4 rfl (lv_at hl 3 rfl) ?_
    refine lv_bipush (v := (9 : Int32)) hx hb dX2_isAllowedBy_5 (by decide) ?_
    refine lv_icmp_gt (tgt := 27) hx hb dX2_isAllowedBy_7 (by decide) (fun c_2 => ?_) (fun c_2 => ?_)
    · have h := h.1 c_2
      refine lv_iconst (v := (0 : Int32)) hx hb dX2_isAllowedBy_27 (by decide) ?_
      exact W.zret (v := (0 : Int32)) hx hb hr rfl (fun t ht hW => ⟨⟨(0 : Int32), S0, rfl, h, by rw [ht]; exact hP, va_K.moved hW.alike hK, hD⟩, hS.F ht⟩) hS.2.2 dX2_isAllowedBy_28
    · have h := h.2 c_2
      refine lv_aload_n hx hb dX2_isAllowedBy_10 rfl (lv_at hl 0 rfl) ?_
      refine lv_iload_n hx hb dX2_isAllowedBy_11 rfl (lv_at hl 1 rfl) ?_
      refine lv_iload_n hx hb dX2_isAllowedBy_12 rfl (lv_at hl 2 rfl) ?_
      have hFc := fr_self hD hS hA
      refine gv_i (va_runV (As := [.int x1, .int x2]) (rest := []) ⟨hx, hb, hml, hown, hts⟩ (c_X2_waysToDance l D k a S0 H.size x1 x2 _ h) (cwV 2 hts gX2_isAllowedBy_X2_waysToDance rfl rfl rfl (by decide +kernel) ⟨Nat.le_of_ble_eq_true rfl, Nat.le_of_ble_eq_true rfl⟩) (gv_preV hK hnw hP hD (ci := 2) rfl 0 rfl) rfl rfl hl.1 rfl (lv_room (Nat.le_of_ble_eq_true rfl)) dX2_isAllowedBy_13 ⟨Nat.zero_le _, Nat.zero_le _⟩) hS hFc (fun r_3 u_4 H locs h hP1 hD1 hk1 hS => ?_)
      have hP := hP1
      have hD := hD1.weaken (fun _ _ _ z => hFc _ z)
      refine lv_iload_n hx hb dX2_isAllowedBy_16 rfl (lv_at hl 3 rfl) ?_
      refine gs_i (va_runSN (As := [.int r_3, .int x3]) (rest := []) ⟨hx, hb, hml, hown, hts⟩ (c_X6_hasBit l r_3 x3 _ h) ⟨va_cnB 2 hts gX2_isAllowedBy_X6_hasBit_n46 rfl rfl rfl (hnw.1 _ (List.mem_of_getElem? (i := 6) rfl)) ni_X6 (by decide +kernel) ⟨Nat.le_of_ble_eq_true rfl, Nat.le_of_ble_eq_true rfl⟩, ns_yX6_hasBit, trivial⟩ preEq rfl rfl hl.1 rfl (lv_room (Nat.le_of_ble_eq_true rfl)) dX2_isAllowedBy_17 ⟨Nat.zero_le _, Nat.zero_le _⟩) (fun r_5 h => ?_)
      refine lv_if_eq (tgt := 27) hx hb dX2_isAllowedBy_20 (by decide) (fun c_6 => ?_) (fun c_6 => ?_)
      · have h := h.1 c_6
        refine lv_iconst (v := (0 : Int32)) hx hb dX2_isAllowedBy_27 (by decide) ?_
        exact W.zret (v := (0 : Int32)) hx hb hr rfl (fun t ht hW => ⟨⟨(0 : Int32), u_4, rfl, h, by rw [ht]; exact hP, va_K.moved hW.alike hK, hD⟩, hS.F ht⟩) hS.2.2 dX2_isAllowedBy_28
      · have h := h.2 c_6
        refine lv_iconst (v := (1 : Int32)) hx hb dX2_isAllowedBy_23 (by decide) ?_
        refine lv_goto (tgt := 28) hx hb dX2_isAllowedBy_24 (by decide) ?_
        exact W.zret (v := (1 : Int32)) hx hb hr rfl (fun t ht hW => ⟨⟨(1 : Int32), u_4, rfl, h, by rw [ht]; exact hP, va_K.moved hW.alike hK, hD⟩, hS.F ht⟩) hS.2.2 dX2_isAllowedBy_28
