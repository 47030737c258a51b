/-! X7_night -/
def wp_X7_night_27 (K4 : St → Int32 → Int32 → Prop) (Q : Int32 → St → Prop) (S0 : St) (x2 : Int32) (y0 : Int32) (y1 : Int32) : Prop := vp_in x2 8 ∧ (∀ S_3, S_3 = (sA S0 3 x2.toNatClampNeg (0 : Int32)) → (K4 S_3 (y0 + y1) (x2 + 1)))
def wp_X7_night_4 (Q : Int32 → St → Prop) : Nat → St → Int32 → Int32 → Prop
  | 0, _, _, _ => False
  | n + 1, S0, x1, x2 => (((S0.1 5) ≤ x2) → (Q x1 S0)) ∧ ((¬ (S0.1 5) ≤ x2) → (vp_in x2 8 ∧ ((((S0.2 3 x2.toNatClampNeg) ≤ 0) → (wp_X7_night_27 (fun s0 v0 v1 => wp_X7_night_4 Q n s0 v0 v1) Q S0 x2 x1 (0 : Int32))) ∧ ((¬ (S0.2 3 x2.toNatClampNeg) ≤ 0) → (wp_X7_night_27 (fun s0 v0 v1 => wp_X7_night_4 Q n s0 v0 v1) Q S0 x2 x1 (1 : Int32))))))
def wp_X7_night (S0 : St) (Q : Int32 → St → Prop) : Prop := ∃ i, wp_X7_night_4 Q i S0 (0 : Int32) (0 : Int32)
abbrev rmX7_night : Room := { frames := 0, cells := 0, slots := 0, locals := 0 }
set_option maxRecDepth 100000 in
set_option maxHeartbeats 4000000 in
theorem c_X7_night (l : Launch) (D : va_G) (k : Nat → ClassId) (a : Nat → Nat) (S0 : St) (sz : Nat) (Q : Int32 → St → Prop) (h : wp_X7_night S0 Q) : Met l yX7_night wsX7_night rmX7_night (cPc D k (wMo k a S0) [.ref (a 0)] sz) (va_Qi (fun (r : Int32) (u : St) => Q r u) (cB D k (va_A (wMo k a S0) sz) (fun u : St => wMo k a u)) (va_A (wMo k a S0) sz)) 0 0 (va_A (wMo k a S0) sz) := by
  refine ct_entry (cc := cX7_night) (maxL := 3) (ret := (some .int)) (Rn := RX7) (Qc := fun A => (va_Qi (fun (r : Int32) (u : St) => Q r u) (cB D k A (fun u : St => wMo k a u)) A)) (by decide) rfl rfl (Nat.le_of_ble_eq_true rfl) ?_
  intro p e s m below meth c hx hb hr hlocks hml hts hown hnw hK A hA H locs hP hD hS ls hl
  have hl : lv_has ls 3 [(0, .ref (a 0))] := hl
  have ln_19 := hts (.fieldLink RX7 19 "WithTheSameOneModel" "brought" "[I") (by decide +kernel)
  have ln_70 := hts (.fieldLink RX7 70 "WithTheSameOneModel" "dancers" "I") (by decide +kernel)
  have in_Mo : ∀ w ∈ wsX70, w ∈ wsX7_night := fun _ h => List.mem_cons_of_mem _ (List.mem_append_right _ h)
  have L_27 : ∀ (K4 : St → Int32 → Int32 → Prop), (∀ (S0 : St) (x1 : Int32) (x2 : Int32), ∀ (H : Heap) (locs : List Loc) (ls : Array Slot), va_P D vwCl (wMo k a S0) H → va_D A (wMo k a S0) → va_S A s.heap H locs → lv_has ls 3 [(0, .ref (a 0)), (1, .int x1), (2, .int x2)] → K4 S0 x1 x2 → W p l e rmX7_night s m ([.ref (a 0)] : List Value).toArray below meth c H locs 0 0 (MQ below (va_Qi (fun (r : Int32) (u : St) => Q r u) (cB D k A (fun u : St => wMo k a u)) A) ([.ref (a 0)] : List Value).toArray s 0 0 A) (F0 m 4 ls [])) → ∀ (S0 : St) (x2 : Int32) (y0 : Int32) (y1 : Int32), ∀ (H : Heap) (locs : List Loc) (ls : Array Slot), va_P D vwCl (wMo k a S0) H → va_D A (wMo k a S0) → va_S A s.heap H locs → lv_has ls 3 [(0, .ref (a 0)), (2, .int x2)] → wp_X7_night_27 K4 Q S0 x2 y0 y1 → W p l e rmX7_night s m ([.ref (a 0)] : List Value).toArray below meth c H locs 0 0 (MQ below (va_Qi (fun (r : Int32) (u : St) => Q r u) (cB D k A (fun u : St => wMo k a u)) A) ([.ref (a 0)] : List Value).toArray s 0 0 A) (F0 m 27 ls [.int y1, .int y0]) := by
    intro K4 hK4 S0 x2 y0 y1 H locs ls hP hD hS hl h
    unfold wp_X7_night_27 at h
    refine lv_iadd hx hb dX7_night_27 ?_
    refine lv_istore_n (lv' := [(1, .int (y0 + y1)), (0, .ref (a 0)), (2, .int x2)]) hx hb dX7_night_28 rfl hl (by decide) rfl (fun ls hl => ?_)
    refine lv_aload_n hx hb dX7_night_29 rfl (lv_at hl 1 rfl) ?_
    refine va_get (D := D) (ci := 7) (v := .ref (a 4)) (C := RX7) (T := TX7) (N := 33) hx hb hts in_Mo hown hK hP 0 rfl rfl 3 (by decide) ln_19 (fun _ h9 => h9) rfl dX7_night_30 ?_
    refine lv_iload_n hx hb dX7_night_33 rfl (lv_at hl 2 rfl) ?_
    refine lv_iconst (v := (0 : Int32)) hx hb dX7_night_34 (by decide) ?_
    refine va_iast hx hb hK hP hD hS 4 0 rfl rfl h.1 dX7_night_35 (fun H locs hP hD hS => ?_)
    have h := h.2
    obtain ⟨S_3, e_4⟩ : ∃ z : St, z = (sA S0 3 x2.toNatClampNeg (0 : Int32)) := ⟨_, rfl⟩
    have h := h S_3 e_4
    have hP : va_P D vwCl (wMo k a S_3) H := by rw [e_4]; exact hP
    have hD : va_D A (wMo k a S_3) := by rw [e_4]; exact hD
    refine lv_iinc (v := (x2 + 1)) (lv' := [(2, .int (x2 + 1)), (1, .int (y0 + y1)), (0, .ref (a 0))]) hx hb dX7_night_36 hl (k := 2) rfl rfl (by decide) rfl (fun ls hl => ?_)
    refine lv_goto (tgt := 4) hx hb dX7_night_39 (by decide) ?_
    exact hK4 S_3 (y0 + y1) (x2 + 1) H locs ls hP hD hS (lv_sub hl [2, 1, 0] rfl) h
  have L_4 : ∀ (n : Nat), ∀ (S0 : St) (x1 : Int32) (x2 : Int32), ∀ (H : Heap) (locs : List Loc) (ls : Array Slot), va_P D vwCl (wMo k a S0) H → va_D A (wMo k a S0) → va_S A s.heap H locs → lv_has ls 3 [(0, .ref (a 0)), (1, .int x1), (2, .int x2)] → wp_X7_night_4 Q n S0 x1 x2 → W p l e rmX7_night s m ([.ref (a 0)] : List Value).toArray below meth c H locs 0 0 (MQ below (va_Qi (fun (r : Int32) (u : St) => Q r u) (cB D k A (fun u : St => wMo k a u)) A) ([.ref (a 0)] : List Value).toArray s 0 0 A) (F0 m 4 ls []) := by
    intro n
    induction n with
    | zero => intro S0 x1 x2 H locs ls hP hD hS hl h; exact absurd h (by unfold wp_X7_night_4; exact id)
    | succ n ih =>
      intro S0 x1 x2 H locs ls hP hD hS hl h
      unfold wp_X7_night_4 at h
      refine lv_iload_n hx hb dX7_night_4 rfl (lv_at hl 2 rfl) ?_
      refine lv_aload_n hx hb dX7_night_5 rfl (lv_at hl 0 rfl) ?_
      refine va_get (D := D) (ci := 7) (v := .int (S0.1 5)) (C := RX7) (T := TX7) (N := 33) hx hb hts in_Mo hown hK hP 0 rfl rfl 5 (by decide) ln_70 (fun _ h9 => h9) rfl dX7_night_6 ?_
      refine lv_icmp_ge (tgt := 42) hx hb dX7_night_9 (by decide) (fun c_1 => ?_) (fun c_1 => ?_)
      · have h := h.1 c_1
        refine lv_iload_n hx hb dX7_night_42 rfl (lv_at hl 1 rfl) ?_
        exact W.iret (v := x1) hx hb hr (fun t ht hW => ⟨⟨x1, S0, rfl, h, by rw [ht]; exact hP, va_K.moved hW.alike hK, hD⟩, hS.F ht⟩) hS.2.2 dX7_night_43
      · have h := h.2 c_1
        refine lv_iload_n hx hb dX7_night_12 rfl (lv_at hl 1 rfl) ?_
        refine lv_aload_n hx hb dX7_night_13 rfl (lv_at hl 0 rfl) ?_
        refine va_get (D := D) (ci := 7) (v := .ref (a 4)) (C := RX7) (T := TX7) (N := 33) hx hb hts in_Mo hown hK hP 0 rfl rfl 3 (by decide) ln_19 (fun _ h9 => h9) rfl dX7_night_14 ?_
        refine lv_iload_n hx hb dX7_night_17 rfl (lv_at hl 2 rfl) ?_
        refine va_iald hx hb hK hP 4 0 rfl rfl h.1 dX7_night_18 ?_
        have h := h.2
        refine lv_if_le (tgt := 26) hx hb dX7_night_19 (by decide) (fun c_2 => ?_) (fun c_2 => ?_)
        · have h := h.1 c_2
          refine lv_iconst (v := (0 : Int32)) hx hb dX7_night_26 (by decide) ?_
          exact L_27 (fun s0 v0 v1 => wp_X7_night_4 Q n s0 v0 v1) ih S0 x2 x1 (0 : Int32) H locs ls hP hD hS (lv_sub hl [0, 2] rfl) h
        · have h := h.2 c_2
          refine lv_iconst (v := (1 : Int32)) hx hb dX7_night_22 (by decide) ?_
          refine lv_goto (tgt := 27) hx hb dX7_night_23 (by decide) ?_
          exact L_27 (fun s0 v0 v1 => wp_X7_night_4 Q n s0 v0 v1) ih S0 x2 x1 (1 : Int32) H locs ls hP hD hS (lv_sub hl [0, 2] rfl) h
  unfold wp_X7_night at h
  refine lv_iconst (v := (0 : Int32)) hx hb dX7_night_0 (by decide) ?_
  refine lv_istore_n (lv' := [(1, .int (0 : Int32)), (0, .ref (a 0))]) hx hb dX7_night_1 rfl hl (by decide) rfl (fun ls hl => ?_)
  refine lv_iconst (v := (0 : Int32)) hx hb dX7_night_2 (by decide) ?_
  refine lv_istore_n (lv' := [(2, .int (0 : Int32)), (1, .int (0 : Int32)), (0, .ref (a 0))]) hx hb dX7_night_3 rfl hl (by decide) rfl (fun ls hl => ?_)
  obtain ⟨n_5, h⟩ := h
  exact L_4 n_5 S0 (0 : Int32) (0 : Int32) H locs ls hP hD hS (lv_sub hl [2, 1, 0] rfl) h
/-! X7_plainBringers -/
def wp_X7_plainBringers_49 (x1 : Int32) (x2 : Int32) (x3 : Int32) (x4 : Int32) (Q : Int32 → St → Prop) (S0 : St) (y0 : Int32) (y1 : Int32) (y2 : Int32) : Prop := ∀ z_5 : Int32, z_5 = (y0 &&& ((y1 <<< (y2 &&& 31)) - (1 : Int32))) → (wp_X7_bits z_5 (fun r_7 => Q r_7 S0))
def wp_X7_plainBringers_26 (x1 : Int32) (x2 : Int32) (x3 : Int32) (x4 : Int32) (Q : Int32 → St → Prop) (S0 : St) (y0 : Int32) (y1 : Int32) : Prop := ((¬ x3 = (2 : Int32)) → (wp_X7_bits (y0 &&& (y1 ^^^ (-1 : Int32))) (fun r_3 => Q r_3 S0))) ∧ ((x3 = (2 : Int32)) → (((x2 ≤ x1) → (wp_X7_plainBringers_49 x1 x2 x3 x4 Q S0 (y0 &&& (y1 ^^^ (-1 : Int32))) (1 : Int32) x2)) ∧ ((¬ x2 ≤ x1) → (wp_X7_plainBringers_49 x1 x2 x3 x4 Q S0 (y0 &&& (y1 ^^^ (-1 : Int32))) (1 : Int32) x1))))
def wp_X7_plainBringers (S0 : St) (x1 : Int32) (x2 : Int32) (x3 : Int32) (x4 : Int32) (Q : Int32 → St → Prop) : Prop := vp_in x1 8 ∧ (vp_in x2 8 ∧ (((0 ≤ x4) → (wp_X7_plainBringers_26 x1 x2 x3 x4 Q S0 ((S0.2 19 x1.toNatClampNeg) &&& (S0.2 19 x2.toNatClampNeg)) ((1 : Int32) <<< (x4 &&& 31)))) ∧ ((¬ 0 ≤ x4) → (wp_X7_plainBringers_26 x1 x2 x3 x4 Q S0 ((S0.2 19 x1.toNatClampNeg) &&& (S0.2 19 x2.toNatClampNeg)) (0 : Int32)))))
abbrev rmX7_plainBringers : Room := { frames := 1, cells := 0, slots := 0, locals := 22 }
set_option maxRecDepth 100000 in
set_option maxHeartbeats 4000000 in
theorem c_X7_plainBringers (l : Launch) (D : va_G) (k : Nat → ClassId) (a : Nat → Nat) (S0 : St) (sz : Nat) (x1 : Int32) (x2 : Int32) (x3 : Int32) (x4 : Int32) (Q : Int32 → St → Prop) (h : wp_X7_plainBringers S0 x1 x2 x3 x4 Q) : Met l yX7_plainBringers wsX7_plainBringers rmX7_plainBringers (cPc D k (wMo k a S0) [.ref (a 0), .int x1, .int x2, .int x3, .int x4] sz) (va_Qi (fun (r : Int32) (u : St) => Q r u) (cB D k (va_A (wMo k a S0) sz) (fun u : St => wMo k a u)) (va_A (wMo k a S0) sz)) 0 0 (va_A (wMo k a S0) sz) := by
  refine ct_entry (cc := cX7_plainBringers) (maxL := 6) (ret := (some .int)) (Rn := RX7) (Qc := fun A => (va_Qi (fun (r : Int32) (u : St) => Q r u) (cB D k A (fun u : St => wMo k a u)) A)) (by decide) rfl rfl (Nat.le_of_ble_eq_true rfl) ?_
  intro p e s m below meth c hx hb hr hlocks hml hts hown hnw hK A hA H locs hP hD hS ls hl
  have hl : lv_has ls 6 [(0, .ref (a 0)), (1, .int x1), (2, .int x2), (3, .int x3), (4, .int x4)] := hl
  have ln_43 := hts (.fieldLink RX7 43 "WithTheSameOneModel" "end" "[I") (by decide +kernel)
  have in_Mo : ∀ w ∈ wsX70, w ∈ wsX7_plainBringers := fun _ h => List.mem_cons_of_mem _ (List.mem_append_right _ h)
  have L_49 : ∀ (S0 : St) (y0 : Int32) (y1 : Int32) (y2 : Int32), ∀ (H : Heap) (locs : List Loc) (ls : Array Slot), va_P D vwCl (wMo k a S0) H → va_D A (wMo k a S0) → va_S A s.heap H locs → lv_has ls 6 [] → wp_X7_plainBringers_49 x1 x2 x3 x4 Q S0 y0 y1 y2 → W p l e rmX7_plainBringers s m ([.ref (a 0), .int x1, .int x2, .int x3, .int x4] : List Value).toArray below meth c H locs 0 0 (MQ below (va_Qi (fun (r : Int32) (u : St) => Q r u) (cB D k A (fun u : St => wMo k a u)) A) ([.ref (a 0), .int x1, .int x2, .int x3, .int x4] : List Value).toArray s 0 0 A) (F0 m 49 ls [.int y2, .int y1, .int y0]) := by
    intro S0 y0 y1 y2 H locs ls hP hD hS hl h
    unfold wp_X7_plainBringers_49 at h
    refine lv_ishl hx hb dX7_plainBringers_49 ?_
    refine lv_iconst (v := (1 : Int32)) hx hb dX7_plainBringers_50 (by decide) ?_
    refine lv_isub hx hb dX7_plainBringers_51 ?_
    refine lv_iand hx hb dX7_plainBringers_52 ?_
    refine lv_topi (fun z_5 e_6 => ?_)
    have h := h z_5 e_6
    refine lv_istore (lv' := [(5, .int z_5)]) hx hb dX7_plainBringers_53 hl (by decide) rfl (fun ls hl => ?_)
    refine lv_iload hx hb dX7_plainBringers_55 (lv_at hl 0 rfl) ?_
    refine gs_i (va_runS (As := [.int z_5]) (rest := []) ⟨hx, hb, hml, hown, hts⟩ (c_X7_bits l z_5 _ h) (va_cwS 1 hts gX7_plainBringers_X7_bits rfl rfl rfl (by decide +kernel) ⟨Nat.le_of_ble_eq_true rfl, Nat.le_of_ble_eq_true rfl⟩) preEq rfl rfl hl.1 rfl (lv_room (Nat.le_of_ble_eq_true rfl)) dX7_plainBringers_57 ⟨Nat.zero_le _, Nat.zero_le _⟩) (fun r_7 h => ?_)
    exact W.iret (v := r_7) hx hb hr (fun t ht hW => ⟨⟨r_7, S0, rfl, h, by rw [ht]; exact hP, va_K.moved hW.alike hK, hD⟩, hS.F ht⟩) hS.2.2 dX7_plainBringers_60
  have L_26 : ∀ (S0 : St) (y0 : Int32) (y1 : Int32), ∀ (H : Heap) (locs : List Loc) (ls : Array Slot), va_P D vwCl (wMo k a S0) H → va_D A (wMo k a S0) → va_S A s.heap H locs → lv_has ls 6 [(1, .int x1), (2, .int x2), (3, .int x3)] → wp_X7_plainBringers_26 x1 x2 x3 x4 Q S0 y0 y1 → W p l e rmX7_plainBringers s m ([.ref (a 0), .int x1, .int x2, .int x3, .int x4] : List Value).toArray below meth c H locs 0 0 (MQ below (va_Qi (fun (r : Int32) (u : St) => Q r u) (cB D k A (fun u : St => wMo k a u)) A) ([.ref (a 0), .int x1, .int x2, .int x3, .int x4] : List Value).toArray s 0 0 A) (F0 m 26 ls [.int y1, .int y0]) := by
    intro S0 y0 y1 H locs ls hP hD hS hl h
    unfold wp_X7_plainBringers_26 at h
    refine lv_iconst (v := (-1 : Int32)) hx hb dX7_plainBringers_26 (by decide) ?_
    refine lv_ixor hx hb dX7_plainBringers_27 ?_
    refine lv_iand hx hb dX7_plainBringers_28 ?_
    refine lv_istore (lv' := [(5, .int (y0 &&& (y1 ^^^ (-1 : Int32)))), (1, .int x1), (2, .int x2), (3, .int x3)]) hx hb dX7_plainBringers_29 hl (by decide) rfl (fun ls hl => ?_)
    refine lv_iload_n hx hb dX7_plainBringers_31 rfl (lv_at hl 3 rfl) ?_
    refine lv_iconst (v := (2 : Int32)) hx hb dX7_plainBringers_32 (by decide) ?_
    refine lv_icmp_ne (tgt := 55) hx hb dX7_plainBringers_33 (by decide) (fun c_2 => ?_) (fun c_2 => ?_)
    · have h := h.1 c_2
      refine lv_iload hx hb dX7_plainBringers_55 (lv_at hl 0 rfl) ?_
      refine gs_i (va_runS (As := [.int (y0 &&& (y1 ^^^ (-1 : Int32)))]) (rest := []) ⟨hx, hb, hml, hown, hts⟩ (c_X7_bits l (y0 &&& (y1 ^^^ (-1 : Int32))) _ h) (va_cwS 1 hts gX7_plainBringers_X7_bits rfl rfl rfl (by decide +kernel) ⟨Nat.le_of_ble_eq_true rfl, Nat.le_of_ble_eq_true rfl⟩) preEq rfl rfl hl.1 rfl (lv_room (Nat.le_of_ble_eq_true rfl)) dX7_plainBringers_57 ⟨Nat.zero_le _, Nat.zero_le _⟩) (fun r_3 h => ?_)
      exact W.iret (v := r_3) hx hb hr (fun t ht hW => ⟨⟨r_3, S0, rfl, h, by rw [ht]; exact hP, va_K.moved hW.alike hK, hD⟩, hS.F ht⟩) hS.2.2 dX7_plainBringers_60
    · have h := h.2 c_2
      refine lv_iload hx hb dX7_plainBringers_36 (lv_at hl 0 rfl) ?_
      refine lv_iconst (v := (1 : Int32)) hx hb dX7_plainBringers_38 (by decide) ?_
      refine lv_iload_n hx hb dX7_plainBringers_39 rfl (lv_at hl 1 rfl) ?_
      refine lv_iload_n hx hb dX7_plainBringers_40 rfl (lv_at hl 2 rfl) ?_
      refine lv_icmp_ge (tgt := 48) hx hb dX7_plainBringers_41 (by decide) (fun c_4 => ?_) (fun c_4 => ?_)
      · have h := h.1 c_4
        refine lv_iload_n hx hb dX7_plainBringers_48 rfl (lv_at hl 2 rfl) ?_
        exact L_49 S0 (y0 &&& (y1 ^^^ (-1 : Int32))) (1 : Int32) x2 H locs ls hP hD hS (lv_sub hl [] rfl) h
      · have h := h.2 c_4
        refine lv_iload_n hx hb dX7_plainBringers_44 rfl (lv_at hl 1 rfl) ?_
        refine lv_goto (tgt := 49) hx hb dX7_plainBringers_45 (by decide) ?_
        exact L_49 S0 (y0 &&& (y1 ^^^ (-1 : Int32))) (1 : Int32) x1 H locs ls hP hD hS (lv_sub hl [] rfl) h
  unfold wp_X7_plainBringers at h
  refine lv_aload_n hx hb dX7_plainBringers_0 rfl (lv_at hl 0 rfl) ?_
  refine va_get (D := D) (ci := 7) (v := .ref (a 12)) (C := RX7) (T := TX7) (N := 33) hx hb hts in_Mo hown hK hP 0 rfl rfl 19 (by decide) ln_43 (fun _ h9 => h9) rfl dX7_plainBringers_1 ?_
  refine lv_iload_n hx hb dX7_plainBringers_4 rfl (lv_at hl 1 rfl) ?_
  refine va_iald hx hb hK hP 12 0 rfl rfl h.1 dX7_plainBringers_5 ?_
  have h := h.2
  refine lv_aload_n hx hb dX7_plainBringers_6 rfl (lv_at hl 0 rfl) ?_
  refine va_get (D := D) (ci := 7) (v := .ref (a 12)) (C := RX7) (T := TX7) (N := 33) hx hb hts in_Mo hown hK hP 0 rfl rfl 19 (by decide) ln_43 (fun _ h9 => h9) rfl dX7_plainBringers_7 ?_
  refine lv_iload_n hx hb dX7_plainBringers_10 rfl (lv_at hl 2 rfl) ?_
  refine va_iald hx hb hK hP 12 0 rfl rfl h.1 dX7_plainBringers_11 ?_
  have h := h.2
  refine lv_iand hx hb dX7_plainBringers_12 ?_
  refine lv_iload hx hb dX7_plainBringers_13 (lv_at hl 4 rfl) ?_
  refine lv_if_ge (tgt := 22) hx hb dX7_plainBringers_15 (by decide) (fun c_1 => ?_) (fun c_1 => ?_)
  · have h := h.1 c_1
    refine lv_iconst (v := (1 : Int32)) hx hb dX7_plainBringers_22 (by decide) ?_
    refine lv_iload hx hb dX7_plainBringers_23 (lv_at hl 4 rfl) ?_
    refine lv_ishl hx hb dX7_plainBringers_25 ?_
    exact L_26 S0 ((S0.2 19 x1.toNatClampNeg) &&& (S0.2 19 x2.toNatClampNeg)) ((1 : Int32) <<< (x4 &&& 31)) H locs ls hP hD hS (lv_sub hl [1, 2, 3] rfl) h
  · have h := h.2 c_1
    refine lv_iconst (v := (0 : Int32)) hx hb dX7_plainBringers_18 (by decide) ?_
    refine lv_goto (tgt := 26) hx hb dX7_plainBringers_19 (by decide) ?_
    exact L_26 S0 ((S0.2 19 x1.toNatClampNeg) &&& (S0.2 19 x2.toNatClampNeg)) (0 : Int32) H locs ls hP hD hS (lv_sub hl [1, 2, 3] rfl) h
/-! X7_goesRound -/
def wp_X7_goesRound_175 (x1 : Int32) (x2 : Int32) (Q : Int32 → St → Prop) : Nat → St → Int32 → Int32 → Prop
  | 0, _, _, _ => False
  | n + 1, S0, x3, x4 => (((S0.1 5) ≤ x4) → (bz x3 ∧ Q x3 S0)) ∧ ((¬ (S0.1 5) ≤ x4) → (vp_in x4 8 ∧ (vp_in x4 8 ∧ (vp_in x4 8 ∧ (∀ S_4, S_4 = (sA S0 19 x4.toNatClampNeg ((S0.2 19 x4.toNatClampNeg) ||| (S0.2 20 x4.toNatClampNeg))) → (wp_X7_goesRound_175 x1 x2 Q n S_4 x3 (x4 + 1)))))))
def wp_X7_goesRound_111 (K46 : St → Int32 → Int32 → Int32 → Prop) (K31 : St → Int32 → Int32 → Prop) (x1 : Int32) (x2 : Int32) (Q : Int32 → St → Prop) (S0 : St) (x4 : Int32) (x5 : Int32) : Prop := vp_in x4 8 ∧ (vp_in x4 8 ∧ (∀ S_12, S_12 = (sA S0 20 x4.toNatClampNeg ((S0.2 20 x4.toNatClampNeg) ||| ((1 : Int32) <<< (x5 &&& 31)))) → (vp_in x5 8 ∧ (vp_in x5 8 ∧ (∀ S_14, S_14 = (sA S_12 20 x5.toNatClampNeg ((S_12.2 20 x5.toNatClampNeg) ||| ((1 : Int32) <<< (x4 &&& 31)))) → (vp_in (((8 : Int32) * x4) + x5) 64 ∧ (∀ S_16, S_16 = (sA S_14 21 (((8 : Int32) * x4) + x5).toNatClampNeg ((S_14.1 22) + (1 : Int32))) → (K46 S_16 (1 : Int32) x4 (x5 + 1)))))))))
def wp_X7_goesRound_46 (K31 : St → Int32 → Int32 → Prop) (x1 : Int32) (x2 : Int32) (Q : Int32 → St → Prop) : Nat → St → Int32 → Int32 → Int32 → Prop
  | 0, _, _, _, _ => False
  | n + 1, S0, x3, x4, x5 => (((S0.1 5) ≤ x5) → (K31 S0 x3 (x4 + 1))) ∧ ((¬ (S0.1 5) ≤ x5) → (vp_in x4 8 ∧ (((¬ (((S0.2 19 x4.toNatClampNeg) >>> (x5 &&& 31)) &&& (1 : Int32)) = (1 : Int32)) → (wp_X7_areCousins S0 x4 x5 (fun r_9 u_10 => ((¬ r_9 = 0) → (wp_X7_goesRound_111 (fun s0 v0 v1 v2 => wp_X7_goesRound_46 K31 x1 x2 Q n s0 v0 v1 v2) K31 x1 x2 Q u_10 x4 x5)) ∧ ((r_9 = 0) → (wp_X7_plainBringers u_10 x4 x5 x1 x2 (fun r_18 u_19 => ((¬ x1 = (1 : Int32)) → ((((1 : Int32) ≤ r_18) → (wp_X7_goesRound_111 (fun s0 v0 v1 v2 => wp_X7_goesRound_46 K31 x1 x2 Q n s0 v0 v1 v2) K31 x1 x2 Q u_19 x4 x5)) ∧ ((¬ (1 : Int32) ≤ r_18) → (wp_X7_goesRound_46 K31 x1 x2 Q n u_19 x3 x4 (x5 + 1))))) ∧ ((x1 = (1 : Int32)) → ((((2 : Int32) ≤ r_18) → (wp_X7_goesRound_111 (fun s0 v0 v1 v2 => wp_X7_goesRound_46 K31 x1 x2 Q n s0 v0 v1 v2) K31 x1 x2 Q u_19 x4 x5)) ∧ ((¬ (2 : Int32) ≤ r_18) → (wp_X7_goesRound_46 K31 x1 x2 Q n u_19 x3 x4 (x5 + 1))))))))))) ∧ (((((S0.2 19 x4.toNatClampNeg) >>> (x5 &&& 31)) &&& (1 : Int32)) = (1 : Int32)) → (wp_X7_goesRound_46 K31 x1 x2 Q n S0 x3 x4 (x5 + 1))))))
def wp_X7_goesRound_31 (x1 : Int32) (x2 : Int32) (Q : Int32 → St → Prop) : Nat → St → Int32 → Int32 → Prop
  | 0, _, _, _ => False
  | n + 1, S0, x3, x4 => (((S0.1 5) ≤ x4) → (∃ i, wp_X7_goesRound_175 x1 x2 Q i S0 x3 (0 : Int32))) ∧ ((¬ (S0.1 5) ≤ x4) → (∃ i, wp_X7_goesRound_46 (fun s0 v0 v1 => wp_X7_goesRound_31 x1 x2 Q n s0 v0 v1) x1 x2 Q i S0 x3 x4 (x4 + (1 : Int32))))
def wp_X7_goesRound_5 (x1 : Int32) (x2 : Int32) (Q : Int32 → St → Prop) : Nat → St → Int32 → Int32 → Prop
  | 0, _, _, _ => False
  | n + 1, S0, x3, x4 => (((S0.1 5) ≤ x4) → (∃ i, wp_X7_goesRound_31 x1 x2 Q i S0 x3 (0 : Int32))) ∧ ((¬ (S0.1 5) ≤ x4) → (vp_in x4 8 ∧ (∀ S_25, S_25 = (sA S0 20 x4.toNatClampNeg (0 : Int32)) → (wp_X7_goesRound_5 x1 x2 Q n S_25 x3 (x4 + 1)))))
def wp_X7_goesRound (S0 : St) (x1 : Int32) (x2 : Int32) (Q : Int32 → St → Prop) : Prop := ∃ i, wp_X7_goesRound_5 x1 x2 Q i S0 (0 : Int32) (0 : Int32)
abbrev rmX7_goesRound : Room := { frames := 2, cells := 0, slots := 0, locals := 47 }
set_option maxRecDepth 100000 in
set_option maxHeartbeats 4000000 in
theorem c_X7_goesRound (l : Launch) (D : va_G) (k : Nat → ClassId) (a : Nat → Nat) (S0 : St) (sz : Nat) (x1 : Int32) (x2 : Int32) (Q : Int32 → St → Prop) (h : wp_X7_goesRound S0 x1 x2 Q) : Met l yX7_goesRound wsX7_goesRound rmX7_goesRound (cPc D k (wMo k a S0) [.ref (a 0), .int x1, .int x2] sz) (va_Qi (fun (r : Int32) (u : St) => Q r u) (cB D k (va_A (wMo k a S0) sz) (fun u : St => wMo k a u)) (va_A (wMo k a S0) sz)) 0 0 (va_A (wMo k a S0) sz) := by
  refine ct_entry (cc := cX7_goesRound) (maxL := 6) (ret := (some .boolean)) (Rn := RX7) (Qc := fun A => (va_Qi (fun (r : Int32) (u : St) => Q r u) (cB D k A (fun u : St => wMo k a u)) A)) (by decide) rfl rfl (Nat.le_of_ble_eq_true rfl) ?_
  intro p e s m below meth c hx hb hr hlocks hml hts hown hnw hK A hA H locs hP hD hS ls hl
  have hl : lv_has ls 6 [(0, .ref (a 0)), (1, .int x1), (2, .int x2)] := hl
  have ln_181 := hts (.fieldLink RX7 181 "WithTheSameOneModel" "rounds" "I") (by decide +kernel)
  have ln_43 := hts (.fieldLink RX7 43 "WithTheSameOneModel" "end" "[I") (by decide +kernel)
  have ln_46 := hts (.fieldLink RX7 46 "WithTheSameOneModel" "pending" "[I") (by decide +kernel)
  have ln_49 := hts (.fieldLink RX7 49 "WithTheSameOneModel" "roundOf" "[I") (by decide +kernel)
  have ln_70 := hts (.fieldLink RX7 70 "WithTheSameOneModel" "dancers" "I") (by decide +kernel)
  have in_Mo : ∀ w ∈ wsX70, w ∈ wsX7_goesRound := fun _ h => List.mem_cons_of_mem _ (List.mem_append_right _ h)
  have L_175 : ∀ (n : Nat), ∀ (S0 : St) (x3 : Int32) (x4 : Int32), ∀ (H : Heap) (locs : List Loc) (ls : Array Slot), va_P D vwCl (wMo k a S0) H → va_D A (wMo k a S0) → va_S A s.heap H locs → lv_has ls 6 [(0, .ref (a 0)), (3, .int x3), (4, .int x4)] → wp_X7_goesRound_175 x1 x2 Q n S0 x3 x4 → W p l e rmX7_goesRound s m ([.ref (a 0), .int x1, .int x2] : List Value).toArray below meth c H locs 0 0 (MQ below (va_Qi (fun (r : Int32) (u : St) => Q r u) (cB D k A (fun u : St => wMo k a u)) A) ([.ref (a 0), .int x1, .int x2] : List Value).toArray s 0 0 A) (F0 m 175 ls []) := by
    intro n
    induction n with
    | zero => intro S0 x3 x4 H locs ls hP hD hS hl h; exact absurd h (by unfold wp_X7_goesRound_175; exact id)
    | succ n ih =>
      intro S0 x3 x4 H locs ls hP hD hS hl h
      unfold wp_X7_goesRound_175 at h
      refine lv_iload hx hb dX7_goesRound_175 (lv_at hl 2 rfl) ?_
      refine lv_aload_n hx hb dX7_goesRound_177 rfl (lv_at hl 0 rfl) ?_
      refine va_get (D := D) (ci := 7) (v := .int (S0.1 5)) (C := RX7) (T := TX7) (N := 33) hx hb hts in_Mo hown hK hP 0 rfl rfl 5 (by decide) ln_70 (fun _ h9 => h9) rfl dX7_goesRound_178 ?_
      refine lv_icmp_ge (tgt := 207) hx hb dX7_goesRound_181 (by decide) (fun c_3 => ?_) (fun c_3 => ?_)
      · have h := h.1 c_3
        refine lv_iload_n hx hb dX7_goesRound_207 rfl (lv_at hl 1 rfl) ?_
        exact W.zret (v := x3) hx hb hr (bz_narrow h.1) (fun t ht hW => ⟨⟨x3, S0, rfl, h.2, by rw [ht]; exact hP, va_K.moved hW.alike hK, hD⟩, hS.F ht⟩) hS.2.2 dX7_goesRound_208
      · have h := h.2 c_3
        refine lv_aload_n hx hb dX7_goesRound_184 rfl (lv_at hl 0 rfl) ?_
        refine va_get (D := D) (ci := 7) (v := .ref (a 12)) (C := RX7) (T := TX7) (N := 33) hx hb hts in_Mo hown hK hP 0 rfl rfl 19 (by decide) ln_43 (fun _ h9 => h9) rfl dX7_goesRound_185 ?_
        refine lv_iload hx hb dX7_goesRound_188 (lv_at hl 2 rfl) ?_
        refine lv_dup2_11 hx hb dX7_goesRound_190 rfl rfl ?_
        refine va_iald hx hb hK hP 12 0 rfl rfl h.1 dX7_goesRound_191 ?_
        have h := h.2
        refine lv_aload_n hx hb dX7_goesRound_192 rfl (lv_at hl 0 rfl) ?_
        refine va_get (D := D) (ci := 7) (v := .ref (a 13)) (C := RX7) (T := TX7) (N := 33) hx hb hts in_Mo hown hK hP 0 rfl rfl 20 (by decide) ln_46 (fun _ h9 => h9) rfl dX7_goesRound_193 ?_
        refine lv_iload hx hb dX7_goesRound_196 (lv_at hl 2 rfl) ?_
        refine va_iald hx hb hK hP 13 0 rfl rfl h.1 dX7_goesRound_198 ?_
        have h := h.2
        refine lv_ior hx hb dX7_goesRound_199 ?_
        refine va_iast hx hb hK hP hD hS 12 0 rfl rfl h.1 dX7_goesRound_200 (fun H locs hP hD hS => ?_)
        have h := h.2
        obtain ⟨S_4, e_5⟩ : ∃ z : St, z = (sA S0 19 x4.toNatClampNeg ((S0.2 19 x4.toNatClampNeg) ||| (S0.2 20 x4.toNatClampNeg))) := ⟨_, rfl⟩
        have h := h S_4 e_5
        have hP : va_P D vwCl (wMo k a S_4) H := by rw [e_5]; exact hP
        have hD : va_D A (wMo k a S_4) := by rw [e_5]; exact hD
        refine lv_iinc (v := (x4 + 1)) (lv' := [(4, .int (x4 + 1)), (0, .ref (a 0)), (3, .int x3)]) hx hb dX7_goesRound_201 hl (k := 2) rfl rfl (by decide) rfl (fun ls hl => ?_)
        refine lv_goto (tgt := 175) hx hb dX7_goesRound_204 (by decide) ?_
        exact ih S_4 x3 (x4 + 1) H locs ls hP hD hS (lv_sub hl [1, 2, 0] rfl) h
  have L_111 : ∀ (K46 : St → Int32 → Int32 → Int32 → Prop), (∀ (S0 : St) (x3 : Int32) (x4 : Int32) (x5 : Int32), ∀ (H : Heap) (locs : List Loc) (ls : Array Slot), va_P D vwCl (wMo k a S0) H → va_D A (wMo k a S0) → va_S A s.heap H locs → lv_has ls 6 [(0, .ref (a 0)), (1, .int x1), (2, .int x2), (3, .int x3), (4, .int x4), (5, .int x5)] → K46 S0 x3 x4 x5 → W p l e rmX7_goesRound s m ([.ref (a 0), .int x1, .int x2] : List Value).toArray below meth c H locs 0 0 (MQ below (va_Qi (fun (r : Int32) (u : St) => Q r u) (cB D k A (fun u : St => wMo k a u)) A) ([.ref (a 0), .int x1, .int x2] : List Value).toArray s 0 0 A) (F0 m 46 ls [])) → ∀ (K31 : St → Int32 → Int32 → Prop), (∀ (S0 : St) (x3 : Int32) (x4 : Int32), ∀ (H : Heap) (locs : List Loc) (ls : Array Slot), va_P D vwCl (wMo k a S0) H → va_D A (wMo k a S0) → va_S A s.heap H locs → lv_has ls 6 [(0, .ref (a 0)), (1, .int x1), (2, .int x2), (3, .int x3), (4, .int x4)] → K31 S0 x3 x4 → W p l e rmX7_goesRound s m ([.ref (a 0), .int x1, .int x2] : List Value).toArray below meth c H locs 0 0 (MQ below (va_Qi (fun (r : Int32) (u : St) => Q r u) (cB D k A (fun u : St => wMo k a u)) A) ([.ref (a 0), .int x1, .int x2] : List Value).toArray s 0 0 A) (F0 m 31 ls [])) → ∀ (S0 : St) (x4 : Int32) (x5 : Int32), ∀ (H : Heap) (locs : List Loc) (ls : Array Slot), va_P D vwCl (wMo k a S0) H → va_D A (wMo k a S0) → va_S A s.heap H locs → lv_has ls 6 [(0, .ref (a 0)), (1, .int x1), (2, .int x2), (4, .int x4), (5, .int x5)] → wp_X7_goesRound_111 K46 K31 x1 x2 Q S0 x4 x5 → W p l e rmX7_goesRound s m ([.ref (a 0), .int x1, .int x2] : List Value).toArray below meth c H locs 0 0 (MQ below (va_Qi (fun (r : Int32) (u : St) => Q r u) (cB D k A (fun u : St => wMo k a u)) A) ([.ref (a 0), .int x1, .int x2] : List Value).toArray s 0 0 A) (F0 m 111 ls []) := by
    intro K46 hK46 K31 hK31 S0 x4 x5 H locs ls hP hD hS hl h
    unfold wp_X7_goesRound_111 at h
    refine lv_aload_n hx hb dX7_goesRound_111 rfl (lv_at hl 0 rfl) ?_
    refine va_get (D := D) (ci := 7) (v := .ref (a 13)) (C := RX7) (T := TX7) (N := 33) hx hb hts in_Mo hown hK hP 0 rfl rfl 20 (by decide) ln_46 (fun _ h9 => h9) rfl dX7_goesRound_112 ?_
    refine lv_iload hx hb dX7_goesRound_115 (lv_at hl 3 rfl) ?_
    refine lv_dup2_11 hx hb dX7_goesRound_117 rfl rfl ?_
    refine va_iald hx hb hK hP 13 0 rfl rfl h.1 dX7_goesRound_118 ?_
    have h := h.2
    refine lv_iconst (v := (1 : Int32)) hx hb dX7_goesRound_119 (by decide) ?_
    refine lv_iload hx hb dX7_goesRound_120 (lv_at hl 4 rfl) ?_
    refine lv_ishl hx hb dX7_goesRound_122 ?_
    refine lv_ior hx hb dX7_goesRound_123 ?_
    refine va_iast hx hb hK hP hD hS 13 0 rfl rfl h.1 dX7_goesRound_124 (fun H locs hP hD hS => ?_)
    have h := h.2
    obtain ⟨S_12, e_13⟩ : ∃ z : St, z = (sA S0 20 x4.toNatClampNeg ((S0.2 20 x4.toNatClampNeg) ||| ((1 : Int32) <<< (x5 &&& 31)))) := ⟨_, rfl⟩
    have h := h S_12 e_13
    have hP : va_P D vwCl (wMo k a S_12) H := by rw [e_13]; exact hP
    have hD : va_D A (wMo k a S_12) := by rw [e_13]; exact hD
    refine lv_aload_n hx hb dX7_goesRound_125 rfl (lv_at hl 0 rfl) ?_
    refine va_get (D := D) (ci := 7) (v := .ref (a 13)) (C := RX7) (T := TX7) (N := 33) hx hb hts in_Mo hown hK hP 0 rfl rfl 20 (by decide) ln_46 (fun _ h9 => h9) rfl dX7_goesRound_126 ?_
    refine lv_iload hx hb dX7_goesRound_129 (lv_at hl 4 rfl) ?_
    refine lv_dup2_11 hx hb dX7_goesRound_131 rfl rfl ?_
    refine va_iald hx hb hK hP 13 0 rfl rfl h.1 dX7_goesRound_132 ?_
    have h := h.2
    refine lv_iconst (v := (1 : Int32)) hx hb dX7_goesRound_133 (by decide) ?_
    refine lv_iload hx hb dX7_goesRound_134 (lv_at hl 3 rfl) ?_
    refine lv_ishl hx hb dX7_goesRound_136 ?_
    refine lv_ior hx hb dX7_goesRound_137 ?_
    refine va_iast hx hb hK hP hD hS 13 0 rfl rfl h.1 dX7_goesRound_138 (fun H locs hP hD hS => ?_)
    have h := h.2
    obtain ⟨S_14, e_15⟩ : ∃ z : St, z = (sA S_12 20 x5.toNatClampNeg ((S_12.2 20 x5.toNatClampNeg) ||| ((1 : Int32) <<< (x4 &&& 31)))) := ⟨_, rfl⟩
    have h := h S_14 e_15
    have hP : va_P D vwCl (wMo k a S_14) H := by rw [e_15]; exact hP
    have hD : va_D A (wMo k a S_14) := by rw [e_15]; exact hD
    refine lv_aload_n hx hb dX7_goesRound_139 rfl (lv_at hl 0 rfl) ?_
    refine va_get (D := D) (ci := 7) (v := .ref (a 14)) (C := RX7) (T := TX7) (N := 33) hx hb hts in_Mo hown hK hP 0 rfl rfl 21 (by decide) ln_49 (fun _ h9 => h9) rfl dX7_goesRound_140 ?_
    refine lv_bipush (v := (8 : Int32)) hx hb dX7_goesRound_143 (by decide) ?_
    refine lv_iload hx hb dX7_goesRound_145 (lv_at hl 3 rfl) ?_
    refine lv_imul hx hb dX7_goesRound_147 ?_
    refine lv_iload hx hb dX7_goesRound_148 (lv_at hl 4 rfl) ?_
    refine lv_iadd hx hb dX7_goesRound_150 ?_
    refine lv_aload_n hx hb dX7_goesRound_151 rfl (lv_at hl 0 rfl) ?_
    refine va_get (D := D) (ci := 7) (v := .int (S_14.1 22)) (C := RX7) (T := TX7) (N := 33) hx hb hts in_Mo hown hK hP 0 rfl rfl 22 (by decide) ln_181 (fun _ h9 => h9) rfl dX7_goesRound_152 ?_
    refine lv_iconst (v := (1 : Int32)) hx hb dX7_goesRound_155 (by decide) ?_
    refine lv_iadd hx hb dX7_goesRound_156 ?_
    refine va_iast hx hb hK hP hD hS 14 0 rfl rfl h.1 dX7_goesRound_157 (fun H locs hP hD hS => ?_)
    have h := h.2
    obtain ⟨S_16, e_17⟩ : ∃ z : St, z = (sA S_14 21 (((8 : Int32) * x4) + x5).toNatClampNeg ((S_14.1 22) + (1 : Int32))) := ⟨_, rfl⟩
    have h := h S_16 e_17
    have hP : va_P D vwCl (wMo k a S_16) H := by rw [e_17]; exact hP
    have hD : va_D A (wMo k a S_16) := by rw [e_17]; exact hD
    refine lv_iconst (v := (1 : Int32)) hx hb dX7_goesRound_158 (by decide) ?_
    refine lv_istore_n (lv' := [(3, .int (1 : Int32)), (0, .ref (a 0)), (1, .int x1), (2, .int x2), (4, .int x4), (5, .int x5)]) hx hb dX7_goesRound_159 rfl hl (by decide) rfl (fun ls hl => ?_)
    refine lv_iinc (v := (x5 + 1)) (lv' := [(5, .int (x5 + 1)), (3, .int (1 : Int32)), (0, .ref (a 0)), (1, .int x1), (2, .int x2), (4, .int x4)]) hx hb dX7_goesRound_160 hl (k := 5) rfl rfl (by decide) rfl (fun ls hl => ?_)
    refine lv_goto (tgt := 46) hx hb dX7_goesRound_163 (by decide) ?_
    exact hK46 S_16 (1 : Int32) x4 (x5 + 1) H locs ls hP hD hS (lv_sub hl [2, 3, 4, 1, 5, 0] rfl) h
  have L_46 : ∀ (K31 : St → Int32 → Int32 → Prop), (∀ (S0 : St) (x3 : Int32) (x4 : Int32), ∀ (H : Heap) (locs : List Loc) (ls : Array Slot), va_P D vwCl (wMo k a S0) H → va_D A (wMo k a S0) → va_S A s.heap H locs → lv_has ls 6 [(0, .ref (a 0)), (1, .int x1), (2, .int x2), (3, .int x3), (4, .int x4)] → K31 S0 x3 x4 → W p l e rmX7_goesRound s m ([.ref (a 0), .int x1, .int x2] : List Value).toArray below meth c H locs 0 0 (MQ below (va_Qi (fun (r : Int32) (u : St) => Q r u) (cB D k A (fun u : St => wMo k a u)) A) ([.ref (a 0), .int x1, .int x2] : List Value).toArray s 0 0 A) (F0 m 31 ls [])) → ∀ (n : Nat), ∀ (S0 : St) (x3 : Int32) (x4 : Int32) (x5 : Int32), ∀ (H : Heap) (locs : List Loc) (ls : Array Slot), va_P D vwCl (wMo k a S0) H → va_D A (wMo k a S0) → va_S A s.heap H locs → lv_has ls 6 [(0, .ref (a 0)), (1, .int x1), (2, .int x2), (3, .int x3), (4, .int x4), (5, .int x5)] → wp_X7_goesRound_46 K31 x1 x2 Q n S0 x3 x4 x5 → W p l e rmX7_goesRound s m ([.ref (a 0), .int x1, .int x2] : List Value).toArray below meth c H locs 0 0 (MQ below (va_Qi (fun (r : Int32) (u : St) => Q r u) (cB D k A (fun u : St => wMo k a u)) A) ([.ref (a 0), .int x1, .int x2] : List Value).toArray s 0 0 A) (F0 m 46 ls []) := by
    intro K31 hK31
    intro n
    induction n with
    | zero => intro S0 x3 x4 x5 H locs ls hP hD hS hl h; exact absurd h (by unfold wp_X7_goesRound_46; exact id)
    | succ n ih =>
      intro S0 x3 x4 x5 H locs ls hP hD hS hl h
      unfold wp_X7_goesRound_46 at h
      refine lv_iload hx hb dX7_goesRound_46 (lv_at hl 5 rfl) ?_
      refine lv_aload_n hx hb dX7_goesRound_48 rfl (lv_at hl 0 rfl) ?_
      refine va_get (D := D) (ci := 7) (v := .int (S0.1 5)) (C := RX7) (T := TX7) (N := 33) hx hb hts in_Mo hown hK hP 0 rfl rfl 5 (by decide) ln_70 (fun _ h9 => h9) rfl dX7_goesRound_49 ?_
      refine lv_icmp_ge (tgt := 166) hx hb dX7_goesRound_52 (by decide) (fun c_7 => ?_) (fun c_7 => ?_)
      · have h := h.1 c_7
        refine lv_iinc (v := (x4 + 1)) (lv' := [(4, .int (x4 + 1)), (0, .ref (a 0)), (1, .int x1), (2, .int x2), (3, .int x3), (5, .int x5)]) hx hb dX7_goesRound_166 hl (k := 4) rfl rfl (by decide) rfl (fun ls hl => ?_)
        refine lv_goto (tgt := 31) hx hb dX7_goesRound_169 (by decide) ?_
        exact hK31 S0 x3 (x4 + 1) H locs ls hP hD hS (lv_sub hl [1, 2, 3, 4, 0] rfl) h
      · have h := h.2 c_7
        refine lv_aload_n hx hb dX7_goesRound_55 rfl (lv_at hl 0 rfl) ?_
        refine va_get (D := D) (ci := 7) (v := .ref (a 12)) (C := RX7) (T := TX7) (N := 33) hx hb hts in_Mo hown hK hP 0 rfl rfl 19 (by decide) ln_43 (fun _ h9 => h9) rfl dX7_goesRound_56 ?_
        refine lv_iload hx hb dX7_goesRound_59 (lv_at hl 4 rfl) ?_
        refine va_iald hx hb hK hP 12 0 rfl rfl h.1 dX7_goesRound_61 ?_
        have h := h.2
        refine lv_iload hx hb dX7_goesRound_62 (lv_at hl 5 rfl) ?_
        refine lv_ishr hx hb dX7_goesRound_64 ?_
        refine lv_iconst (v := (1 : Int32)) hx hb dX7_goesRound_65 (by decide) ?_
        refine lv_iand hx hb dX7_goesRound_66 ?_
        refine lv_iconst (v := (1 : Int32)) hx hb dX7_goesRound_67 (by decide) ?_
        refine lv_icmp_ne (tgt := 74) hx hb dX7_goesRound_68 (by decide) (fun c_8 => ?_) (fun c_8 => ?_)
        · have h := h.1 c_8
          refine lv_aload_n hx hb dX7_goesRound_74 rfl (lv_at hl 0 rfl) ?_
          refine lv_iload hx hb dX7_goesRound_75 (lv_at hl 4 rfl) ?_
          refine lv_iload hx hb dX7_goesRound_77 (lv_at hl 5 rfl) ?_
          have hFc := fr_self hD hS hA
          refine gv_i (va_runV (As := [.int x4, .int x5]) (rest := []) ⟨hx, hb, hml, hown, hts⟩ (c_X7_areCousins l D k a S0 H.size x4 x5 _ h) (cwV 2 hts gX7_goesRound_X7_areCousins rfl rfl rfl (by decide +kernel) ⟨Nat.le_of_ble_eq_true rfl, Nat.le_of_ble_eq_true rfl⟩) (gv_preV hK hnw hP hD (ci := 7) rfl 0 rfl) rfl rfl hl.1 rfl (lv_room (Nat.le_of_ble_eq_true rfl)) dX7_goesRound_79 ⟨Nat.zero_le _, Nat.zero_le _⟩) hS hFc (fun r_9 u_10 H locs h hP1 hD1 hk1 hS => ?_)
          have hP := hP1
          have hD := hD1.weaken (fun _ _ _ z => hFc _ z)
          refine lv_if_ne (tgt := 111) hx hb dX7_goesRound_82 (by decide) (fun c_11 => ?_) (fun c_11 => ?_)
          · have h := h.1 c_11
            exact L_111 (fun s0 v0 v1 v2 => wp_X7_goesRound_46 K31 x1 x2 Q n s0 v0 v1 v2) ih K31 hK31 u_10 x4 x5 H locs ls hP hD hS (lv_sub hl [0, 1, 2, 4, 5] rfl) h
          · have h := h.2 c_11
            refine lv_aload_n hx hb dX7_goesRound_85 rfl (lv_at hl 0 rfl) ?_
            refine lv_iload hx hb dX7_goesRound_86 (lv_at hl 4 rfl) ?_
            refine lv_iload hx hb dX7_goesRound_88 (lv_at hl 5 rfl) ?_
            refine lv_iload_n hx hb dX7_goesRound_90 rfl (lv_at hl 1 rfl) ?_
            refine lv_iload_n hx hb dX7_goesRound_91 rfl (lv_at hl 2 rfl) ?_
            have hFc := fr_self hD hS hA
            refine gv_i (va_runV (As := [.int x4, .int x5, .int x1, .int x2]) (rest := []) ⟨hx, hb, hml, hown, hts⟩ (c_X7_plainBringers l D k a u_10 H.size x4 x5 x1 x2 _ h) (cwV 4 hts gX7_goesRound_X7_plainBringers rfl rfl rfl (by decide +kernel) ⟨Nat.le_of_ble_eq_true rfl, Nat.le_of_ble_eq_true rfl⟩) (gv_preV hK hnw hP hD (ci := 7) rfl 0 rfl) rfl rfl hl.1 rfl (lv_room (Nat.le_of_ble_eq_true rfl)) dX7_goesRound_92 ⟨Nat.zero_le _, Nat.zero_le _⟩) hS hFc (fun r_18 u_19 H locs h hP1 hD1 hk1 hS => ?_)
            have hP := hP1
            have hD := hD1.weaken (fun _ _ _ z => hFc _ z)
            refine lv_iload_n hx hb dX7_goesRound_95 rfl (lv_at hl 1 rfl) ?_
            refine lv_iconst (v := (1 : Int32)) hx hb dX7_goesRound_96 (by decide) ?_
            refine lv_icmp_ne (tgt := 104) hx hb dX7_goesRound_97 (by decide) (fun c_20 => ?_) (fun c_20 => ?_)
            · have h := h.1 c_20
              refine lv_iconst (v := (1 : Int32)) hx hb dX7_goesRound_104 (by decide) ?_
              refine lv_icmp_ge (tgt := 111) hx hb dX7_goesRound_105 (by decide) (fun c_21 => ?_) (fun c_21 => ?_)
              · have h := h.1 c_21
                exact L_111 (fun s0 v0 v1 v2 => wp_X7_goesRound_46 K31 x1 x2 Q n s0 v0 v1 v2) ih K31 hK31 u_19 x4 x5 H locs ls hP hD hS (lv_sub hl [0, 1, 2, 4, 5] rfl) h
              · have h := h.2 c_21
                refine lv_goto (tgt := 160) hx hb dX7_goesRound_108 (by decide) ?_
                refine lv_iinc (v := (x5 + 1)) (lv' := [(5, .int (x5 + 1)), (0, .ref (a 0)), (1, .int x1), (2, .int x2), (3, .int x3), (4, .int x4)]) hx hb dX7_goesRound_160 hl (k := 5) rfl rfl (by decide) rfl (fun ls hl => ?_)
                refine lv_goto (tgt := 46) hx hb dX7_goesRound_163 (by decide) ?_
                exact ih u_19 x3 x4 (x5 + 1) H locs ls hP hD hS (lv_sub hl [1, 2, 3, 4, 5, 0] rfl) h
            · have h := h.2 c_20
              refine lv_iconst (v := (2 : Int32)) hx hb dX7_goesRound_100 (by decide) ?_
              refine lv_goto (tgt := 105) hx hb dX7_goesRound_101 (by decide) ?_
              refine lv_icmp_ge (tgt := 111) hx hb dX7_goesRound_105 (by decide) (fun c_22 => ?_) (fun c_22 => ?_)
              · have h := h.1 c_22
                exact L_111 (fun s0 v0 v1 v2 => wp_X7_goesRound_46 K31 x1 x2 Q n s0 v0 v1 v2) ih K31 hK31 u_19 x4 x5 H locs ls hP hD hS (lv_sub hl [0, 1, 2, 4, 5] rfl) h
              · have h := h.2 c_22
                refine lv_goto (tgt := 160) hx hb dX7_goesRound_108 (by decide) ?_
                refine lv_iinc (v := (x5 + 1)) (lv' := [(5, .int (x5 + 1)), (0, .ref (a 0)), (1, .int x1), (2, .int x2), (3, .int x3), (4, .int x4)]) hx hb dX7_goesRound_160 hl (k := 5) rfl rfl (by decide) rfl (fun ls hl => ?_)
                refine lv_goto (tgt := 46) hx hb dX7_goesRound_163 (by decide) ?_
                exact ih u_19 x3 x4 (x5 + 1) H locs ls hP hD hS (lv_sub hl [1, 2, 3, 4, 5, 0] rfl) h
        · have h := h.2 c_8
          refine lv_goto (tgt := 160) hx hb dX7_goesRound_71 (by decide) ?_
          refine lv_iinc (v := (x5 + 1)) (lv' := [(5, .int (x5 + 1)), (0, .ref (a 0)), (1, .int x1), (2, .int x2), (3, .int x3), (4, .int x4)]) hx hb dX7_goesRound_160 hl (k := 5) rfl rfl (by decide) rfl (fun ls hl => ?_)
          refine lv_goto (tgt := 46) hx hb dX7_goesRound_163 (by decide) ?_
          exact ih S0 x3 x4 (x5 + 1) H locs ls hP hD hS (lv_sub hl [1, 2, 3, 4, 5, 0] rfl) h
  have L_31 : ∀ (n : Nat), ∀ (S0 : St) (x3 : Int32) (x4 : Int32), ∀ (H : Heap) (locs : List Loc) (ls : Array Slot), va_P D vwCl (wMo k a S0) H → va_D A (wMo k a S0) → va_S A s.heap H locs → lv_has ls 6 [(0, .ref (a 0)), (1, .int x1), (2, .int x2), (3, .int x3), (4, .int x4)] → wp_X7_goesRound_31 x1 x2 Q n S0 x3 x4 → W p l e rmX7_goesRound s m ([.ref (a 0), .int x1, .int x2] : List Value).toArray below meth c H locs 0 0 (MQ below (va_Qi (fun (r : Int32) (u : St) => Q r u) (cB D k A (fun u : St => wMo k a u)) A) ([.ref (a 0), .int x1, .int x2] : List Value).toArray s 0 0 A) (F0 m 31 ls []) := by
    intro n
    induction n with
    | zero => intro S0 x3 x4 H locs ls hP hD hS hl h; exact absurd h (by unfold wp_X7_goesRound_31; exact id)
    | succ n ih =>
      intro S0 x3 x4 H locs ls hP hD hS hl h
      unfold wp_X7_goesRound_31 at h
      refine lv_iload hx hb dX7_goesRound_31 (lv_at hl 4 rfl) ?_
      refine lv_aload_n hx hb dX7_goesRound_33 rfl (lv_at hl 0 rfl) ?_
      refine va_get (D := D) (ci := 7) (v := .int (S0.1 5)) (C := RX7) (T := TX7) (N := 33) hx hb hts in_Mo hown hK hP 0 rfl rfl 5 (by decide) ln_70 (fun _ h9 => h9) rfl dX7_goesRound_34 ?_
      refine lv_icmp_ge (tgt := 172) hx hb dX7_goesRound_37 (by decide) (fun c_2 => ?_) (fun c_2 => ?_)
      · have h := h.1 c_2
        refine lv_iconst (v := (0 : Int32)) hx hb dX7_goesRound_172 (by decide) ?_
        refine lv_istore (lv' := [(4, .int (0 : Int32)), (0, .ref (a 0)), (1, .int x1), (2, .int x2), (3, .int x3)]) hx hb dX7_goesRound_173 hl (by decide) rfl (fun ls hl => ?_)
        obtain ⟨n_6, h⟩ := h
        exact L_175 n_6 S0 x3 (0 : Int32) H locs ls hP hD hS (lv_sub hl [1, 4, 0] rfl) h
      · have h := h.2 c_2
        refine lv_iload hx hb dX7_goesRound_40 (lv_at hl 4 rfl) ?_
        refine lv_iconst (v := (1 : Int32)) hx hb dX7_goesRound_42 (by decide) ?_
        refine lv_iadd hx hb dX7_goesRound_43 ?_
        refine lv_istore (lv' := [(5, .int (x4 + (1 : Int32))), (0, .ref (a 0)), (1, .int x1), (2, .int x2), (3, .int x3), (4, .int x4)]) hx hb dX7_goesRound_44 hl (by decide) rfl (fun ls hl => ?_)
        obtain ⟨n_23, h⟩ := h
        exact L_46 (fun s0 v0 v1 => wp_X7_goesRound_31 x1 x2 Q n s0 v0 v1) ih n_23 S0 x3 x4 (x4 + (1 : Int32)) H locs ls hP hD hS (lv_sub hl [1, 2, 3, 4, 5, 0] rfl) h
  have L_5 : ∀ (n : Nat), ∀ (S0 : St) (x3 : Int32) (x4 : Int32), ∀ (H : Heap) (locs : List Loc) (ls : Array Slot), va_P D vwCl (wMo k a S0) H → va_D A (wMo k a S0) → va_S A s.heap H locs → lv_has ls 6 [(0, .ref (a 0)), (1, .int x1), (2, .int x2), (3, .int x3), (4, .int x4)] → wp_X7_goesRound_5 x1 x2 Q n S0 x3 x4 → W p l e rmX7_goesRound s m ([.ref (a 0), .int x1, .int x2] : List Value).toArray below meth c H locs 0 0 (MQ below (va_Qi (fun (r : Int32) (u : St) => Q r u) (cB D k A (fun u : St => wMo k a u)) A) ([.ref (a 0), .int x1, .int x2] : List Value).toArray s 0 0 A) (F0 m 5 ls []) := by
    intro n
    induction n with
    | zero => intro S0 x3 x4 H locs ls hP hD hS hl h; exact absurd h (by unfold wp_X7_goesRound_5; exact id)
    | succ n ih =>
      intro S0 x3 x4 H locs ls hP hD hS hl h
      unfold wp_X7_goesRound_5 at h
      refine lv_iload hx hb dX7_goesRound_5 (lv_at hl 4 rfl) ?_
      refine lv_aload_n hx hb dX7_goesRound_7 rfl (lv_at hl 0 rfl) ?_
      refine va_get (D := D) (ci := 7) (v := .int (S0.1 5)) (C := RX7) (T := TX7) (N := 33) hx hb hts in_Mo hown hK hP 0 rfl rfl 5 (by decide) ln_70 (fun _ h9 => h9) rfl dX7_goesRound_8 ?_
      refine lv_icmp_ge (tgt := 28) hx hb dX7_goesRound_11 (by decide) (fun c_1 => ?_) (fun c_1 => ?_)
      · have h := h.1 c_1
        refine lv_iconst (v := (0 : Int32)) hx hb dX7_goesRound_28 (by decide) ?_
        refine lv_istore (lv' := [(4, .int (0 : Int32)), (0, .ref (a 0)), (1, .int x1), (2, .int x2), (3, .int x3)]) hx hb dX7_goesRound_29 hl (by decide) rfl (fun ls hl => ?_)
        obtain ⟨n_24, h⟩ := h
        exact L_31 n_24 S0 x3 (0 : Int32) H locs ls hP hD hS (lv_sub hl [1, 2, 3, 4, 0] rfl) h
      · have h := h.2 c_1
        refine lv_aload_n hx hb dX7_goesRound_14 rfl (lv_at hl 0 rfl) ?_
        refine va_get (D := D) (ci := 7) (v := .ref (a 13)) (C := RX7) (T := TX7) (N := 33) hx hb hts in_Mo hown hK hP 0 rfl rfl 20 (by decide) ln_46 (fun _ h9 => h9) rfl dX7_goesRound_15 ?_
        refine lv_iload hx hb dX7_goesRound_18 (lv_at hl 4 rfl) ?_
        refine lv_iconst (v := (0 : Int32)) hx hb dX7_goesRound_20 (by decide) ?_
        refine va_iast hx hb hK hP hD hS 13 0 rfl rfl h.1 dX7_goesRound_21 (fun H locs hP hD hS => ?_)
        have h := h.2
        obtain ⟨S_25, e_26⟩ : ∃ z : St, z = (sA S0 20 x4.toNatClampNeg (0 : Int32)) := ⟨_, rfl⟩
        have h := h S_25 e_26
        have hP : va_P D vwCl (wMo k a S_25) H := by rw [e_26]; exact hP
        have hD : va_D A (wMo k a S_25) := by rw [e_26]; exact hD
        refine lv_iinc (v := (x4 + 1)) (lv' := [(4, .int (x4 + 1)), (0, .ref (a 0)), (1, .int x1), (2, .int x2), (3, .int x3)]) hx hb dX7_goesRound_22 hl (k := 4) rfl rfl (by decide) rfl (fun ls hl => ?_)
        refine lv_goto (tgt := 5) hx hb dX7_goesRound_25 (by decide) ?_
        exact ih S_25 x3 (x4 + 1) H locs ls hP hD hS (lv_sub hl [1, 2, 3, 4, 0] rfl) h
  unfold wp_X7_goesRound at h
  refine lv_iconst (v := (0 : Int32)) hx hb dX7_goesRound_0 (by decide) ?_
  refine lv_istore_n (lv' := [(3, .int (0 : Int32)), (0, .ref (a 0)), (1, .int x1), (2, .int x2)]) hx hb dX7_goesRound_1 rfl hl (by decide) rfl (fun ls hl => ?_)
  refine lv_iconst (v := (0 : Int32)) hx hb dX7_goesRound_2 (by decide) ?_
  refine lv_istore (lv' := [(4, .int (0 : Int32)), (3, .int (0 : Int32)), (0, .ref (a 0)), (1, .int x1), (2, .int x2)]) hx hb dX7_goesRound_3 hl (by decide) rfl (fun ls hl => ?_)
  obtain ⟨n_27, h⟩ := h
  exact L_5 n_27 S0 (0 : Int32) (0 : Int32) H locs ls hP hD hS (lv_sub hl [2, 3, 4, 1, 0] rfl) h
/-! X7_closes -/
def wp_X7_closes_101 (x1 : Int32) (x2 : Int32) (Q : Int32 → St → Prop) : Nat → St → Int32 → Int32 → Prop
  | 0, _, _, _ => False
  | n + 1, S0, x3, x4 => (((S0.1 5) ≤ x4) → (Q (x3 / (2 : Int32)) S0)) ∧ ((¬ (S0.1 5) ≤ x4) → (vp_in x4 8 ∧ (wp_X7_bits (S0.2 19 x4.toNatClampNeg) (fun r_9 => wp_X7_closes_101 x1 x2 Q n S0 (x3 + r_9) (x4 + 1)))))
def wp_X7_closes_74 (x1 : Int32) (x2 : Int32) (Q : Int32 → St → Prop) : Nat → St → Prop
  | 0, _ => False
  | n + 1, S0 => wp_X7_goesRound S0 x1 x2 (fun r_5 u_6 => ((r_5 = 0) → (∃ i, wp_X7_closes_101 x1 x2 Q i u_6 (0 : Int32) (0 : Int32))) ∧ ((¬ r_5 = 0) → (∀ S_11, S_11 = (sI u_6 22 ((u_6.1 22) + (1 : Int32))) → (wp_X7_closes_74 x1 x2 Q n S_11))))
def wp_X7_closes_30 (x1 : Int32) (x2 : Int32) (Q : Int32 → St → Prop) : Nat → St → Int32 → Prop
  | 0, _, _ => False
  | n + 1, S0, x3 => (((64 : Int32) ≤ x3) → (∀ S_3, S_3 = (sI S0 22 (0 : Int32)) → (∃ i, wp_X7_closes_74 x1 x2 Q i S_3))) ∧ ((¬ (64 : Int32) ≤ x3) → (wp_X7_haveDanced S0 (x3 / (8 : Int32)) (x3 - x3 / (8 : Int32) * (8 : Int32)) (fun r_14 u_15 => ((r_14 = 0) → (vp_in x3 64 ∧ (∀ S_17, S_17 = (sA u_15 21 x3.toNatClampNeg (-9 : Int32)) → (wp_X7_closes_30 x1 x2 Q n S_17 (x3 + 1))))) ∧ ((¬ r_14 = 0) → (vp_in x3 64 ∧ (∀ S_19, S_19 = (sA u_15 21 x3.toNatClampNeg (0 : Int32)) → (wp_X7_closes_30 x1 x2 Q n S_19 (x3 + 1))))))))
def wp_X7_closes_2 (x1 : Int32) (x2 : Int32) (Q : Int32 → St → Prop) : Nat → St → Int32 → Prop
  | 0, _, _ => False
  | n + 1, S0, x3 => (((S0.1 5) ≤ x3) → (∃ i, wp_X7_closes_30 x1 x2 Q i S0 (0 : Int32))) ∧ ((¬ (S0.1 5) ≤ x3) → (vp_in x3 8 ∧ (vp_in x3 8 ∧ (∀ S_22, S_22 = (sA S0 19 x3.toNatClampNeg (S0.2 4 x3.toNatClampNeg)) → (wp_X7_closes_2 x1 x2 Q n S_22 (x3 + 1))))))
def wp_X7_closes (S0 : St) (x1 : Int32) (x2 : Int32) (Q : Int32 → St → Prop) : Prop := ∃ i, wp_X7_closes_2 x1 x2 Q i S0 (0 : Int32)
abbrev rmX7_closes : Room := { frames := 3, cells := 0, slots := 0, locals := 72 }
set_option maxRecDepth 100000 in
set_option maxHeartbeats 4000000 in
theorem c_X7_closes (l : Launch) (D : va_G) (k : Nat → ClassId) (a : Nat → Nat) (S0 : St) (sz : Nat) (x1 : Int32) (x2 : Int32) (Q : Int32 → St → Prop) (h : wp_X7_closes S0 x1 x2 Q) : Met l yX7_closes wsX7_closes rmX7_closes (cPc D k (wMo k a S0) [.ref (a 0), .int x1, .int x2] sz) (va_Qi (fun (r : Int32) (u : St) => Q r u) (cB D k (va_A (wMo k a S0) sz) (fun u : St => wMo k a u)) (va_A (wMo k a S0) sz)) 0 0 (va_A (wMo k a S0) sz) := by
  refine ct_entry (cc := cX7_closes) (maxL := 5) (ret := (some .int)) (Rn := RX7) (Qc := fun A => (va_Qi (fun (r : Int32) (u : St) => Q r u) (cB D k A (fun u : St => wMo k a u)) A)) (by decide) rfl rfl (Nat.le_of_ble_eq_true rfl) ?_
  intro p e s m below meth c hx hb hr hlocks hml hts hown hnw hK A hA H locs hP hD hS ls hl
  have hl : lv_has ls 5 [(0, .ref (a 0)), (1, .int x1), (2, .int x2)] := hl
  have ln_181 := hts (.fieldLink RX7 181 "WithTheSameOneModel" "rounds" "I") (by decide +kernel)
  have ln_22 := hts (.fieldLink RX7 22 "WithTheSameOneModel" "with" "[I") (by decide +kernel)
  have ln_43 := hts (.fieldLink RX7 43 "WithTheSameOneModel" "end" "[I") (by decide +kernel)
  have ln_49 := hts (.fieldLink RX7 49 "WithTheSameOneModel" "roundOf" "[I") (by decide +kernel)
  have ln_70 := hts (.fieldLink RX7 70 "WithTheSameOneModel" "dancers" "I") (by decide +kernel)
  have in_Mo : ∀ w ∈ wsX70, w ∈ wsX7_closes := fun _ h => List.mem_cons_of_mem _ (List.mem_append_right _ h)
  have L_101 : ∀ (n : Nat), ∀ (S0 : St) (x3 : Int32) (x4 : Int32), ∀ (H : Heap) (locs : List Loc) (ls : Array Slot), va_P D vwCl (wMo k a S0) H → va_D A (wMo k a S0) → va_S A s.heap H locs → lv_has ls 5 [(0, .ref (a 0)), (3, .int x3), (4, .int x4)] → wp_X7_closes_101 x1 x2 Q n S0 x3 x4 → W p l e rmX7_closes s m ([.ref (a 0), .int x1, .int x2] : List Value).toArray below meth c H locs 0 0 (MQ below (va_Qi (fun (r : Int32) (u : St) => Q r u) (cB D k A (fun u : St => wMo k a u)) A) ([.ref (a 0), .int x1, .int x2] : List Value).toArray s 0 0 A) (F0 m 101 ls []) := by
    intro n
    induction n with
    | zero => intro S0 x3 x4 H locs ls hP hD hS hl h; exact absurd h (by unfold wp_X7_closes_101; exact id)
    | succ n ih =>
      intro S0 x3 x4 H locs ls hP hD hS hl h
      unfold wp_X7_closes_101 at h
      refine lv_iload hx hb dX7_closes_101 (lv_at hl 2 rfl) ?_
      refine lv_aload_n hx hb dX7_closes_103 rfl (lv_at hl 0 rfl) ?_
      refine va_get (D := D) (ci := 7) (v := .int (S0.1 5)) (C := RX7) (T := TX7) (N := 33) hx hb hts in_Mo hown hK hP 0 rfl rfl 5 (by decide) ln_70 (fun _ h9 => h9) rfl dX7_closes_104 ?_
      refine lv_icmp_ge (tgt := 129) hx hb dX7_closes_107 (by decide) (fun c_8 => ?_) (fun c_8 => ?_)
      · have h := h.1 c_8
        refine lv_iload_n hx hb dX7_closes_129 rfl (lv_at hl 1 rfl) ?_
        refine lv_iconst (v := (2 : Int32)) hx hb dX7_closes_130 (by decide) ?_
        refine lv_idiv hx hb dX7_closes_131 (by decide) ?_
        exact W.iret (v := (x3 / (2 : Int32))) hx hb hr (fun t ht hW => ⟨⟨(x3 / (2 : Int32)), S0, rfl, h, by rw [ht]; exact hP, va_K.moved hW.alike hK, hD⟩, hS.F ht⟩) hS.2.2 dX7_closes_132
      · have h := h.2 c_8
        refine lv_iload_n hx hb dX7_closes_110 rfl (lv_at hl 1 rfl) ?_
        refine lv_aload_n hx hb dX7_closes_111 rfl (lv_at hl 0 rfl) ?_
        refine va_get (D := D) (ci := 7) (v := .ref (a 12)) (C := RX7) (T := TX7) (N := 33) hx hb hts in_Mo hown hK hP 0 rfl rfl 19 (by decide) ln_43 (fun _ h9 => h9) rfl dX7_closes_112 ?_
        refine lv_iload hx hb dX7_closes_115 (lv_at hl 2 rfl) ?_
        refine va_iald hx hb hK hP 12 0 rfl rfl h.1 dX7_closes_117 ?_
        have h := h.2
        refine gs_i (va_runS (As := [.int (S0.2 19 x4.toNatClampNeg)]) (rest := [.int x3]) ⟨hx, hb, hml, hown, hts⟩ (c_X7_bits l (S0.2 19 x4.toNatClampNeg) _ h) (va_cwS 1 hts gX7_closes_X7_bits rfl rfl rfl (by decide +kernel) ⟨Nat.le_of_ble_eq_true rfl, Nat.le_of_ble_eq_true rfl⟩) preEq rfl rfl hl.1 rfl (lv_room (Nat.le_of_ble_eq_true rfl)) dX7_closes_118 ⟨Nat.zero_le _, Nat.zero_le _⟩) (fun r_9 h => ?_)
        refine lv_iadd hx hb dX7_closes_121 ?_
        refine lv_istore_n (lv' := [(3, .int (x3 + r_9)), (0, .ref (a 0)), (4, .int x4)]) hx hb dX7_closes_122 rfl hl (by decide) rfl (fun ls hl => ?_)
        refine lv_iinc (v := (x4 + 1)) (lv' := [(4, .int (x4 + 1)), (3, .int (x3 + r_9)), (0, .ref (a 0))]) hx hb dX7_closes_123 hl (k := 2) rfl rfl (by decide) rfl (fun ls hl => ?_)
        refine lv_goto (tgt := 101) hx hb dX7_closes_126 (by decide) ?_
        exact ih S0 (x3 + r_9) (x4 + 1) H locs ls hP hD hS (lv_sub hl [2, 1, 0] rfl) h
  have L_74 : ∀ (n : Nat), ∀ (S0 : St), ∀ (H : Heap) (locs : List Loc) (ls : Array Slot), va_P D vwCl (wMo k a S0) H → va_D A (wMo k a S0) → va_S A s.heap H locs → lv_has ls 5 [(0, .ref (a 0)), (1, .int x1), (2, .int x2)] → wp_X7_closes_74 x1 x2 Q n S0 → W p l e rmX7_closes s m ([.ref (a 0), .int x1, .int x2] : List Value).toArray below meth c H locs 0 0 (MQ below (va_Qi (fun (r : Int32) (u : St) => Q r u) (cB D k A (fun u : St => wMo k a u)) A) ([.ref (a 0), .int x1, .int x2] : List Value).toArray s 0 0 A) (F0 m 74 ls []) := by
    intro n
    induction n with
    | zero => intro S0 H locs ls hP hD hS hl h; exact absurd h (by unfold wp_X7_closes_74; exact id)
    | succ n ih =>
      intro S0 H locs ls hP hD hS hl h
      unfold wp_X7_closes_74 at h
      refine lv_aload_n hx hb dX7_closes_74 rfl (lv_at hl 0 rfl) ?_
      refine lv_iload_n hx hb dX7_closes_75 rfl (lv_at hl 1 rfl) ?_
      refine lv_iload_n hx hb dX7_closes_76 rfl (lv_at hl 2 rfl) ?_
      have hFc := fr_self hD hS hA
      refine gv_i (va_runV (As := [.int x1, .int x2]) (rest := []) ⟨hx, hb, hml, hown, hts⟩ (c_X7_goesRound l D k a S0 H.size x1 x2 _ h) (cwV 2 hts gX7_closes_X7_goesRound rfl rfl rfl (by decide +kernel) ⟨Nat.le_of_ble_eq_true rfl, Nat.le_of_ble_eq_true rfl⟩) (gv_preV hK hnw hP hD (ci := 7) rfl 0 rfl) rfl rfl hl.1 rfl (lv_room (Nat.le_of_ble_eq_true rfl)) dX7_closes_77 ⟨Nat.zero_le _, Nat.zero_le _⟩) hS hFc (fun r_5 u_6 H locs h hP1 hD1 hk1 hS => ?_)
      have hP := hP1
      have hD := hD1.weaken (fun _ _ _ z => hFc _ z)
      refine lv_if_eq (tgt := 96) hx hb dX7_closes_80 (by decide) (fun c_7 => ?_) (fun c_7 => ?_)
      · have h := h.1 c_7
        refine lv_iconst (v := (0 : Int32)) hx hb dX7_closes_96 (by decide) ?_
        refine lv_istore_n (lv' := [(3, .int (0 : Int32)), (0, .ref (a 0)), (1, .int x1), (2, .int x2)]) hx hb dX7_closes_97 rfl hl (by decide) rfl (fun ls hl => ?_)
        refine lv_iconst (v := (0 : Int32)) hx hb dX7_closes_98 (by decide) ?_
        refine lv_istore (lv' := [(4, .int (0 : Int32)), (3, .int (0 : Int32)), (0, .ref (a 0)), (1, .int x1), (2, .int x2)]) hx hb dX7_closes_99 hl (by decide) rfl (fun ls hl => ?_)
        obtain ⟨n_10, h⟩ := h
        exact L_101 n_10 u_6 (0 : Int32) (0 : Int32) H locs ls hP hD hS (lv_sub hl [2, 1, 0] rfl) h
      · have h := h.2 c_7
        refine lv_aload_n hx hb dX7_closes_83 rfl (lv_at hl 0 rfl) ?_
        refine lv_dup hx hb dX7_closes_84 rfl ?_
        refine va_get (D := D) (ci := 7) (v := .int (u_6.1 22)) (C := RX7) (T := TX7) (N := 33) hx hb hts in_Mo hown hK hP 0 rfl rfl 22 (by decide) ln_181 (fun _ h9 => h9) rfl dX7_closes_85 ?_
        refine lv_iconst (v := (1 : Int32)) hx hb dX7_closes_88 (by decide) ?_
        refine lv_iadd hx hb dX7_closes_89 ?_
        refine va_put (D := D) (ci := 7) (v := .int ((u_6.1 22) + (1 : Int32))) (ty := .int) (C := RX7) (T := TX7) (N := 33) hx hb hts in_Mo tyX7 tyX7_ok nmX7 hown hK hP hD hS 0 rfl rfl 22 (by decide) ln_181 (fun _ h9 => h9) rfl (by decide +kernel) rfl rfl (Nat.le_of_ble_eq_true rfl) dX7_closes_90 (fun H locs hP hD hS => ?_)
        obtain ⟨S_11, e_12⟩ : ∃ z : St, z = (sI u_6 22 ((u_6.1 22) + (1 : Int32))) := ⟨_, rfl⟩
        have h := h S_11 e_12
        have hP : va_P D vwCl (wMo k a S_11) H := by rw [e_12]; exact hP
        have hD : va_D A (wMo k a S_11) := by rw [e_12]; exact hD
        refine lv_goto (tgt := 74) hx hb dX7_closes_93 (by decide) ?_
        exact ih S_11 H locs ls hP hD hS (lv_sub hl [0, 1, 2] rfl) h
  have L_30 : ∀ (n : Nat), ∀ (S0 : St) (x3 : Int32), ∀ (H : Heap) (locs : List Loc) (ls : Array Slot), va_P D vwCl (wMo k a S0) H → va_D A (wMo k a S0) → va_S A s.heap H locs → lv_has ls 5 [(0, .ref (a 0)), (1, .int x1), (2, .int x2), (3, .int x3)] → wp_X7_closes_30 x1 x2 Q n S0 x3 → W p l e rmX7_closes s m ([.ref (a 0), .int x1, .int x2] : List Value).toArray below meth c H locs 0 0 (MQ below (va_Qi (fun (r : Int32) (u : St) => Q r u) (cB D k A (fun u : St => wMo k a u)) A) ([.ref (a 0), .int x1, .int x2] : List Value).toArray s 0 0 A) (F0 m 30 ls []) := by
    intro n
    induction n with
    | zero => intro S0 x3 H locs ls hP hD hS hl h; exact absurd h (by unfold wp_X7_closes_30; exact id)
    | succ n ih =>
      intro S0 x3 H locs ls hP hD hS hl h
      unfold wp_X7_closes_30 at h
      refine lv_iload_n hx hb dX7_closes_30 rfl (lv_at hl 3 rfl) ?_
      refine lv_bipush (v := (64 : Int32)) hx hb dX7_closes_31 (by decide) ?_
      refine lv_icmp_ge (tgt := 69) hx hb dX7_closes_33 (by decide) (fun c_2 => ?_) (fun c_2 => ?_)
      · have h := h.1 c_2
        refine lv_aload_n hx hb dX7_closes_69 rfl (lv_at hl 0 rfl) ?_
        refine lv_iconst (v := (0 : Int32)) hx hb dX7_closes_70 (by decide) ?_
        refine va_put (D := D) (ci := 7) (v := .int (0 : Int32)) (ty := .int) (C := RX7) (T := TX7) (N := 33) hx hb hts in_Mo tyX7 tyX7_ok nmX7 hown hK hP hD hS 0 rfl rfl 22 (by decide) ln_181 (fun _ h9 => h9) rfl (by decide +kernel) rfl rfl (Nat.le_of_ble_eq_true rfl) dX7_closes_71 (fun H locs hP hD hS => ?_)
        obtain ⟨S_3, e_4⟩ : ∃ z : St, z = (sI S0 22 (0 : Int32)) := ⟨_, rfl⟩
        have h := h S_3 e_4
        have hP : va_P D vwCl (wMo k a S_3) H := by rw [e_4]; exact hP
        have hD : va_D A (wMo k a S_3) := by rw [e_4]; exact hD
        obtain ⟨n_13, h⟩ := h
        exact L_74 n_13 S_3 H locs ls hP hD hS (lv_sub hl [0, 1, 2] rfl) h
      · have h := h.2 c_2
        refine lv_aload_n hx hb dX7_closes_36 rfl (lv_at hl 0 rfl) ?_
        refine va_get (D := D) (ci := 7) (v := .ref (a 14)) (C := RX7) (T := TX7) (N := 33) hx hb hts in_Mo hown hK hP 0 rfl rfl 21 (by decide) ln_49 (fun _ h9 => h9) rfl dX7_closes_37 ?_
        refine lv_iload_n hx hb dX7_closes_40 rfl (lv_at hl 3 rfl) ?_
        refine lv_aload_n hx hb dX7_closes_41 rfl (lv_at hl 0 rfl) ?_
        refine lv_iload_n hx hb dX7_closes_42 rfl (lv_at hl 3 rfl) ?_
        refine lv_bipush (v := (8 : Int32)) hx hb dX7_closes_43 (by decide) ?_
        refine lv_idiv hx hb dX7_closes_45 (by decide) ?_
        refine lv_iload_n hx hb dX7_closes_46 rfl (lv_at hl 3 rfl) ?_
        refine lv_bipush (v := (8 : Int32)) hx hb dX7_closes_47 (by decide) ?_
        refine lv_irem hx hb dX7_closes_49 (by decide) ?_
        have hFc := fr_self hD hS hA
        refine gv_i (va_runV (As := [.int (x3 / (8 : Int32)), .int (x3 - x3 / (8 : Int32) * (8 : Int32))]) (rest := [.int x3, .ref (a 14)]) ⟨hx, hb, hml, hown, hts⟩ (c_X7_haveDanced l D k a S0 H.size (x3 / (8 : Int32)) (x3 - x3 / (8 : Int32) * (8 : Int32)) _ h) (cwV 2 hts gX7_closes_X7_haveDanced rfl rfl rfl (by decide +kernel) ⟨Nat.le_of_ble_eq_true rfl, Nat.le_of_ble_eq_true rfl⟩) (gv_preV hK hnw hP hD (ci := 7) rfl 0 rfl) rfl rfl hl.1 rfl (lv_room (Nat.le_of_ble_eq_true rfl)) dX7_closes_50 ⟨Nat.zero_le _, Nat.zero_le _⟩) hS hFc (fun r_14 u_15 H locs h hP1 hD1 hk1 hS => ?_)
        have hP := hP1
        have hD := hD1.weaken (fun _ _ _ z => hFc _ z)
        refine lv_if_eq (tgt := 60) hx hb dX7_closes_53 (by decide) (fun c_16 => ?_) (fun c_16 => ?_)
        · have h := h.1 c_16
          refine lv_bipush (v := (-9 : Int32)) hx hb dX7_closes_60 (by decide) ?_
          refine va_iast hx hb hK hP hD hS 14 0 rfl rfl h.1 dX7_closes_62 (fun H locs hP hD hS => ?_)
          have h := h.2
          obtain ⟨S_17, e_18⟩ : ∃ z : St, z = (sA u_15 21 x3.toNatClampNeg (-9 : Int32)) := ⟨_, rfl⟩
          have h := h S_17 e_18
          have hP : va_P D vwCl (wMo k a S_17) H := by rw [e_18]; exact hP
          have hD : va_D A (wMo k a S_17) := by rw [e_18]; exact hD
          refine lv_iinc (v := (x3 + 1)) (lv' := [(3, .int (x3 + 1)), (0, .ref (a 0)), (1, .int x1), (2, .int x2)]) hx hb dX7_closes_63 hl (k := 3) rfl rfl (by decide) rfl (fun ls hl => ?_)
          refine lv_goto (tgt := 30) hx hb dX7_closes_66 (by decide) ?_
          exact ih S_17 (x3 + 1) H locs ls hP hD hS (lv_sub hl [1, 2, 3, 0] rfl) h
        · have h := h.2 c_16
          refine lv_iconst (v := (0 : Int32)) hx hb dX7_closes_56 (by decide) ?_
          refine lv_goto (tgt := 62) hx hb dX7_closes_57 (by decide) ?_
          refine va_iast hx hb hK hP hD hS 14 0 rfl rfl h.1 dX7_closes_62 (fun H locs hP hD hS => ?_)
          have h := h.2
          obtain ⟨S_19, e_20⟩ : ∃ z : St, z = (sA u_15 21 x3.toNatClampNeg (0 : Int32)) := ⟨_, rfl⟩
          have h := h S_19 e_20
          have hP : va_P D vwCl (wMo k a S_19) H := by rw [e_20]; exact hP
          have hD : va_D A (wMo k a S_19) := by rw [e_20]; exact hD
          refine lv_iinc (v := (x3 + 1)) (lv' := [(3, .int (x3 + 1)), (0, .ref (a 0)), (1, .int x1), (2, .int x2)]) hx hb dX7_closes_63 hl (k := 3) rfl rfl (by decide) rfl (fun ls hl => ?_)
          refine lv_goto (tgt := 30) hx hb dX7_closes_66 (by decide) ?_
          exact ih S_19 (x3 + 1) H locs ls hP hD hS (lv_sub hl [1, 2, 3, 0] rfl) h
  have L_2 : ∀ (n : Nat), ∀ (S0 : St) (x3 : Int32), ∀ (H : Heap) (locs : List Loc) (ls : Array Slot), va_P D vwCl (wMo k a S0) H → va_D A (wMo k a S0) → va_S A s.heap H locs → lv_has ls 5 [(0, .ref (a 0)), (1, .int x1), (2, .int x2), (3, .int x3)] → wp_X7_closes_2 x1 x2 Q n S0 x3 → W p l e rmX7_closes s m ([.ref (a 0), .int x1, .int x2] : List Value).toArray below meth c H locs 0 0 (MQ below (va_Qi (fun (r : Int32) (u : St) => Q r u) (cB D k A (fun u : St => wMo k a u)) A) ([.ref (a 0), .int x1, .int x2] : List Value).toArray s 0 0 A) (F0 m 2 ls []) := by
    intro n
    induction n with
    | zero => intro S0 x3 H locs ls hP hD hS hl h; exact absurd h (by unfold wp_X7_closes_2; exact id)
    | succ n ih =>
      intro S0 x3 H locs ls hP hD hS hl h
      unfold wp_X7_closes_2 at h
      refine lv_iload_n hx hb dX7_closes_2 rfl (lv_at hl 3 rfl) ?_
      refine lv_aload_n hx hb dX7_closes_3 rfl (lv_at hl 0 rfl) ?_
      refine va_get (D := D) (ci := 7) (v := .int (S0.1 5)) (C := RX7) (T := TX7) (N := 33) hx hb hts in_Mo hown hK hP 0 rfl rfl 5 (by decide) ln_70 (fun _ h9 => h9) rfl dX7_closes_4 ?_
      refine lv_icmp_ge (tgt := 28) hx hb dX7_closes_7 (by decide) (fun c_1 => ?_) (fun c_1 => ?_)
      · have h := h.1 c_1
        refine lv_iconst (v := (0 : Int32)) hx hb dX7_closes_28 (by decide) ?_
        refine lv_istore_n (lv' := [(3, .int (0 : Int32)), (0, .ref (a 0)), (1, .int x1), (2, .int x2)]) hx hb dX7_closes_29 rfl hl (by decide) rfl (fun ls hl => ?_)
        obtain ⟨n_21, h⟩ := h
        exact L_30 n_21 S0 (0 : Int32) H locs ls hP hD hS (lv_sub hl [1, 2, 3, 0] rfl) h
      · have h := h.2 c_1
        refine lv_aload_n hx hb dX7_closes_10 rfl (lv_at hl 0 rfl) ?_
        refine va_get (D := D) (ci := 7) (v := .ref (a 12)) (C := RX7) (T := TX7) (N := 33) hx hb hts in_Mo hown hK hP 0 rfl rfl 19 (by decide) ln_43 (fun _ h9 => h9) rfl dX7_closes_11 ?_
        refine lv_iload_n hx hb dX7_closes_14 rfl (lv_at hl 3 rfl) ?_
        refine lv_aload_n hx hb dX7_closes_15 rfl (lv_at hl 0 rfl) ?_
        refine va_get (D := D) (ci := 7) (v := .ref (a 5)) (C := RX7) (T := TX7) (N := 33) hx hb hts in_Mo hown hK hP 0 rfl rfl 4 (by decide) ln_22 (fun _ h9 => h9) rfl dX7_closes_16 ?_
        refine lv_iload_n hx hb dX7_closes_19 rfl (lv_at hl 3 rfl) ?_
        refine va_iald hx hb hK hP 5 0 rfl rfl h.1 dX7_closes_20 ?_
        have h := h.2
        refine va_iast hx hb hK hP hD hS 12 0 rfl rfl h.1 dX7_closes_21 (fun H locs hP hD hS => ?_)
        have h := h.2
        obtain ⟨S_22, e_23⟩ : ∃ z : St, z = (sA S0 19 x3.toNatClampNeg (S0.2 4 x3.toNatClampNeg)) := ⟨_, rfl⟩
        have h := h S_22 e_23
        have hP : va_P D vwCl (wMo k a S_22) H := by rw [e_23]; exact hP
        have hD : va_D A (wMo k a S_22) := by rw [e_23]; exact hD
        refine lv_iinc (v := (x3 + 1)) (lv' := [(3, .int (x3 + 1)), (0, .ref (a 0)), (1, .int x1), (2, .int x2)]) hx hb dX7_closes_22 hl (k := 3) rfl rfl (by decide) rfl (fun ls hl => ?_)
        refine lv_goto (tgt := 2) hx hb dX7_closes_25 (by decide) ?_
        exact ih S_22 (x3 + 1) H locs ls hP hD hS (lv_sub hl [1, 2, 3, 0] rfl) h
  unfold wp_X7_closes at h
  refine lv_iconst (v := (0 : Int32)) hx hb dX7_closes_0 (by decide) ?_
  refine lv_istore_n (lv' := [(3, .int (0 : Int32)), (0, .ref (a 0)), (1, .int x1), (2, .int x2)]) hx hb dX7_closes_1 rfl hl (by decide) rfl (fun ls hl => ?_)
  obtain ⟨n_24, h⟩ := h
  exact L_2 n_24 S0 (0 : Int32) H locs ls hP hD hS (lv_sub hl [1, 2, 3, 0] rfl) h
/-! X7_ever -/
def wp_X7_ever (S0 : St) (x1 : Int32) (x2 : Int32) (Q : Int32 → St → Prop) : Prop := wp_X7_areTwo S0 x1 x2 (fun r_1 u_2 => ((¬ r_1 = 0) → (wp_X7_closes u_2 (u_2.1 6) (-9 : Int32) (fun r_4 u_5 => vp_in x1 8 ∧ (Q (((u_5.2 19 x1.toNatClampNeg) >>> (x2 &&& 31)) &&& (1 : Int32)) u_5)))) ∧ ((r_1 = 0) → (wp_X7_no u_2 (-1 : Int32) (fun r_6 u_7 => Q r_6 u_7))))
abbrev rmX7_ever : Room := { frames := 4, cells := 0, slots := 0, locals := 96 }
set_option maxRecDepth 100000 in
set_option maxHeartbeats 4000000 in
theorem c_X7_ever (l : Launch) (D : va_G) (k : Nat → ClassId) (a : Nat → Nat) (S0 : St) (sz : Nat) (x1 : Int32) (x2 : Int32) (Q : Int32 → St → Prop) (h : wp_X7_ever S0 x1 x2 Q) : Met l yX7_ever wsX7_ever rmX7_ever (cPc D k (wMo k a S0) [.ref (a 0), .int x1, .int x2] sz) (va_Qi (fun (r : Int32) (u : St) => Q r u) (cB D k (va_A (wMo k a S0) sz) (fun u : St => wMo k a u)) (va_A (wMo k a S0) sz)) 0 0 (va_A (wMo k a S0) sz) := by
  refine ct_entry (cc := cX7_ever) (maxL := 3) (ret := (some .int)) (Rn := RX7) (Qc := fun A => (va_Qi (fun (r : Int32) (u : St) => Q r u) (cB D k A (fun u : St => wMo k a u)) A)) (by decide) rfl rfl (Nat.le_of_ble_eq_true rfl) ?_
  intro p e s m below meth c hx hb hr hlocks hml hts hown hnw hK A hA H locs hP hD hS ls hl
  have hl : lv_has ls 3 [(0, .ref (a 0)), (1, .int x1), (2, .int x2)] := hl
  have ln_109 := hts (.fieldLink RX7 109 "WithTheSameOneModel" "law" "I") (by decide +kernel)
  have ln_43 := hts (.fieldLink RX7 43 "WithTheSameOneModel" "end" "[I") (by decide +kernel)
  have in_Mo : ∀ w ∈ wsX70, w ∈ wsX7_ever := fun _ h => List.mem_cons_of_mem _ (List.mem_append_right _ h)
  unfold wp_X7_ever at h
  refine lv_aload_n hx hb dX7_ever_0 rfl (lv_at hl 0 rfl) ?_
  refine lv_iload_n hx hb dX7_ever_1 rfl (lv_at hl 1 rfl) ?_
  refine lv_iload_n hx hb dX7_ever_2 rfl (lv_at hl 2 rfl) ?_
  have hFc := fr_self hD hS hA
  refine gv_i (va_runV (As := [.int x1, .int x2]) (rest := []) ⟨hx, hb, hml, hown, hts⟩ (c_X7_areTwo l D k a S0 H.size x1 x2 _ h) (cwV 2 hts gX7_ever_X7_areTwo rfl rfl rfl (by decide +kernel) ⟨Nat.le_of_ble_eq_true rfl, Nat.le_of_ble_eq_true rfl⟩) (gv_preV hK hnw hP hD (ci := 7) rfl 0 rfl) rfl rfl hl.1 rfl (lv_room (Nat.le_of_ble_eq_true rfl)) dX7_ever_3 ⟨Nat.zero_le _, Nat.zero_le _⟩) hS hFc (fun r_1 u_2 H locs h hP1 hD1 hk1 hS => ?_)
  have hP := hP1
  have hD := hD1.weaken (fun _ _ _ z => hFc _ z)
  refine lv_if_ne (tgt := 15) hx hb dX7_ever_6 (by decide) (fun c_3 => ?_) (fun c_3 => ?_)
  · have h := h.1 c_3
    refine lv_aload_n hx hb dX7_ever_15 rfl (lv_at hl 0 rfl) ?_
    refine lv_aload_n hx hb dX7_ever_16 rfl (lv_at hl 0 rfl) ?_
    refine va_get (D := D) (ci := 7) (v := .int (u_2.1 6)) (C := RX7) (T := TX7) (N := 33) hx hb hts in_Mo hown hK hP 0 rfl rfl 6 (by decide) ln_109 (fun _ h9 => h9) rfl dX7_ever_17 ?_
    refine lv_bipush (v := (-9 : Int32)) hx hb dX7_ever_20 (by decide) ?_
    have hFc := fr_self hD hS hA
    refine gv_i (va_runV (As := [.int (u_2.1 6), .int (-9 : Int32)]) (rest := []) ⟨hx, hb, hml, hown, hts⟩ (c_X7_closes l D k a u_2 H.size (u_2.1 6) (-9 : Int32) _ h) (cwV 2 hts gX7_ever_X7_closes rfl rfl rfl (by decide +kernel) ⟨Nat.le_of_ble_eq_true rfl, Nat.le_of_ble_eq_true rfl⟩) (gv_preV hK hnw hP hD (ci := 7) rfl 0 rfl) rfl rfl hl.1 rfl (lv_room (Nat.le_of_ble_eq_true rfl)) dX7_ever_22 ⟨Nat.zero_le _, Nat.zero_le _⟩) hS hFc (fun r_4 u_5 H locs h hP1 hD1 hk1 hS => ?_)
    have hP := hP1
    have hD := hD1.weaken (fun _ _ _ z => hFc _ z)
    refine lv_pop hx hb dX7_ever_25 rfl ?_
    refine lv_aload_n hx hb dX7_ever_26 rfl (lv_at hl 0 rfl) ?_
    refine va_get (D := D) (ci := 7) (v := .ref (a 12)) (C := RX7) (T := TX7) (N := 33) hx hb hts in_Mo hown hK hP 0 rfl rfl 19 (by decide) ln_43 (fun _ h9 => h9) rfl dX7_ever_27 ?_
    refine lv_iload_n hx hb dX7_ever_30 rfl (lv_at hl 1 rfl) ?_
    refine va_iald hx hb hK hP 12 0 rfl rfl h.1 dX7_ever_31 ?_
    have h := h.2
    refine lv_iload_n hx hb dX7_ever_32 rfl (lv_at hl 2 rfl) ?_
    refine lv_ishr hx hb dX7_ever_33 ?_
    refine lv_iconst (v := (1 : Int32)) hx hb dX7_ever_34 (by decide) ?_
    refine lv_iand hx hb dX7_ever_35 ?_
    exact W.iret (v := (((u_5.2 19 x1.toNatClampNeg) >>> (x2 &&& 31)) &&& (1 : Int32))) hx hb hr (fun t ht hW => ⟨⟨(((u_5.2 19 x1.toNatClampNeg) >>> (x2 &&& 31)) &&& (1 : Int32)), u_5, rfl, h, by rw [ht]; exact hP, va_K.moved hW.alike hK, hD⟩, hS.F ht⟩) hS.2.2 dX7_ever_36
  · have h := h.2 c_3
    refine lv_aload_n hx hb dX7_ever_9 rfl (lv_at hl 0 rfl) ?_
    refine lv_iconst (v := (-1 : Int32)) hx hb dX7_ever_10 (by decide) ?_
    have hFc := fr_self hD hS hA
    refine gv_i (va_runV (As := [.int (-1 : Int32)]) (rest := []) ⟨hx, hb, hml, hown, hts⟩ (c_X7_no l D k a u_2 H.size (-1 : Int32) _ h) (cwV 1 hts gX7_ever_X7_no rfl rfl rfl (by decide +kernel) ⟨Nat.le_of_ble_eq_true rfl, Nat.le_of_ble_eq_true rfl⟩) (gv_preV hK hnw hP hD (ci := 7) rfl 0 rfl) rfl rfl hl.1 rfl (lv_room (Nat.le_of_ble_eq_true rfl)) dX7_ever_11 ⟨Nat.zero_le _, Nat.zero_le _⟩) hS hFc (fun r_6 u_7 H locs h hP1 hD1 hk1 hS => ?_)
    have hP := hP1
    have hD := hD1.weaken (fun _ _ _ z => hFc _ z)
    exact W.iret (v := r_6) hx hb hr (fun t ht hW => ⟨⟨r_6, u_7, rfl, h, by rw [ht]; exact hP, va_K.moved hW.alike hK, hD⟩, hS.F ht⟩) hS.2.2 dX7_ever_14
/-! X7_round -/
def wp_X7_round (S0 : St) (x1 : Int32) (x2 : Int32) (Q : Int32 → St → Prop) : Prop := wp_X7_areTwo S0 x1 x2 (fun r_1 u_2 => ((¬ r_1 = 0) → (wp_X7_closes u_2 (u_2.1 6) (-9 : Int32) (fun r_4 u_5 => ((x2 ≤ x1) → (vp_in (((8 : Int32) * x2) + x1) 64 ∧ (Q (u_5.2 21 (((8 : Int32) * x2) + x1).toNatClampNeg) u_5))) ∧ ((¬ x2 ≤ x1) → (vp_in (((8 : Int32) * x1) + x2) 64 ∧ (Q (u_5.2 21 (((8 : Int32) * x1) + x2).toNatClampNeg) u_5)))))) ∧ ((r_1 = 0) → (wp_X7_no u_2 (-1 : Int32) (fun r_7 u_8 => Q r_7 u_8))))
abbrev rmX7_round : Room := { frames := 4, cells := 0, slots := 0, locals := 96 }
set_option maxRecDepth 100000 in
set_option maxHeartbeats 4000000 in
theorem c_X7_round (l : Launch) (D : va_G) (k : Nat → ClassId) (a : Nat → Nat) (S0 : St) (sz : Nat) (x1 : Int32) (x2 : Int32) (Q : Int32 → St → Prop) (h : wp_X7_round S0 x1 x2 Q) : Met l yX7_round wsX7_round rmX7_round (cPc D k (wMo k a S0) [.ref (a 0), .int x1, .int x2] sz) (va_Qi (fun (r : Int32) (u : St) => Q r u) (cB D k (va_A (wMo k a S0) sz) (fun u : St => wMo k a u)) (va_A (wMo k a S0) sz)) 0 0 (va_A (wMo k a S0) sz) := by
  refine ct_entry (cc := cX7_round) (maxL := 3) (ret := (some .int)) (Rn := RX7) (Qc := fun A => (va_Qi (fun (r : Int32) (u : St) => Q r u) (cB D k A (fun u : St => wMo k a u)) A)) (by decide) rfl rfl (Nat.le_of_ble_eq_true rfl) ?_
  intro p e s m below meth c hx hb hr hlocks hml hts hown hnw hK A hA H locs hP hD hS ls hl
  have hl : lv_has ls 3 [(0, .ref (a 0)), (1, .int x1), (2, .int x2)] := hl
  have ln_109 := hts (.fieldLink RX7 109 "WithTheSameOneModel" "law" "I") (by decide +kernel)
  have ln_49 := hts (.fieldLink RX7 49 "WithTheSameOneModel" "roundOf" "[I") (by decide +kernel)
  have in_Mo : ∀ w ∈ wsX70, w ∈ wsX7_round := fun _ h => List.mem_cons_of_mem _ (List.mem_append_right _ h)
  unfold wp_X7_round at h
  refine lv_aload_n hx hb dX7_round_0 rfl (lv_at hl 0 rfl) ?_
  refine lv_iload_n hx hb dX7_round_1 rfl (lv_at hl 1 rfl) ?_
  refine lv_iload_n hx hb dX7_round_2 rfl (lv_at hl 2 rfl) ?_
  have hFc := fr_self hD hS hA
  refine gv_i (va_runV (As := [.int x1, .int x2]) (rest := []) ⟨hx, hb, hml, hown, hts⟩ (c_X7_areTwo l D k a S0 H.size x1 x2 _ h) (cwV 2 hts gX7_round_X7_areTwo rfl rfl rfl (by decide +kernel) ⟨Nat.le_of_ble_eq_true rfl, Nat.le_of_ble_eq_true rfl⟩) (gv_preV hK hnw hP hD (ci := 7) rfl 0 rfl) rfl rfl hl.1 rfl (lv_room (Nat.le_of_ble_eq_true rfl)) dX7_round_3 ⟨Nat.zero_le _, Nat.zero_le _⟩) hS hFc (fun r_1 u_2 H locs h hP1 hD1 hk1 hS => ?_)
  have hP := hP1
  have hD := hD1.weaken (fun _ _ _ z => hFc _ z)
  refine lv_if_ne (tgt := 15) hx hb dX7_round_6 (by decide) (fun c_3 => ?_) (fun c_3 => ?_)
  · have h := h.1 c_3
    refine lv_aload_n hx hb dX7_round_15 rfl (lv_at hl 0 rfl) ?_
    refine lv_aload_n hx hb dX7_round_16 rfl (lv_at hl 0 rfl) ?_
    refine va_get (D := D) (ci := 7) (v := .int (u_2.1 6)) (C := RX7) (T := TX7) (N := 33) hx hb hts in_Mo hown hK hP 0 rfl rfl 6 (by decide) ln_109 (fun _ h9 => h9) rfl dX7_round_17 ?_
    refine lv_bipush (v := (-9 : Int32)) hx hb dX7_round_20 (by decide) ?_
    have hFc := fr_self hD hS hA
    refine gv_i (va_runV (As := [.int (u_2.1 6), .int (-9 : Int32)]) (rest := []) ⟨hx, hb, hml, hown, hts⟩ (c_X7_closes l D k a u_2 H.size (u_2.1 6) (-9 : Int32) _ h) (cwV 2 hts gX7_round_X7_closes rfl rfl rfl (by decide +kernel) ⟨Nat.le_of_ble_eq_true rfl, Nat.le_of_ble_eq_true rfl⟩) (gv_preV hK hnw hP hD (ci := 7) rfl 0 rfl) rfl rfl hl.1 rfl (lv_room (Nat.le_of_ble_eq_true rfl)) dX7_round_22 ⟨Nat.zero_le _, Nat.zero_le _⟩) hS hFc (fun r_4 u_5 H locs h hP1 hD1 hk1 hS => ?_)
    have hP := hP1
    have hD := hD1.weaken (fun _ _ _ z => hFc _ z)
    refine lv_pop hx hb dX7_round_25 rfl ?_
    refine lv_iload_n hx hb dX7_round_26 rfl (lv_at hl 1 rfl) ?_
    refine lv_iload_n hx hb dX7_round_27 rfl (lv_at hl 2 rfl) ?_
    refine lv_icmp_ge (tgt := 45) hx hb dX7_round_28 (by decide) (fun c_6 => ?_) (fun c_6 => ?_)
    · have h := h.1 c_6
      refine lv_aload_n hx hb dX7_round_45 rfl (lv_at hl 0 rfl) ?_
      refine va_get (D := D) (ci := 7) (v := .ref (a 14)) (C := RX7) (T := TX7) (N := 33) hx hb hts in_Mo hown hK hP 0 rfl rfl 21 (by decide) ln_49 (fun _ h9 => h9) rfl dX7_round_46 ?_
      refine lv_bipush (v := (8 : Int32)) hx hb dX7_round_49 (by decide) ?_
      refine lv_iload_n hx hb dX7_round_51 rfl (lv_at hl 2 rfl) ?_
      refine lv_imul hx hb dX7_round_52 ?_
      refine lv_iload_n hx hb dX7_round_53 rfl (lv_at hl 1 rfl) ?_
      refine lv_iadd hx hb dX7_round_54 ?_
      refine va_iald hx hb hK hP 14 0 rfl rfl h.1 dX7_round_55 ?_
      have h := h.2
      exact W.iret (v := (u_5.2 21 (((8 : Int32) * x2) + x1).toNatClampNeg)) hx hb hr (fun t ht hW => ⟨⟨(u_5.2 21 (((8 : Int32) * x2) + x1).toNatClampNeg), u_5, rfl, h, by rw [ht]; exact hP, va_K.moved hW.alike hK, hD⟩, hS.F ht⟩) hS.2.2 dX7_round_56
    · have h := h.2 c_6
      refine lv_aload_n hx hb dX7_round_31 rfl (lv_at hl 0 rfl) ?_
      refine va_get (D := D) (ci := 7) (v := .ref (a 14)) (C := RX7) (T := TX7) (N := 33) hx hb hts in_Mo hown hK hP 0 rfl rfl 21 (by decide) ln_49 (fun _ h9 => h9) rfl dX7_round_32 ?_
      refine lv_bipush (v := (8 : Int32)) hx hb dX7_round_35 (by decide) ?_
      refine lv_iload_n hx hb dX7_round_37 rfl (lv_at hl 1 rfl) ?_
      refine lv_imul hx hb dX7_round_38 ?_
      refine lv_iload_n hx hb dX7_round_39 rfl (lv_at hl 2 rfl) ?_
      refine lv_iadd hx hb dX7_round_40 ?_
      refine va_iald hx hb hK hP 14 0 rfl rfl h.1 dX7_round_41 ?_
      have h := h.2
      refine lv_goto (tgt := 56) hx hb dX7_round_42 (by decide) ?_
      exact W.iret (v := (u_5.2 21 (((8 : Int32) * x1) + x2).toNatClampNeg)) hx hb hr (fun t ht hW => ⟨⟨(u_5.2 21 (((8 : Int32) * x1) + x2).toNatClampNeg), u_5, rfl, h, by rw [ht]; exact hP, va_K.moved hW.alike hK, hD⟩, hS.F ht⟩) hS.2.2 dX7_round_56
  · have h := h.2 c_3
    refine lv_aload_n hx hb dX7_round_9 rfl (lv_at hl 0 rfl) ?_
    refine lv_iconst (v := (-1 : Int32)) hx hb dX7_round_10 (by decide) ?_
    have hFc := fr_self hD hS hA
    refine gv_i (va_runV (As := [.int (-1 : Int32)]) (rest := []) ⟨hx, hb, hml, hown, hts⟩ (c_X7_no l D k a u_2 H.size (-1 : Int32) _ h) (cwV 1 hts gX7_round_X7_no rfl rfl rfl (by decide +kernel) ⟨Nat.le_of_ble_eq_true rfl, Nat.le_of_ble_eq_true rfl⟩) (gv_preV hK hnw hP hD (ci := 7) rfl 0 rfl) rfl rfl hl.1 rfl (lv_room (Nat.le_of_ble_eq_true rfl)) dX7_round_11 ⟨Nat.zero_le _, Nat.zero_le _⟩) hS hFc (fun r_7 u_8 H locs h hP1 hD1 hk1 hS => ?_)
    have hP := hP1
    have hD := hD1.weaken (fun _ _ _ z => hFc _ z)
    exact W.iret (v := r_7) hx hb hr (fun t ht hW => ⟨⟨r_7, u_8, rfl, h, by rw [ht]; exact hP, va_K.moved hW.alike hK, hD⟩, hS.F ht⟩) hS.2.2 dX7_round_14
/-! X7_heaps -/
def wp_X7_heaps_50 (K38 : St → Int32 → Int32 → Int32 → Int32 → Prop) (K6 : St → Int32 → Int32 → Int32 → Prop) (Q : Int32 → St → Prop) : Nat → St → Int32 → Int32 → Int32 → Int32 → Int32 → Prop
  | 0, _, _, _, _, _, _ => False
  | n + 1, S0, x1, x2, x3, x4, x5 => (((S0.1 5) ≤ x5) → (K38 S0 x1 x2 x3 (x4 + 1))) ∧ ((¬ (S0.1 5) ≤ x5) → (((¬ ((x2 >>> (x5 &&& 31)) &&& (1 : Int32)) = (1 : Int32)) → (wp_X7_heaps_50 K38 K6 Q n S0 x1 (x2 ||| (0 : Int32)) x3 x4 (x5 + 1))) ∧ ((((x2 >>> (x5 &&& 31)) &&& (1 : Int32)) = (1 : Int32)) → (vp_in x5 8 ∧ (wp_X7_heaps_50 K38 K6 Q n S0 x1 (x2 ||| (S0.2 4 x5.toNatClampNeg)) x3 x4 (x5 + 1))))))
def wp_X7_heaps_38 (K6 : St → Int32 → Int32 → Int32 → Prop) (Q : Int32 → St → Prop) : Nat → St → Int32 → Int32 → Int32 → Int32 → Prop
  | 0, _, _, _, _, _ => False
  | n + 1, S0, x1, x2, x3, x4 => (((S0.1 5) ≤ x4) → (K6 S0 x1 x2 (x3 + 1))) ∧ ((¬ (S0.1 5) ≤ x4) → (∃ i, wp_X7_heaps_50 (fun s0 v0 v1 v2 v3 => wp_X7_heaps_38 K6 Q n s0 v0 v1 v2 v3) K6 Q i S0 x1 x2 x3 x4 (0 : Int32)))
def wp_X7_heaps_6 (Q : Int32 → St → Prop) : Nat → St → Int32 → Int32 → Int32 → Prop
  | 0, _, _, _, _ => False
  | n + 1, S0, x1, x2, x3 => (((S0.1 5) ≤ x3) → (Q x1 S0)) ∧ ((¬ (S0.1 5) ≤ x3) → (((¬ ((x2 >>> (x3 &&& 31)) &&& (1 : Int32)) = (1 : Int32)) → (∃ i, wp_X7_heaps_38 (fun s0 v0 v1 v2 => wp_X7_heaps_6 Q n s0 v0 v1 v2) Q i S0 (x1 + 1) (x2 ||| ((1 : Int32) <<< (x3 &&& 31))) x3 (0 : Int32))) ∧ ((((x2 >>> (x3 &&& 31)) &&& (1 : Int32)) = (1 : Int32)) → (wp_X7_heaps_6 Q n S0 x1 x2 (x3 + 1)))))
def wp_X7_heaps (S0 : St) (Q : Int32 → St → Prop) : Prop := ∃ i, wp_X7_heaps_6 Q i S0 (0 : Int32) (0 : Int32) (0 : Int32)
abbrev rmX7_heaps : Room := { frames := 0, cells := 0, slots := 0, locals := 0 }
set_option maxRecDepth 100000 in
set_option maxHeartbeats 4000000 in
theorem c_X7_heaps (l : Launch) (D : va_G) (k : Nat → ClassId) (a : Nat → Nat) (S0 : St) (sz : Nat) (Q : Int32 → St → Prop) (h : wp_X7_heaps S0 Q) : Met l yX7_heaps wsX7_heaps rmX7_heaps (cPc D k (wMo k a S0) [.ref (a 0)] sz) (va_Qi (fun (r : Int32) (u : St) => Q r u) (cB D k (va_A (wMo k a S0) sz) (fun u : St => wMo k a u)) (va_A (wMo k a S0) sz)) 0 0 (va_A (wMo k a S0) sz) := by
  refine ct_entry (cc := cX7_heaps) (maxL := 6) (ret := (some .int)) (Rn := RX7) (Qc := fun A => (va_Qi (fun (r : Int32) (u : St) => Q r u) (cB D k A (fun u : St => wMo k a u)) A)) (by decide) rfl rfl (Nat.le_of_ble_eq_true rfl) ?_
  intro p e s m below meth c hx hb hr hlocks hml hts hown hnw hK A hA H locs hP hD hS ls hl
  have hl : lv_has ls 6 [(0, .ref (a 0))] := hl
  have ln_22 := hts (.fieldLink RX7 22 "WithTheSameOneModel" "with" "[I") (by decide +kernel)
  have ln_70 := hts (.fieldLink RX7 70 "WithTheSameOneModel" "dancers" "I") (by decide +kernel)
  have in_Mo : ∀ w ∈ wsX70, w ∈ wsX7_heaps := fun _ h => List.mem_cons_of_mem _ (List.mem_append_right _ h)
  have L_50 : ∀ (K38 : St → Int32 → Int32 → Int32 → Int32 → Prop), (∀ (S0 : St) (x1 : Int32) (x2 : Int32) (x3 : Int32) (x4 : Int32), ∀ (H : Heap) (locs : List Loc) (ls : Array Slot), va_P D vwCl (wMo k a S0) H → va_D A (wMo k a S0) → va_S A s.heap H locs → lv_has ls 6 [(0, .ref (a 0)), (1, .int x1), (2, .int x2), (3, .int x3), (4, .int x4)] → K38 S0 x1 x2 x3 x4 → W p l e rmX7_heaps s m ([.ref (a 0)] : List Value).toArray below meth c H locs 0 0 (MQ below (va_Qi (fun (r : Int32) (u : St) => Q r u) (cB D k A (fun u : St => wMo k a u)) A) ([.ref (a 0)] : List Value).toArray s 0 0 A) (F0 m 38 ls [])) → ∀ (K6 : St → Int32 → Int32 → Int32 → Prop), (∀ (S0 : St) (x1 : Int32) (x2 : Int32) (x3 : Int32), ∀ (H : Heap) (locs : List Loc) (ls : Array Slot), va_P D vwCl (wMo k a S0) H → va_D A (wMo k a S0) → va_S A s.heap H locs → lv_has ls 6 [(0, .ref (a 0)), (1, .int x1), (2, .int x2), (3, .int x3)] → K6 S0 x1 x2 x3 → W p l e rmX7_heaps s m ([.ref (a 0)] : List Value).toArray below meth c H locs 0 0 (MQ below (va_Qi (fun (r : Int32) (u : St) => Q r u) (cB D k A (fun u : St => wMo k a u)) A) ([.ref (a 0)] : List Value).toArray s 0 0 A) (F0 m 6 ls [])) → ∀ (n : Nat), ∀ (S0 : St) (x1 : Int32) (x2 : Int32) (x3 : Int32) (x4 : Int32) (x5 : Int32), ∀ (H : Heap) (locs : List Loc) (ls : Array Slot), va_P D vwCl (wMo k a S0) H → va_D A (wMo k a S0) → va_S A s.heap H locs → lv_has ls 6 [(0, .ref (a 0)), (1, .int x1), (2, .int x2), (3, .int x3), (4, .int x4), (5, .int x5)] → wp_X7_heaps_50 K38 K6 Q n S0 x1 x2 x3 x4 x5 → W p l e rmX7_heaps s m ([.ref (a 0)] : List Value).toArray below meth c H locs 0 0 (MQ below (va_Qi (fun (r : Int32) (u : St) => Q r u) (cB D k A (fun u : St => wMo k a u)) A) ([.ref (a 0)] : List Value).toArray s 0 0 A) (F0 m 50 ls []) := by
    intro K38 hK38 K6 hK6
    intro n
    induction n with
    | zero => intro S0 x1 x2 x3 x4 x5 H locs ls hP hD hS hl h; exact absurd h (by unfold wp_X7_heaps_50; exact id)
    | succ n ih =>
      intro S0 x1 x2 x3 x4 x5 H locs ls hP hD hS hl h
      unfold wp_X7_heaps_50 at h
      refine lv_iload hx hb dX7_heaps_50 (lv_at hl 5 rfl) ?_
      refine lv_aload_n hx hb dX7_heaps_52 rfl (lv_at hl 0 rfl) ?_
      refine va_get (D := D) (ci := 7) (v := .int (S0.1 5)) (C := RX7) (T := TX7) (N := 33) hx hb hts in_Mo hown hK hP 0 rfl rfl 5 (by decide) ln_70 (fun _ h9 => h9) rfl dX7_heaps_53 ?_
      refine lv_icmp_ge (tgt := 89) hx hb dX7_heaps_56 (by decide) (fun c_4 => ?_) (fun c_4 => ?_)
      · have h := h.1 c_4
        refine lv_iinc (v := (x4 + 1)) (lv' := [(4, .int (x4 + 1)), (0, .ref (a 0)), (1, .int x1), (2, .int x2), (3, .int x3), (5, .int x5)]) hx hb dX7_heaps_89 hl (k := 4) rfl rfl (by decide) rfl (fun ls hl => ?_)
        refine lv_goto (tgt := 38) hx hb dX7_heaps_92 (by decide) ?_
        exact hK38 S0 x1 x2 x3 (x4 + 1) H locs ls hP hD hS (lv_sub hl [1, 2, 3, 4, 0] rfl) h
      · have h := h.2 c_4
        refine lv_iload_n hx hb dX7_heaps_59 rfl (lv_at hl 2 rfl) ?_
        refine lv_iload_n hx hb dX7_heaps_60 rfl (lv_at hl 2 rfl) ?_
        refine lv_iload hx hb dX7_heaps_61 (lv_at hl 5 rfl) ?_
        refine lv_ishr hx hb dX7_heaps_63 ?_
        refine lv_iconst (v := (1 : Int32)) hx hb dX7_heaps_64 (by decide) ?_
        refine lv_iand hx hb dX7_heaps_65 ?_
        refine lv_iconst (v := (1 : Int32)) hx hb dX7_heaps_66 (by decide) ?_
        refine lv_icmp_ne (tgt := 80) hx hb dX7_heaps_67 (by decide) (fun c_5 => ?_) (fun c_5 => ?_)
        · have h := h.1 c_5
          refine lv_iconst (v := (0 : Int32)) hx hb dX7_heaps_80 (by decide) ?_
          refine lv_ior hx hb dX7_heaps_81 ?_
          refine lv_istore_n (lv' := [(2, .int (x2 ||| (0 : Int32))), (0, .ref (a 0)), (1, .int x1), (3, .int x3), (4, .int x4), (5, .int x5)]) hx hb dX7_heaps_82 rfl hl (by decide) rfl (fun ls hl => ?_)
          refine lv_iinc (v := (x5 + 1)) (lv' := [(5, .int (x5 + 1)), (2, .int (x2 ||| (0 : Int32))), (0, .ref (a 0)), (1, .int x1), (3, .int x3), (4, .int x4)]) hx hb dX7_heaps_83 hl (k := 5) rfl rfl (by decide) rfl (fun ls hl => ?_)
          refine lv_goto (tgt := 50) hx hb dX7_heaps_86 (by decide) ?_
          exact ih S0 x1 (x2 ||| (0 : Int32)) x3 x4 (x5 + 1) H locs ls hP hD hS (lv_sub hl [2, 3, 1, 4, 5, 0] rfl) h
        · have h := h.2 c_5
          refine lv_aload_n hx hb dX7_heaps_70 rfl (lv_at hl 0 rfl) ?_
          refine va_get (D := D) (ci := 7) (v := .ref (a 5)) (C := RX7) (T := TX7) (N := 33) hx hb hts in_Mo hown hK hP 0 rfl rfl 4 (by decide) ln_22 (fun _ h9 => h9) rfl dX7_heaps_71 ?_
          refine lv_iload hx hb dX7_heaps_74 (lv_at hl 5 rfl) ?_
          refine va_iald hx hb hK hP 5 0 rfl rfl h.1 dX7_heaps_76 ?_
          have h := h.2
          refine lv_goto (tgt := 81) hx hb dX7_heaps_77 (by decide) ?_
          refine lv_ior hx hb dX7_heaps_81 ?_
          refine lv_istore_n (lv' := [(2, .int (x2 ||| (S0.2 4 x5.toNatClampNeg))), (0, .ref (a 0)), (1, .int x1), (3, .int x3), (4, .int x4), (5, .int x5)]) hx hb dX7_heaps_82 rfl hl (by decide) rfl (fun ls hl => ?_)
          refine lv_iinc (v := (x5 + 1)) (lv' := [(5, .int (x5 + 1)), (2, .int (x2 ||| (S0.2 4 x5.toNatClampNeg))), (0, .ref (a 0)), (1, .int x1), (3, .int x3), (4, .int x4)]) hx hb dX7_heaps_83 hl (k := 5) rfl rfl (by decide) rfl (fun ls hl => ?_)
          refine lv_goto (tgt := 50) hx hb dX7_heaps_86 (by decide) ?_
          exact ih S0 x1 (x2 ||| (S0.2 4 x5.toNatClampNeg)) x3 x4 (x5 + 1) H locs ls hP hD hS (lv_sub hl [2, 3, 1, 4, 5, 0] rfl) h
  have L_38 : ∀ (K6 : St → Int32 → Int32 → Int32 → Prop), (∀ (S0 : St) (x1 : Int32) (x2 : Int32) (x3 : Int32), ∀ (H : Heap) (locs : List Loc) (ls : Array Slot), va_P D vwCl (wMo k a S0) H → va_D A (wMo k a S0) → va_S A s.heap H locs → lv_has ls 6 [(0, .ref (a 0)), (1, .int x1), (2, .int x2), (3, .int x3)] → K6 S0 x1 x2 x3 → W p l e rmX7_heaps s m ([.ref (a 0)] : List Value).toArray below meth c H locs 0 0 (MQ below (va_Qi (fun (r : Int32) (u : St) => Q r u) (cB D k A (fun u : St => wMo k a u)) A) ([.ref (a 0)] : List Value).toArray s 0 0 A) (F0 m 6 ls [])) → ∀ (n : Nat), ∀ (S0 : St) (x1 : Int32) (x2 : Int32) (x3 : Int32) (x4 : Int32), ∀ (H : Heap) (locs : List Loc) (ls : Array Slot), va_P D vwCl (wMo k a S0) H → va_D A (wMo k a S0) → va_S A s.heap H locs → lv_has ls 6 [(0, .ref (a 0)), (1, .int x1), (2, .int x2), (3, .int x3), (4, .int x4)] → wp_X7_heaps_38 K6 Q n S0 x1 x2 x3 x4 → W p l e rmX7_heaps s m ([.ref (a 0)] : List Value).toArray below meth c H locs 0 0 (MQ below (va_Qi (fun (r : Int32) (u : St) => Q r u) (cB D k A (fun u : St => wMo k a u)) A) ([.ref (a 0)] : List Value).toArray s 0 0 A) (F0 m 38 ls []) := by
    intro K6 hK6
    intro n
    induction n with
    | zero => intro S0 x1 x2 x3 x4 H locs ls hP hD hS hl h; exact absurd h (by unfold wp_X7_heaps_38; exact id)
    | succ n ih =>
      intro S0 x1 x2 x3 x4 H locs ls hP hD hS hl h
      unfold wp_X7_heaps_38 at h
      refine lv_iload hx hb dX7_heaps_38 (lv_at hl 4 rfl) ?_
      refine lv_aload_n hx hb dX7_heaps_40 rfl (lv_at hl 0 rfl) ?_
      refine va_get (D := D) (ci := 7) (v := .int (S0.1 5)) (C := RX7) (T := TX7) (N := 33) hx hb hts in_Mo hown hK hP 0 rfl rfl 5 (by decide) ln_70 (fun _ h9 => h9) rfl dX7_heaps_41 ?_
      refine lv_icmp_ge (tgt := 95) hx hb dX7_heaps_44 (by decide) (fun c_3 => ?_) (fun c_3 => ?_)
      · have h := h.1 c_3
        refine lv_iinc (v := (x3 + 1)) (lv' := [(3, .int (x3 + 1)), (0, .ref (a 0)), (1, .int x1), (2, .int x2), (4, .int x4)]) hx hb dX7_heaps_95 hl (k := 3) rfl rfl (by decide) rfl (fun ls hl => ?_)
        refine lv_goto (tgt := 6) hx hb dX7_heaps_98 (by decide) ?_
        exact hK6 S0 x1 x2 (x3 + 1) H locs ls hP hD hS (lv_sub hl [1, 2, 3, 0] rfl) h
      · have h := h.2 c_3
        refine lv_iconst (v := (0 : Int32)) hx hb dX7_heaps_47 (by decide) ?_
        refine lv_istore (lv' := [(5, .int (0 : Int32)), (0, .ref (a 0)), (1, .int x1), (2, .int x2), (3, .int x3), (4, .int x4)]) hx hb dX7_heaps_48 hl (by decide) rfl (fun ls hl => ?_)
        obtain ⟨n_6, h⟩ := h
        exact L_50 (fun s0 v0 v1 v2 v3 => wp_X7_heaps_38 K6 Q n s0 v0 v1 v2 v3) ih K6 hK6 n_6 S0 x1 x2 x3 x4 (0 : Int32) H locs ls hP hD hS (lv_sub hl [1, 2, 3, 4, 5, 0] rfl) h
  have L_6 : ∀ (n : Nat), ∀ (S0 : St) (x1 : Int32) (x2 : Int32) (x3 : Int32), ∀ (H : Heap) (locs : List Loc) (ls : Array Slot), va_P D vwCl (wMo k a S0) H → va_D A (wMo k a S0) → va_S A s.heap H locs → lv_has ls 6 [(0, .ref (a 0)), (1, .int x1), (2, .int x2), (3, .int x3)] → wp_X7_heaps_6 Q n S0 x1 x2 x3 → W p l e rmX7_heaps s m ([.ref (a 0)] : List Value).toArray below meth c H locs 0 0 (MQ below (va_Qi (fun (r : Int32) (u : St) => Q r u) (cB D k A (fun u : St => wMo k a u)) A) ([.ref (a 0)] : List Value).toArray s 0 0 A) (F0 m 6 ls []) := by
    intro n
    induction n with
    | zero => intro S0 x1 x2 x3 H locs ls hP hD hS hl h; exact absurd h (by unfold wp_X7_heaps_6; exact id)
    | succ n ih =>
      intro S0 x1 x2 x3 H locs ls hP hD hS hl h
      unfold wp_X7_heaps_6 at h
      refine lv_iload_n hx hb dX7_heaps_6 rfl (lv_at hl 3 rfl) ?_
      refine lv_aload_n hx hb dX7_heaps_7 rfl (lv_at hl 0 rfl) ?_
      refine va_get (D := D) (ci := 7) (v := .int (S0.1 5)) (C := RX7) (T := TX7) (N := 33) hx hb hts in_Mo hown hK hP 0 rfl rfl 5 (by decide) ln_70 (fun _ h9 => h9) rfl dX7_heaps_8 ?_
      refine lv_icmp_ge (tgt := 101) hx hb dX7_heaps_11 (by decide) (fun c_1 => ?_) (fun c_1 => ?_)
      · have h := h.1 c_1
        refine lv_iload_n hx hb dX7_heaps_101 rfl (lv_at hl 1 rfl) ?_
        exact W.iret (v := x1) hx hb hr (fun t ht hW => ⟨⟨x1, S0, rfl, h, by rw [ht]; exact hP, va_K.moved hW.alike hK, hD⟩, hS.F ht⟩) hS.2.2 dX7_heaps_102
      · have h := h.2 c_1
        refine lv_iload_n hx hb dX7_heaps_14 rfl (lv_at hl 2 rfl) ?_
        refine lv_iload_n hx hb dX7_heaps_15 rfl (lv_at hl 3 rfl) ?_
        refine lv_ishr hx hb dX7_heaps_16 ?_
        refine lv_iconst (v := (1 : Int32)) hx hb dX7_heaps_17 (by decide) ?_
        refine lv_iand hx hb dX7_heaps_18 ?_
        refine lv_iconst (v := (1 : Int32)) hx hb dX7_heaps_19 (by decide) ?_
        refine lv_icmp_ne (tgt := 26) hx hb dX7_heaps_20 (by decide) (fun c_2 => ?_) (fun c_2 => ?_)
        · have h := h.1 c_2
          refine lv_iinc (v := (x1 + 1)) (lv' := [(1, .int (x1 + 1)), (0, .ref (a 0)), (2, .int x2), (3, .int x3)]) hx hb dX7_heaps_26 hl (k := 1) rfl rfl (by decide) rfl (fun ls hl => ?_)
          refine lv_iload_n hx hb dX7_heaps_29 rfl (lv_at hl 2 rfl) ?_
          refine lv_iconst (v := (1 : Int32)) hx hb dX7_heaps_30 (by decide) ?_
          refine lv_iload_n hx hb dX7_heaps_31 rfl (lv_at hl 3 rfl) ?_
          refine lv_ishl hx hb dX7_heaps_32 ?_
          refine lv_ior hx hb dX7_heaps_33 ?_
          refine lv_istore_n (lv' := [(2, .int (x2 ||| ((1 : Int32) <<< (x3 &&& 31)))), (1, .int (x1 + 1)), (0, .ref (a 0)), (3, .int x3)]) hx hb dX7_heaps_34 rfl hl (by decide) rfl (fun ls hl => ?_)
          refine lv_iconst (v := (0 : Int32)) hx hb dX7_heaps_35 (by decide) ?_
          refine lv_istore (lv' := [(4, .int (0 : Int32)), (2, .int (x2 ||| ((1 : Int32) <<< (x3 &&& 31)))), (1, .int (x1 + 1)), (0, .ref (a 0)), (3, .int x3)]) hx hb dX7_heaps_36 hl (by decide) rfl (fun ls hl => ?_)
          obtain ⟨n_7, h⟩ := h
          exact L_38 (fun s0 v0 v1 v2 => wp_X7_heaps_6 Q n s0 v0 v1 v2) ih n_7 S0 (x1 + 1) (x2 ||| ((1 : Int32) <<< (x3 &&& 31))) x3 (0 : Int32) H locs ls hP hD hS (lv_sub hl [3, 2, 1, 4, 0] rfl) h
        · have h := h.2 c_2
          refine lv_goto (tgt := 95) hx hb dX7_heaps_23 (by decide) ?_
          refine lv_iinc (v := (x3 + 1)) (lv' := [(3, .int (x3 + 1)), (0, .ref (a 0)), (1, .int x1), (2, .int x2)]) hx hb dX7_heaps_95 hl (k := 3) rfl rfl (by decide) rfl (fun ls hl => ?_)
          refine lv_goto (tgt := 6) hx hb dX7_heaps_98 (by decide) ?_
          exact ih S0 x1 x2 (x3 + 1) H locs ls hP hD hS (lv_sub hl [1, 2, 3, 0] rfl) h
  unfold wp_X7_heaps at h
  refine lv_iconst (v := (0 : Int32)) hx hb dX7_heaps_0 (by decide) ?_
  refine lv_istore_n (lv' := [(1, .int (0 : Int32)), (0, .ref (a 0))]) hx hb dX7_heaps_1 rfl hl (by decide) rfl (fun ls hl => ?_)
  refine lv_iconst (v := (0 : Int32)) hx hb dX7_heaps_2 (by decide) ?_
  refine lv_istore_n (lv' := [(2, .int (0 : Int32)), (1, .int (0 : Int32)), (0, .ref (a 0))]) hx hb dX7_heaps_3 rfl hl (by decide) rfl (fun ls hl => ?_)
  refine lv_iconst (v := (0 : Int32)) hx hb dX7_heaps_4 (by decide) ?_
  refine lv_istore_n (lv' := [(3, .int (0 : Int32)), (2, .int (0 : Int32)), (1, .int (0 : Int32)), (0, .ref (a 0))]) hx hb dX7_heaps_5 rfl hl (by decide) rfl (fun ls hl => ?_)
  obtain ⟨n_8, h⟩ := h
  exact L_6 n_8 S0 (0 : Int32) (0 : Int32) (0 : Int32) H locs ls hP hD hS (lv_sub hl [3, 2, 1, 0] rfl) h
/-! X7_closed -/
def wp_X7_closed (S0 : St) (x1 : Int32) (Q : Int32 → St → Prop) : Prop := wp_X7_isIn x1 (0 : Int32) (2 : Int32) (fun r_1 => ((¬ r_1 = 0) → (wp_X7_closes S0 (S0.1 6) (-9 : Int32) (fun r_3 u_4 => ((¬ x1 = 0) → (((¬ x1 = (1 : Int32)) → (wp_X7_heaps u_4 (fun r_7 u_8 => Q r_7 u_8))) ∧ ((x1 = (1 : Int32)) → (Q (u_4.1 22) u_4)))) ∧ ((x1 = 0) → (Q r_3 u_4))))) ∧ ((r_1 = 0) → (wp_X7_no S0 (-2 : Int32) (fun r_9 u_10 => Q r_9 u_10))))
abbrev rmX7_closed : Room := { frames := 4, cells := 0, slots := 0, locals := 96 }
set_option maxRecDepth 100000 in
set_option maxHeartbeats 4000000 in
theorem c_X7_closed (l : Launch) (D : va_G) (k : Nat → ClassId) (a : Nat → Nat) (S0 : St) (sz : Nat) (x1 : Int32) (Q : Int32 → St → Prop) (h : wp_X7_closed S0 x1 Q) : Met l yX7_closed wsX7_closed rmX7_closed (cPc D k (wMo k a S0) [.ref (a 0), .int x1] sz) (va_Qi (fun (r : Int32) (u : St) => Q r u) (cB D k (va_A (wMo k a S0) sz) (fun u : St => wMo k a u)) (va_A (wMo k a S0) sz)) 0 0 (va_A (wMo k a S0) sz) := by
  refine ct_entry (cc := cX7_closed) (maxL := 3) (ret := (some .int)) (Rn := RX7) (Qc := fun A => (va_Qi (fun (r : Int32) (u : St) => Q r u) (cB D k A (fun u : St => wMo k a u)) A)) (by decide) rfl rfl (Nat.le_of_ble_eq_true rfl) ?_
  intro p e s m below meth c hx hb hr hlocks hml hts hown hnw hK A hA H locs hP hD hS ls hl
  have hl : lv_has ls 3 [(0, .ref (a 0)), (1, .int x1)] := hl
  have ln_109 := hts (.fieldLink RX7 109 "WithTheSameOneModel" "law" "I") (by decide +kernel)
  have ln_181 := hts (.fieldLink RX7 181 "WithTheSameOneModel" "rounds" "I") (by decide +kernel)
  have in_Mo : ∀ w ∈ wsX70, w ∈ wsX7_closed := fun _ h => List.mem_cons_of_mem _ (List.mem_append_right _ h)
  unfold wp_X7_closed at h
  refine lv_iload_n hx hb dX7_closed_0 rfl (lv_at hl 1 rfl) ?_
  refine lv_iconst (v := (0 : Int32)) hx hb dX7_closed_1 (by decide) ?_
  refine lv_iconst (v := (2 : Int32)) hx hb dX7_closed_2 (by decide) ?_
  refine gs_i (va_runS (As := [.int x1, .int (0 : Int32), .int (2 : Int32)]) (rest := []) ⟨hx, hb, hml, hown, hts⟩ (c_X7_isIn l x1 (0 : Int32) (2 : Int32) _ h) (va_cwS 3 hts gX7_closed_X7_isIn rfl rfl rfl (by decide +kernel) ⟨Nat.le_of_ble_eq_true rfl, Nat.le_of_ble_eq_true rfl⟩) preEq rfl rfl hl.1 rfl (lv_room (Nat.le_of_ble_eq_true rfl)) dX7_closed_3 ⟨Nat.zero_le _, Nat.zero_le _⟩) (fun r_1 h => ?_)
  refine lv_if_ne (tgt := 16) hx hb dX7_closed_6 (by decide) (fun c_2 => ?_) (fun c_2 => ?_)
  · have h := h.1 c_2
    refine lv_aload_n hx hb dX7_closed_16 rfl (lv_at hl 0 rfl) ?_
    refine lv_aload_n hx hb dX7_closed_17 rfl (lv_at hl 0 rfl) ?_
    refine va_get (D := D) (ci := 7) (v := .int (S0.1 6)) (C := RX7) (T := TX7) (N := 33) hx hb hts in_Mo hown hK hP 0 rfl rfl 6 (by decide) ln_109 (fun _ h9 => h9) rfl dX7_closed_18 ?_
    refine lv_bipush (v := (-9 : Int32)) hx hb dX7_closed_21 (by decide) ?_
    have hFc := fr_self hD hS hA
    refine gv_i (va_runV (As := [.int (S0.1 6), .int (-9 : Int32)]) (rest := []) ⟨hx, hb, hml, hown, hts⟩ (c_X7_closes l D k a S0 H.size (S0.1 6) (-9 : Int32) _ h) (cwV 2 hts gX7_closed_X7_closes rfl rfl rfl (by decide +kernel) ⟨Nat.le_of_ble_eq_true rfl, Nat.le_of_ble_eq_true rfl⟩) (gv_preV hK hnw hP hD (ci := 7) rfl 0 rfl) rfl rfl hl.1 rfl (lv_room (Nat.le_of_ble_eq_true rfl)) dX7_closed_23 ⟨Nat.zero_le _, Nat.zero_le _⟩) hS hFc (fun r_3 u_4 H locs h hP1 hD1 hk1 hS => ?_)
    have hP := hP1
    have hD := hD1.weaken (fun _ _ _ z => hFc _ z)
    refine lv_istore_n (lv' := [(2, .int r_3), (0, .ref (a 0)), (1, .int x1)]) hx hb dX7_closed_26 rfl hl (by decide) rfl (fun ls hl => ?_)
    refine lv_iload_n hx hb dX7_closed_27 rfl (lv_at hl 2 rfl) ?_
    refine lv_if_ne (tgt := 35) hx hb dX7_closed_28 (by decide) (fun c_5 => ?_) (fun c_5 => ?_)
    · have h := h.1 c_5
      refine lv_iload_n hx hb dX7_closed_35 rfl (lv_at hl 2 rfl) ?_
      refine lv_iconst (v := (1 : Int32)) hx hb dX7_closed_36 (by decide) ?_
      refine lv_icmp_ne (tgt := 47) hx hb dX7_closed_37 (by decide) (fun c_6 => ?_) (fun c_6 => ?_)
      · have h := h.1 c_6
        refine lv_aload_n hx hb dX7_closed_47 rfl (lv_at hl 1 rfl) ?_
        have hFc := fr_self hD hS hA
        refine gv_i (va_runV (As := []) (rest := []) ⟨hx, hb, hml, hown, hts⟩ (c_X7_heaps l D k a u_4 H.size _ h) (cwV 0 hts gX7_closed_X7_heaps rfl rfl rfl (by decide +kernel) ⟨Nat.le_of_ble_eq_true rfl, Nat.le_of_ble_eq_true rfl⟩) (gv_preV hK hnw hP hD (ci := 7) rfl 0 rfl) rfl rfl hl.1 rfl (lv_room (Nat.le_of_ble_eq_true rfl)) dX7_closed_48 ⟨Nat.zero_le _, Nat.zero_le _⟩) hS hFc (fun r_7 u_8 H locs h hP1 hD1 hk1 hS => ?_)
        have hP := hP1
        have hD := hD1.weaken (fun _ _ _ z => hFc _ z)
        exact W.iret (v := r_7) hx hb hr (fun t ht hW => ⟨⟨r_7, u_8, rfl, h, by rw [ht]; exact hP, va_K.moved hW.alike hK, hD⟩, hS.F ht⟩) hS.2.2 dX7_closed_51
      · have h := h.2 c_6
        refine lv_aload_n hx hb dX7_closed_40 rfl (lv_at hl 1 rfl) ?_
        refine va_get (D := D) (ci := 7) (v := .int (u_4.1 22)) (C := RX7) (T := TX7) (N := 33) hx hb hts in_Mo hown hK hP 0 rfl rfl 22 (by decide) ln_181 (fun _ h9 => h9) rfl dX7_closed_41 ?_
        refine lv_goto (tgt := 51) hx hb dX7_closed_44 (by decide) ?_
        exact W.iret (v := (u_4.1 22)) hx hb hr (fun t ht hW => ⟨⟨(u_4.1 22), u_4, rfl, h, by rw [ht]; exact hP, va_K.moved hW.alike hK, hD⟩, hS.F ht⟩) hS.2.2 dX7_closed_51
    · have h := h.2 c_5
      refine lv_iload_n hx hb dX7_closed_31 rfl (lv_at hl 0 rfl) ?_
      refine lv_goto (tgt := 51) hx hb dX7_closed_32 (by decide) ?_
      exact W.iret (v := r_3) hx hb hr (fun t ht hW => ⟨⟨r_3, u_4, rfl, h, by rw [ht]; exact hP, va_K.moved hW.alike hK, hD⟩, hS.F ht⟩) hS.2.2 dX7_closed_51
  · have h := h.2 c_2
    refine lv_aload_n hx hb dX7_closed_9 rfl (lv_at hl 0 rfl) ?_
    refine lv_bipush (v := (-2 : Int32)) hx hb dX7_closed_10 (by decide) ?_
    have hFc := fr_self hD hS hA
    refine gv_i (va_runV (As := [.int (-2 : Int32)]) (rest := []) ⟨hx, hb, hml, hown, hts⟩ (c_X7_no l D k a S0 H.size (-2 : Int32) _ h) (cwV 1 hts gX7_closed_X7_no rfl rfl rfl (by decide +kernel) ⟨Nat.le_of_ble_eq_true rfl, Nat.le_of_ble_eq_true rfl⟩) (gv_preV hK hnw hP hD (ci := 7) rfl 0 rfl) rfl rfl hl.1 rfl (lv_room (Nat.le_of_ble_eq_true rfl)) dX7_closed_12 ⟨Nat.zero_le _, Nat.zero_le _⟩) hS hFc (fun r_9 u_10 H locs h hP1 hD1 hk1 hS => ?_)
    have hP := hP1
    have hD := hD1.weaken (fun _ _ _ z => hFc _ z)
    exact W.iret (v := r_9) hx hb hr (fun t ht hW => ⟨⟨r_9, u_10, rfl, h, by rw [ht]; exact hP, va_K.moved hW.alike hK, hD⟩, hS.F ht⟩) hS.2.2 dX7_closed_15
/-! X7_closesWith -/
def wp_X7_closesWith (S0 : St) (x1 : Int32) (x2 : Int32) (Q : Int32 → St → Prop) : Prop := wp_X7_joins S0 x1 x2 (fun u_2 => wp_X7_closes u_2 (u_2.1 6) (-9 : Int32) (fun r_3 u_4 => wp_X7_parts u_4 x1 x2 (fun u_6 => Q r_3 u_6)))
abbrev rmX7_closesWith : Room := { frames := 4, cells := 0, slots := 0, locals := 96 }
set_option maxRecDepth 100000 in
set_option maxHeartbeats 4000000 in
theorem c_X7_closesWith (l : Launch) (D : va_G) (k : Nat → ClassId) (a : Nat → Nat) (S0 : St) (sz : Nat) (x1 : Int32) (x2 : Int32) (Q : Int32 → St → Prop) (h : wp_X7_closesWith S0 x1 x2 Q) : Met l yX7_closesWith wsX7_closesWith rmX7_closesWith (cPc D k (wMo k a S0) [.ref (a 0), .int x1, .int x2] sz) (va_Qi (fun (r : Int32) (u : St) => Q r u) (cB D k (va_A (wMo k a S0) sz) (fun u : St => wMo k a u)) (va_A (wMo k a S0) sz)) 0 0 (va_A (wMo k a S0) sz) := by
  refine ct_entry (cc := cX7_closesWith) (maxL := 4) (ret := (some .int)) (Rn := RX7) (Qc := fun A => (va_Qi (fun (r : Int32) (u : St) => Q r u) (cB D k A (fun u : St => wMo k a u)) A)) (by decide) rfl rfl (Nat.le_of_ble_eq_true rfl) ?_
  intro p e s m below meth c hx hb hr hlocks hml hts hown hnw hK A hA H locs hP hD hS ls hl
  have hl : lv_has ls 4 [(0, .ref (a 0)), (1, .int x1), (2, .int x2)] := hl
  have ln_109 := hts (.fieldLink RX7 109 "WithTheSameOneModel" "law" "I") (by decide +kernel)
  have in_Mo : ∀ w ∈ wsX70, w ∈ wsX7_closesWith := fun _ h => List.mem_cons_of_mem _ (List.mem_append_right _ h)
  unfold wp_X7_closesWith at h
  refine lv_aload_n hx hb dX7_closesWith_0 rfl (lv_at hl 0 rfl) ?_
  refine lv_iload_n hx hb dX7_closesWith_1 rfl (lv_at hl 1 rfl) ?_
  refine lv_iload_n hx hb dX7_closesWith_2 rfl (lv_at hl 2 rfl) ?_
  have hFc := fr_self hD hS hA
  refine gv_v (va_runV (As := [.int x1, .int x2]) (rest := []) ⟨hx, hb, hml, hown, hts⟩ (c_X7_joins l D k a S0 H.size x1 x2 _ h) (cwV 2 hts gX7_closesWith_X7_joins rfl rfl rfl (by decide +kernel) ⟨Nat.le_of_ble_eq_true rfl, Nat.le_of_ble_eq_true rfl⟩) (gv_preV hK hnw hP hD (ci := 7) rfl 0 rfl) rfl rfl hl.1 rfl (lv_room (Nat.le_of_ble_eq_true rfl)) dX7_closesWith_3 ⟨Nat.zero_le _, Nat.zero_le _⟩) hS hFc (fun u_2 H locs h hP1 hD1 hk1 hS => ?_)
  have hP := hP1
  have hD := hD1.weaken (fun _ _ _ z => hFc _ z)
  refine lv_aload_n hx hb dX7_closesWith_6 rfl (lv_at hl 0 rfl) ?_
  refine lv_aload_n hx hb dX7_closesWith_7 rfl (lv_at hl 0 rfl) ?_
  refine va_get (D := D) (ci := 7) (v := .int (u_2.1 6)) (C := RX7) (T := TX7) (N := 33) hx hb hts in_Mo hown hK hP 0 rfl rfl 6 (by decide) ln_109 (fun _ h9 => h9) rfl dX7_closesWith_8 ?_
  refine lv_bipush (v := (-9 : Int32)) hx hb dX7_closesWith_11 (by decide) ?_
  have hFc := fr_self hD hS hA
  refine gv_i (va_runV (As := [.int (u_2.1 6), .int (-9 : Int32)]) (rest := []) ⟨hx, hb, hml, hown, hts⟩ (c_X7_closes l D k a u_2 H.size (u_2.1 6) (-9 : Int32) _ h) (cwV 2 hts gX7_closesWith_X7_closes rfl rfl rfl (by decide +kernel) ⟨Nat.le_of_ble_eq_true rfl, Nat.le_of_ble_eq_true rfl⟩) (gv_preV hK hnw hP hD (ci := 7) rfl 0 rfl) rfl rfl hl.1 rfl (lv_room (Nat.le_of_ble_eq_true rfl)) dX7_closesWith_13 ⟨Nat.zero_le _, Nat.zero_le _⟩) hS hFc (fun r_3 u_4 H locs h hP1 hD1 hk1 hS => ?_)
  have hP := hP1
  have hD := hD1.weaken (fun _ _ _ z => hFc _ z)
  refine lv_istore_n (lv' := [(3, .int r_3), (0, .ref (a 0)), (1, .int x1), (2, .int x2)]) hx hb dX7_closesWith_16 rfl hl (by decide) rfl (fun ls hl => ?_)
  refine lv_aload_n hx hb dX7_closesWith_17 rfl (lv_at hl 1 rfl) ?_
  refine lv_iload_n hx hb dX7_closesWith_18 rfl (lv_at hl 2 rfl) ?_
  refine lv_iload_n hx hb dX7_closesWith_19 rfl (lv_at hl 3 rfl) ?_
  have hFc := fr_self hD hS hA
  refine gv_v (va_runV (As := [.int x1, .int x2]) (rest := []) ⟨hx, hb, hml, hown, hts⟩ (c_X7_parts l D k a u_4 H.size x1 x2 _ h) (cwV 2 hts gX7_closesWith_X7_parts rfl rfl rfl (by decide +kernel) ⟨Nat.le_of_ble_eq_true rfl, Nat.le_of_ble_eq_true rfl⟩) (gv_preV hK hnw hP hD (ci := 7) rfl 0 rfl) rfl rfl hl.1 rfl (lv_room (Nat.le_of_ble_eq_true rfl)) dX7_closesWith_20 ⟨Nat.zero_le _, Nat.zero_le _⟩) hS hFc (fun u_6 H locs h hP1 hD1 hk1 hS => ?_)
  have hP := hP1
  have hD := hD1.weaken (fun _ _ _ z => hFc _ z)
  refine lv_iload_n hx hb dX7_closesWith_23 rfl (lv_at hl 0 rfl) ?_
  exact W.iret (v := r_3) hx hb hr (fun t ht hW => ⟨⟨r_3, u_6, rfl, h, by rw [ht]; exact hP, va_K.moved hW.alike hK, hD⟩, hS.F ht⟩) hS.2.2 dX7_closesWith_24
/-! X7_opens -/
def wp_X7_opens (S0 : St) (x1 : Int32) (x2 : Int32) (Q : Int32 → St → Prop) : Prop := wp_X7_areTwo S0 x1 x2 (fun r_1 u_2 => ((¬ r_1 = 0) → (wp_X7_haveDanced u_2 x1 x2 (fun r_4 u_5 => ((r_4 = 0) → (wp_X7_closes u_5 (u_5.1 6) (-9 : Int32) (fun r_7 u_8 => wp_X7_closesWith u_8 x1 x2 (fun r_9 u_10 => Q (r_9 - r_7) u_10)))) ∧ ((¬ r_4 = 0) → (wp_X7_no u_5 (-3 : Int32) (fun r_11 u_12 => Q r_11 u_12)))))) ∧ ((r_1 = 0) → (wp_X7_no u_2 (-1 : Int32) (fun r_13 u_14 => Q r_13 u_14))))
abbrev rmX7_opens : Room := { frames := 5, cells := 0, slots := 0, locals := 119 }
set_option maxRecDepth 100000 in
set_option maxHeartbeats 4000000 in
theorem c_X7_opens (l : Launch) (D : va_G) (k : Nat → ClassId) (a : Nat → Nat) (S0 : St) (sz : Nat) (x1 : Int32) (x2 : Int32) (Q : Int32 → St → Prop) (h : wp_X7_opens S0 x1 x2 Q) : Met l yX7_opens wsX7_opens rmX7_opens (cPc D k (wMo k a S0) [.ref (a 0), .int x1, .int x2] sz) (va_Qi (fun (r : Int32) (u : St) => Q r u) (cB D k (va_A (wMo k a S0) sz) (fun u : St => wMo k a u)) (va_A (wMo k a S0) sz)) 0 0 (va_A (wMo k a S0) sz) := by
  refine ct_entry (cc := cX7_opens) (maxL := 4) (ret := (some .int)) (Rn := RX7) (Qc := fun A => (va_Qi (fun (r : Int32) (u : St) => Q r u) (cB D k A (fun u : St => wMo k a u)) A)) (by decide) rfl rfl (Nat.le_of_ble_eq_true rfl) ?_
  intro p e s m below meth c hx hb hr hlocks hml hts hown hnw hK A hA H locs hP hD hS ls hl
  have hl : lv_has ls 4 [(0, .ref (a 0)), (1, .int x1), (2, .int x2)] := hl
  have ln_109 := hts (.fieldLink RX7 109 "WithTheSameOneModel" "law" "I") (by decide +kernel)
  have in_Mo : ∀ w ∈ wsX70, w ∈ wsX7_opens := fun _ h => List.mem_cons_of_mem _ (List.mem_append_right _ h)
  unfold wp_X7_opens at h
  refine lv_aload_n hx hb dX7_opens_0 rfl (lv_at hl 0 rfl) ?_
  refine lv_iload_n hx hb dX7_opens_1 rfl (lv_at hl 1 rfl) ?_
  refine lv_iload_n hx hb dX7_opens_2 rfl (lv_at hl 2 rfl) ?_
  have hFc := fr_self hD hS hA
  refine gv_i (va_runV (As := [.int x1, .int x2]) (rest := []) ⟨hx, hb, hml, hown, hts⟩ (c_X7_areTwo l D k a S0 H.size x1 x2 _ h) (cwV 2 hts gX7_opens_X7_areTwo rfl rfl rfl (by decide +kernel) ⟨Nat.le_of_ble_eq_true rfl, Nat.le_of_ble_eq_true rfl⟩) (gv_preV hK hnw hP hD (ci := 7) rfl 0 rfl) rfl rfl hl.1 rfl (lv_room (Nat.le_of_ble_eq_true rfl)) dX7_opens_3 ⟨Nat.zero_le _, Nat.zero_le _⟩) hS hFc (fun r_1 u_2 H locs h hP1 hD1 hk1 hS => ?_)
  have hP := hP1
  have hD := hD1.weaken (fun _ _ _ z => hFc _ z)
  refine lv_if_ne (tgt := 15) hx hb dX7_opens_6 (by decide) (fun c_3 => ?_) (fun c_3 => ?_)
  · have h := h.1 c_3
    refine lv_aload_n hx hb dX7_opens_15 rfl (lv_at hl 0 rfl) ?_
    refine lv_iload_n hx hb dX7_opens_16 rfl (lv_at hl 1 rfl) ?_
    refine lv_iload_n hx hb dX7_opens_17 rfl (lv_at hl 2 rfl) ?_
    have hFc := fr_self hD hS hA
    refine gv_i (va_runV (As := [.int x1, .int x2]) (rest := []) ⟨hx, hb, hml, hown, hts⟩ (c_X7_haveDanced l D k a u_2 H.size x1 x2 _ h) (cwV 2 hts gX7_opens_X7_haveDanced rfl rfl rfl (by decide +kernel) ⟨Nat.le_of_ble_eq_true rfl, Nat.le_of_ble_eq_true rfl⟩) (gv_preV hK hnw hP hD (ci := 7) rfl 0 rfl) rfl rfl hl.1 rfl (lv_room (Nat.le_of_ble_eq_true rfl)) dX7_opens_18 ⟨Nat.zero_le _, Nat.zero_le _⟩) hS hFc (fun r_4 u_5 H locs h hP1 hD1 hk1 hS => ?_)
    have hP := hP1
    have hD := hD1.weaken (fun _ _ _ z => hFc _ z)
    refine lv_if_eq (tgt := 31) hx hb dX7_opens_21 (by decide) (fun c_6 => ?_) (fun c_6 => ?_)
    · have h := h.1 c_6
      refine lv_aload_n hx hb dX7_opens_31 rfl (lv_at hl 0 rfl) ?_
      refine lv_aload_n hx hb dX7_opens_32 rfl (lv_at hl 0 rfl) ?_
      refine va_get (D := D) (ci := 7) (v := .int (u_5.1 6)) (C := RX7) (T := TX7) (N := 33) hx hb hts in_Mo hown hK hP 0 rfl rfl 6 (by decide) ln_109 (fun _ h9 => h9) rfl dX7_opens_33 ?_
      refine lv_bipush (v := (-9 : Int32)) hx hb dX7_opens_36 (by decide) ?_
      have hFc := fr_self hD hS hA
      refine gv_i (va_runV (As := [.int (u_5.1 6), .int (-9 : Int32)]) (rest := []) ⟨hx, hb, hml, hown, hts⟩ (c_X7_closes l D k a u_5 H.size (u_5.1 6) (-9 : Int32) _ h) (cwV 2 hts gX7_opens_X7_closes rfl rfl rfl (by decide +kernel) ⟨Nat.le_of_ble_eq_true rfl, Nat.le_of_ble_eq_true rfl⟩) (gv_preV hK hnw hP hD (ci := 7) rfl 0 rfl) rfl rfl hl.1 rfl (lv_room (Nat.le_of_ble_eq_true rfl)) dX7_opens_38 ⟨Nat.zero_le _, Nat.zero_le _⟩) hS hFc (fun r_7 u_8 H locs h hP1 hD1 hk1 hS => ?_)
      have hP := hP1
      have hD := hD1.weaken (fun _ _ _ z => hFc _ z)
      refine lv_istore_n (lv' := [(3, .int r_7), (0, .ref (a 0)), (1, .int x1), (2, .int x2)]) hx hb dX7_opens_41 rfl hl (by decide) rfl (fun ls hl => ?_)
      refine lv_aload_n hx hb dX7_opens_42 rfl (lv_at hl 1 rfl) ?_
      refine lv_iload_n hx hb dX7_opens_43 rfl (lv_at hl 2 rfl) ?_
      refine lv_iload_n hx hb dX7_opens_44 rfl (lv_at hl 3 rfl) ?_
      have hFc := fr_self hD hS hA
      refine gv_i (va_runV (As := [.int x1, .int x2]) (rest := []) ⟨hx, hb, hml, hown, hts⟩ (c_X7_closesWith l D k a u_8 H.size x1 x2 _ h) (cwV 2 hts gX7_opens_X7_closesWith rfl rfl rfl (by decide +kernel) ⟨Nat.le_of_ble_eq_true rfl, Nat.le_of_ble_eq_true rfl⟩) (gv_preV hK hnw hP hD (ci := 7) rfl 0 rfl) rfl rfl hl.1 rfl (lv_room (Nat.le_of_ble_eq_true rfl)) dX7_opens_45 ⟨Nat.zero_le _, Nat.zero_le _⟩) hS hFc (fun r_9 u_10 H locs h hP1 hD1 hk1 hS => ?_)
      have hP := hP1
      have hD := hD1.weaken (fun _ _ _ z => hFc _ z)
      refine lv_iload_n hx hb dX7_opens_48 rfl (lv_at hl 0 rfl) ?_
      refine lv_isub hx hb dX7_opens_49 ?_
      exact W.iret (v := (r_9 - r_7)) hx hb hr (fun t ht hW => ⟨⟨(r_9 - r_7), u_10, rfl, h, by rw [ht]; exact hP, va_K.moved hW.alike hK, hD⟩, hS.F ht⟩) hS.2.2 dX7_opens_50
    · have h := h.2 c_6
      refine lv_aload_n hx hb dX7_opens_24 rfl (lv_at hl 0 rfl) ?_
      refine lv_bipush (v := (-3 : Int32)) hx hb dX7_opens_25 (by decide) ?_
      have hFc := fr_self hD hS hA
      refine gv_i (va_runV (As := [.int (-3 : Int32)]) (rest := []) ⟨hx, hb, hml, hown, hts⟩ (c_X7_no l D k a u_5 H.size (-3 : Int32) _ h) (cwV 1 hts gX7_opens_X7_no rfl rfl rfl (by decide +kernel) ⟨Nat.le_of_ble_eq_true rfl, Nat.le_of_ble_eq_true rfl⟩) (gv_preV hK hnw hP hD (ci := 7) rfl 0 rfl) rfl rfl hl.1 rfl (lv_room (Nat.le_of_ble_eq_true rfl)) dX7_opens_27 ⟨Nat.zero_le _, Nat.zero_le _⟩) hS hFc (fun r_11 u_12 H locs h hP1 hD1 hk1 hS => ?_)
      have hP := hP1
      have hD := hD1.weaken (fun _ _ _ z => hFc _ z)
      exact W.iret (v := r_11) hx hb hr (fun t ht hW => ⟨⟨r_11, u_12, rfl, h, by rw [ht]; exact hP, va_K.moved hW.alike hK, hD⟩, hS.F ht⟩) hS.2.2 dX7_opens_30
  · have h := h.2 c_3
    refine lv_aload_n hx hb dX7_opens_9 rfl (lv_at hl 0 rfl) ?_
    refine lv_iconst (v := (-1 : Int32)) hx hb dX7_opens_10 (by decide) ?_
    have hFc := fr_self hD hS hA
    refine gv_i (va_runV (As := [.int (-1 : Int32)]) (rest := []) ⟨hx, hb, hml, hown, hts⟩ (c_X7_no l D k a u_2 H.size (-1 : Int32) _ h) (cwV 1 hts gX7_opens_X7_no rfl rfl rfl (by decide +kernel) ⟨Nat.le_of_ble_eq_true rfl, Nat.le_of_ble_eq_true rfl⟩) (gv_preV hK hnw hP hD (ci := 7) rfl 0 rfl) rfl rfl hl.1 rfl (lv_room (Nat.le_of_ble_eq_true rfl)) dX7_opens_11 ⟨Nat.zero_le _, Nat.zero_le _⟩) hS hFc (fun r_13 u_14 H locs h hP1 hD1 hk1 hS => ?_)
    have hP := hP1
    have hD := hD1.weaken (fun _ _ _ z => hFc _ z)
    exact W.iret (v := r_13) hx hb hr (fun t ht hW => ⟨⟨r_13, u_14, rfl, h, by rw [ht]; exact hP, va_K.moved hW.alike hK, hD⟩, hS.F ht⟩) hS.2.2 dX7_opens_14
