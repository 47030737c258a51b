/-! X2_areCousinsOfOneFigure -/
def wp_X2_areCousinsOfOneFigure (S0 : St) (x1 : Int32) (x2 : Int32) (Q : Int32 → St → Prop) : Prop := vp_in x1 8 ∧ (((¬ (S0.2 2 x1.toNatClampNeg) = (3 : Int32)) → (Q (0 : Int32) S0)) ∧ (((S0.2 2 x1.toNatClampNeg) = (3 : Int32)) → (vp_in x2 8 ∧ (((¬ (S0.2 2 x2.toNatClampNeg) = (3 : Int32)) → (Q (0 : Int32) S0)) ∧ (((S0.2 2 x2.toNatClampNeg) = (3 : Int32)) → (vp_in x1 8 ∧ (vp_in x2 8 ∧ (((¬ (S0.2 3 x1.toNatClampNeg) = (S0.2 3 x2.toNatClampNeg)) → (Q (0 : Int32) S0)) ∧ (((S0.2 3 x1.toNatClampNeg) = (S0.2 3 x2.toNatClampNeg)) → (Q (1 : Int32) S0))))))))))
abbrev rmX2_areCousinsOfOneFigure : Room := { frames := 0, cells := 0, slots := 0, locals := 0 }
set_option maxRecDepth 100000 in
set_option maxHeartbeats 4000000 in
theorem c_X2_areCousinsOfOneFigure (l : Launch) (D : va_G) (k : Nat → ClassId) (a : Nat → Nat) (S0 : St) (sz : Nat) (x1 : Int32) (x2 : Int32) (Q : Int32 → St → Prop) (h : wp_X2_areCousinsOfOneFigure S0 x1 x2 Q) : Met l yX2_areCousinsOfOneFigure wsX2_areCousinsOfOneFigure rmX2_areCousinsOfOneFigure (cPc D k (wFl k a S0) [.ref (a 0), .int x1, .int x2] sz) (va_Qi (fun (r : Int32) (u : St) => Q r u) (cB D k (va_A (wFl k a S0) sz) (fun u : St => wFl k a u)) (va_A (wFl k a S0) sz)) 0 0 (va_A (wFl k a S0) sz) := by
  refine ct_entry (cc := cX2_areCousinsOfOneFigure) (maxL := 3) (ret := (some .boolean)) (Rn := RX2) (Qc := fun A => (va_Qi (fun (r : Int32) (u : St) => Q r u) (cB D k A (fun u : St => wFl k a u)) A)) (by decide) rfl rfl (Nat.le_of_ble_eq_true rfl) ?_
  intro p e s m below meth c hx hb hr hlocks hml hts hown hnw hK A hA H locs hP hD hS ls hl
  have hl : lv_has ls 3 [(0, .ref (a 0)), (1, .int x1), (2, .int x2)] := hl
  have ln_18 := hts (.fieldLink RX2 18 "WithTheSameOne$Floor" "kind" "[I") (by decide +kernel)
  have ln_22 := hts (.fieldLink RX2 22 "WithTheSameOne$Floor" "figure" "[I") (by decide +kernel)
  have in_Fl : ∀ w ∈ wsX20, w ∈ wsX2_areCousinsOfOneFigure := fun _ h => List.mem_cons_of_mem _ (List.mem_append_right _ h)
  unfold wp_X2_areCousinsOfOneFigure at h
  refine lv_aload_n hx hb dX2_areCousinsOfOneFigure_0 rfl (lv_at hl 0 rfl) ?_
  refine va_get (D := D) (ci := 2) (v := .ref (a 1)) (C := RX2) (T := TX2) (N := 6) hx hb hts in_Fl hown hK hP 0 rfl rfl 2 (by decide) ln_18 (fun _ h9 => h9) rfl dX2_areCousinsOfOneFigure_1 ?_
  refine lv_iload_n hx hb dX2_areCousinsOfOneFigure_4 rfl (lv_at hl 1 rfl) ?_
  refine va_iald hx hb hK hP 1 0 rfl rfl h.1 dX2_areCousinsOfOneFigure_5 ?_
  have h := h.2
  refine lv_iconst (v := (3 : Int32)) hx hb dX2_areCousinsOfOneFigure_6 (by decide) ?_
  refine lv_icmp_ne (tgt := 39) hx hb dX2_areCousinsOfOneFigure_7 (by decide) (fun c_1 => ?_) (fun c_1 => ?_)
  · have h := h.1 c_1
    refine lv_iconst (v := (0 : Int32)) hx hb dX2_areCousinsOfOneFigure_39 (by decide) ?_
    exact W.zret (v := (0 : Int32)) hx hb hr rfl (fun t ht hW => ⟨⟨(0 : Int32), S0, rfl, h, by rw [ht]; exact hP, va_K.moved hW.alike hK, hD⟩, hS.F ht⟩) hS.2.2 dX2_areCousinsOfOneFigure_40
  · have h := h.2 c_1
    refine lv_aload_n hx hb dX2_areCousinsOfOneFigure_10 rfl (lv_at hl 0 rfl) ?_
    refine va_get (D := D) (ci := 2) (v := .ref (a 1)) (C := RX2) (T := TX2) (N := 6) hx hb hts in_Fl hown hK hP 0 rfl rfl 2 (by decide) ln_18 (fun _ h9 => h9) rfl dX2_areCousinsOfOneFigure_11 ?_
    refine lv_iload_n hx hb dX2_areCousinsOfOneFigure_14 rfl (lv_at hl 2 rfl) ?_
    refine va_iald hx hb hK hP 1 0 rfl rfl h.1 dX2_areCousinsOfOneFigure_15 ?_
    have h := h.2
    refine lv_iconst (v := (3 : Int32)) hx hb dX2_areCousinsOfOneFigure_16 (by decide) ?_
    refine lv_icmp_ne (tgt := 39) hx hb dX2_areCousinsOfOneFigure_17 (by decide) (fun c_2 => ?_) (fun c_2 => ?_)
    · have h := h.1 c_2
      refine lv_iconst (v := (0 : Int32)) hx hb dX2_areCousinsOfOneFigure_39 (by decide) ?_
      exact W.zret (v := (0 : Int32)) hx hb hr rfl (fun t ht hW => ⟨⟨(0 : Int32), S0, rfl, h, by rw [ht]; exact hP, va_K.moved hW.alike hK, hD⟩, hS.F ht⟩) hS.2.2 dX2_areCousinsOfOneFigure_40
    · have h := h.2 c_2
      refine lv_aload_n hx hb dX2_areCousinsOfOneFigure_20 rfl (lv_at hl 0 rfl) ?_
      refine va_get (D := D) (ci := 2) (v := .ref (a 2)) (C := RX2) (T := TX2) (N := 6) hx hb hts in_Fl hown hK hP 0 rfl rfl 3 (by decide) ln_22 (fun _ h9 => h9) rfl dX2_areCousinsOfOneFigure_21 ?_
      refine lv_iload_n hx hb dX2_areCousinsOfOneFigure_24 rfl (lv_at hl 1 rfl) ?_
      refine va_iald hx hb hK hP 2 0 rfl rfl h.1 dX2_areCousinsOfOneFigure_25 ?_
      have h := h.2
      refine lv_aload_n hx hb dX2_areCousinsOfOneFigure_26 rfl (lv_at hl 0 rfl) ?_
      refine va_get (D := D) (ci := 2) (v := .ref (a 2)) (C := RX2) (T := TX2) (N := 6) hx hb hts in_Fl hown hK hP 0 rfl rfl 3 (by decide) ln_22 (fun _ h9 => h9) rfl dX2_areCousinsOfOneFigure_27 ?_
      refine lv_iload_n hx hb dX2_areCousinsOfOneFigure_30 rfl (lv_at hl 2 rfl) ?_
      refine va_iald hx hb hK hP 2 0 rfl rfl h.1 dX2_areCousinsOfOneFigure_31 ?_
      have h := h.2
      refine lv_icmp_ne (tgt := 39) hx hb dX2_areCousinsOfOneFigure_32 (by decide) (fun c_3 => ?_) (fun c_3 => ?_)
      · have h := h.1 c_3
        refine lv_iconst (v := (0 : Int32)) hx hb dX2_areCousinsOfOneFigure_39 (by decide) ?_
        exact W.zret (v := (0 : Int32)) hx hb hr rfl (fun t ht hW => ⟨⟨(0 : Int32), S0, rfl, h, by rw [ht]; exact hP, va_K.moved hW.alike hK, hD⟩, hS.F ht⟩) hS.2.2 dX2_areCousinsOfOneFigure_40
      · have h := h.2 c_3
        refine lv_iconst (v := (1 : Int32)) hx hb dX2_areCousinsOfOneFigure_35 (by decide) ?_
        refine lv_goto (tgt := 40) hx hb dX2_areCousinsOfOneFigure_36 (by decide) ?_
        exact W.zret (v := (1 : Int32)) hx hb hr rfl (fun t ht hW => ⟨⟨(1 : Int32), S0, rfl, h, by rw [ht]; exact hP, va_K.moved hW.alike hK, hD⟩, hS.F ht⟩) hS.2.2 dX2_areCousinsOfOneFigure_40
/-! X0_cousinsOf -/
def wp_X0_cousinsOf_4 (x1 : Int32) (Q : Int32 → St → Prop) : Nat → St → Int32 → Int32 → Prop
  | 0, _, _, _ => False
  | n + 1, S0, x2, x3 => (((S0.1 0) ≤ x3) → (Q x2 S0)) ∧ ((¬ (S0.1 0) ≤ x3) → (((x3 = x1) → (wp_X0_cousinsOf_4 x1 Q n S0 x2 (x3 + 1))) ∧ ((¬ x3 = x1) → (wp_X2_areCousinsOfOneFigure S0 x1 x3 (fun r_3 u_4 => ((r_3 = 0) → (wp_X0_cousinsOf_4 x1 Q n u_4 x2 (x3 + 1))) ∧ ((¬ r_3 = 0) → (wp_X0_cousinsOf_4 x1 Q n u_4 (x2 ||| ((1 : Int32) <<< (x3 &&& 31))) (x3 + 1))))))))
def wp_X0_cousinsOf (S0 : St) (x1 : Int32) (Q : Int32 → St → Prop) : Prop := ∃ i, wp_X0_cousinsOf_4 x1 Q i S0 (0 : Int32) (0 : Int32)
abbrev rmX0_cousinsOf : Room := { frames := 1, cells := 0, slots := 0, locals := 22 }
set_option maxRecDepth 100000 in
set_option maxHeartbeats 4000000 in
theorem c_X0_cousinsOf (l : Launch) (D : va_G) (k : Nat → ClassId) (a : Nat → Nat) (S0 : St) (sz : Nat) (x1 : Int32) (Q : Int32 → St → Prop) (h : wp_X0_cousinsOf S0 x1 Q) : Met l yX0_cousinsOf wsX0_cousinsOf rmX0_cousinsOf (cPc D k (wFl k a S0) [.ref (a 0), .int x1] sz) (va_Qi (fun (r : Int32) (u : St) => Q r u) (cB D k (va_A (wFl k a S0) sz) (fun u : St => wFl k a u)) (va_A (wFl k a S0) sz)) 0 0 (va_A (wFl k a S0) sz) := by
  refine ct_entry (cc := cX0_cousinsOf) (maxL := 4) (ret := (some .int)) (Rn := RX0) (Qc := fun A => (va_Qi (fun (r : Int32) (u : St) => Q r u) (cB D k A (fun u : St => wFl k a u)) A)) (by decide) rfl rfl (Nat.le_of_ble_eq_true rfl) ?_
  intro p e s m below meth c hx hb hr hlocks hml hts hown hnw hK A hA H locs hP hD hS ls hl
  have hl : lv_has ls 4 [(0, .ref (a 0)), (1, .int x1)] := hl
  have ln_34 := hts (.fieldLink RX0 34 "WithTheSameOne$Floor" "size" "I") (by decide +kernel)
  have in_Fl : ∀ w ∈ wsX20, w ∈ wsX0_cousinsOf := fun _ h => List.mem_cons_of_mem _ (List.mem_append_right _ h)
  have L_4 : ∀ (n : Nat), ∀ (S0 : St) (x2 : Int32) (x3 : Int32), ∀ (H : Heap) (locs : List Loc) (ls : Array Slot), va_P D vwCl (wFl k a S0) H → va_D A (wFl k a S0) → va_S A s.heap H locs → lv_has ls 4 [(0, .ref (a 0)), (1, .int x1), (2, .int x2), (3, .int x3)] → wp_X0_cousinsOf_4 x1 Q n S0 x2 x3 → W p l e rmX0_cousinsOf s m ([.ref (a 0), .int x1] : List Value).toArray below meth c H locs 0 0 (MQ below (va_Qi (fun (r : Int32) (u : St) => Q r u) (cB D k A (fun u : St => wFl k a u)) A) ([.ref (a 0), .int x1] : List Value).toArray s 0 0 A) (F0 m 4 ls []) := by
    intro n
    induction n with
    | zero => intro S0 x2 x3 H locs ls hP hD hS hl h; exact absurd h (by unfold wp_X0_cousinsOf_4; exact id)
    | succ n ih =>
      intro S0 x2 x3 H locs ls hP hD hS hl h
      unfold wp_X0_cousinsOf_4 at h
      refine lv_iload_n hx hb dX0_cousinsOf_4 rfl (lv_at hl 3 rfl) ?_
      refine lv_aload_n hx hb dX0_cousinsOf_5 rfl (lv_at hl 0 rfl) ?_
      refine va_get (D := D) (ci := 2) (v := .int (S0.1 0)) (C := RX2) (T := TX2) (N := 6) hx hb hts in_Fl hown hK hP 0 rfl rfl 0 (by decide) ln_34 (fun _ h9 => h9) rfl dX0_cousinsOf_6 ?_
      refine lv_icmp_ge (tgt := 38) hx hb dX0_cousinsOf_9 (by decide) (fun c_1 => ?_) (fun c_1 => ?_)
      · have h := h.1 c_1
        refine lv_iload_n hx hb dX0_cousinsOf_38 rfl (lv_at hl 2 rfl) ?_
        exact W.iret (v := x2) hx hb hr (fun t ht hW => ⟨⟨x2, S0, rfl, h, by rw [ht]; exact hP, va_K.moved hW.alike hK, hD⟩, hS.F ht⟩) hS.2.2 dX0_cousinsOf_39
      · have h := h.2 c_1
        refine lv_iload_n hx hb dX0_cousinsOf_12 rfl (lv_at hl 3 rfl) ?_
        refine lv_iload_n hx hb dX0_cousinsOf_13 rfl (lv_at hl 1 rfl) ?_
        refine lv_icmp_eq (tgt := 32) hx hb dX0_cousinsOf_14 (by decide) (fun c_2 => ?_) (fun c_2 => ?_)
        · have h := h.1 c_2
          refine lv_iinc (v := (x3 + 1)) (lv' := [(3, .int (x3 + 1)), (0, .ref (a 0)), (1, .int x1), (2, .int x2)]) hx hb dX0_cousinsOf_32 hl (k := 3) rfl rfl (by decide) rfl (fun ls hl => ?_)
          refine lv_goto (tgt := 4) hx hb dX0_cousinsOf_35 (by decide) ?_
          exact ih S0 x2 (x3 + 1) H locs ls hP hD hS (lv_sub hl [1, 2, 3, 0] rfl) h
        · have h := h.2 c_2
          refine lv_aload_n hx hb dX0_cousinsOf_17 rfl (lv_at hl 0 rfl) ?_
          refine lv_iload_n hx hb dX0_cousinsOf_18 rfl (lv_at hl 1 rfl) ?_
          refine lv_iload_n hx hb dX0_cousinsOf_19 rfl (lv_at hl 3 rfl) ?_
          have hFc := fr_self hD hS hA
          refine gv_i (va_runV (As := [.int x1, .int x3]) (rest := []) ⟨hx, hb, hml, hown, hts⟩ (c_X2_areCousinsOfOneFigure l D k a S0 H.size x1 x3 _ h) (cwV 2 hts gX0_cousinsOf_X2_areCousinsOfOneFigure rfl rfl rfl (by decide +kernel) ⟨Nat.le_of_ble_eq_true rfl, Nat.le_of_ble_eq_true rfl⟩) (gv_preV hK hnw hP hD (ci := 2) rfl 0 rfl) rfl rfl hl.1 rfl (lv_room (Nat.le_of_ble_eq_true rfl)) dX0_cousinsOf_20 ⟨Nat.zero_le _, Nat.zero_le _⟩) hS hFc (fun r_3 u_4 H locs h hP1 hD1 hk1 hS => ?_)
          have hP := hP1
          have hD := hD1.weaken (fun _ _ _ z => hFc _ z)
          refine lv_if_eq (tgt := 32) hx hb dX0_cousinsOf_23 (by decide) (fun c_5 => ?_) (fun c_5 => ?_)
          · have h := h.1 c_5
            refine lv_iinc (v := (x3 + 1)) (lv' := [(3, .int (x3 + 1)), (0, .ref (a 0)), (1, .int x1), (2, .int x2)]) hx hb dX0_cousinsOf_32 hl (k := 3) rfl rfl (by decide) rfl (fun ls hl => ?_)
            refine lv_goto (tgt := 4) hx hb dX0_cousinsOf_35 (by decide) ?_
            exact ih u_4 x2 (x3 + 1) H locs ls hP hD hS (lv_sub hl [1, 2, 3, 0] rfl) h
          · have h := h.2 c_5
            refine lv_iload_n hx hb dX0_cousinsOf_26 rfl (lv_at hl 2 rfl) ?_
            refine lv_iconst (v := (1 : Int32)) hx hb dX0_cousinsOf_27 (by decide) ?_
            refine lv_iload_n hx hb dX0_cousinsOf_28 rfl (lv_at hl 3 rfl) ?_
            refine lv_ishl hx hb dX0_cousinsOf_29 ?_
            refine lv_ior hx hb dX0_cousinsOf_30 ?_
            refine lv_istore_n (lv' := [(2, .int (x2 ||| ((1 : Int32) <<< (x3 &&& 31)))), (0, .ref (a 0)), (1, .int x1), (3, .int x3)]) hx hb dX0_cousinsOf_31 rfl hl (by decide) rfl (fun ls hl => ?_)
            refine lv_iinc (v := (x3 + 1)) (lv' := [(3, .int (x3 + 1)), (2, .int (x2 ||| ((1 : Int32) <<< (x3 &&& 31)))), (0, .ref (a 0)), (1, .int x1)]) hx hb dX0_cousinsOf_32 hl (k := 3) rfl rfl (by decide) rfl (fun ls hl => ?_)
            refine lv_goto (tgt := 4) hx hb dX0_cousinsOf_35 (by decide) ?_
            exact ih u_4 (x2 ||| ((1 : Int32) <<< (x3 &&& 31))) (x3 + 1) H locs ls hP hD hS (lv_sub hl [2, 3, 1, 0] rfl) h
  unfold wp_X0_cousinsOf at h
  refine lv_iconst (v := (0 : Int32)) hx hb dX0_cousinsOf_0 (by decide) ?_
  refine lv_istore_n (lv' := [(2, .int (0 : Int32)), (0, .ref (a 0)), (1, .int x1)]) hx hb dX0_cousinsOf_1 rfl hl (by decide) rfl (fun ls hl => ?_)
  refine lv_iconst (v := (0 : Int32)) hx hb dX0_cousinsOf_2 (by decide) ?_
  refine lv_istore_n (lv' := [(3, .int (0 : Int32)), (2, .int (0 : Int32)), (0, .ref (a 0)), (1, .int x1)]) hx hb dX0_cousinsOf_3 rfl hl (by decide) rfl (fun ls hl => ?_)
  obtain ⟨n_6, h⟩ := h
  exact L_4 n_6 S0 (0 : Int32) (0 : Int32) H locs ls hP hD hS (lv_sub hl [2, 3, 1, 0] rfl) h
/-! X0_begin -/
def wp_X0_begin_35 (Q : St → St → Prop) : Nat → St → St → Int32 → Prop
  | 0, _, _, _ => False
  | n + 1, S0, S1, x2 => (((S0.1 0) ≤ x2) → (Q S0 S1)) ∧ ((¬ (S0.1 0) ≤ x2) → (vp_in x2 8 ∧ (vp_in x2 8 ∧ (∀ S_10, S_10 = (sA S0 4 x2.toNatClampNeg (S1.2 5 x2.toNatClampNeg)) → (wp_X0_cousinsOf S1 x2 (fun r_12 u_13 => vp_in x2 8 ∧ (∀ S_14, S_14 = (sA S_10 6 x2.toNatClampNeg r_12) → (wp_X0_begin_35 Q n S_14 u_13 (x2 + 1)))))))))
def wp_X0_begin (S0 : St) (S1 : St) (Q : St → St → Prop) : Prop := ∀ S_1, S_1 = (sI S0 0 (S1.1 0)) → (∀ S_3, S_3 = (sI S_1 1 (S1.1 1)) → (∀ S_5, S_5 = (sI S_3 2 (((1 : Int32) <<< ((S_3.1 0) &&& 31)) - (1 : Int32))) → (∀ S_7, S_7 = (sI S_5 3 (0 : Int32)) → (∃ i, wp_X0_begin_35 Q i S_7 S1 (0 : Int32)))))
abbrev rmX0_begin : Room := { frames := 2, cells := 0, slots := 0, locals := 45 }
set_option maxRecDepth 100000 in
set_option maxHeartbeats 4000000 in
theorem c_X0_begin (l : Launch) (D : va_G) (k : Nat → ClassId) (a : Nat → Nat) (b : Nat → Nat) (S0 : St) (S1 : St) (sz : Nat) (Q : St → St → Prop) (h : wp_X0_begin S0 S1 Q) : Met l yX0_begin wsX0_begin rmX0_begin (cPc D k (wEn k a S0 ++ wFl k b S1) [.ref (a 0), .ref (b 0)] sz) (va_Qv (fun (u : St × St) => Q u.1 u.2) (cB D k (va_A (wEn k a S0 ++ wFl k b S1) sz) (fun u : St × St => wEn k a u.1 ++ wFl k b u.2)) (va_A (wEn k a S0 ++ wFl k b S1) sz)) 0 0 (va_A (wEn k a S0 ++ wFl k b S1) sz) := by
  refine ct_entry (cc := cX0_begin) (maxL := 3) (ret := none) (Rn := RX0) (Qc := fun A => (va_Qv (fun (u : St × St) => Q u.1 u.2) (cB D k A (fun u : St × St => wEn k a u.1 ++ wFl k b u.2)) A)) (by decide) rfl rfl (Nat.le_of_ble_eq_true rfl) ?_
  intro p e s m below meth c hx hb hr hlocks hml hts hown hnw hK A hA H locs hP hD hS ls hl
  have hl : lv_has ls 3 [(0, .ref (a 0)), (1, .ref (b 0))] := hl
  have ln_15 := hts (.fieldLink RX0 15 "WithTheSameOne$Ending" "law" "I") (by decide +kernel)
  have ln_18 := hts (.fieldLink RX0 18 "WithTheSameOne$Ending" "helpers" "I") (by decide +kernel)
  have ln_21 := hts (.fieldLink RX0 21 "WithTheSameOne$Ending" "rounds" "I") (by decide +kernel)
  have ln_24 := hts (.fieldLink RX0 24 "WithTheSameOne$Ending" "partners" "[I") (by decide +kernel)
  have ln_31 := hts (.fieldLink RX0 31 "WithTheSameOne$Ending" "cousins" "[I") (by decide +kernel)
  have ln_34 := hts (.fieldLink RX0 34 "WithTheSameOne$Floor" "size" "I") (by decide +kernel)
  have ln_37 := hts (.fieldLink RX0 37 "WithTheSameOne$Floor" "law" "I") (by decide +kernel)
  have ln_38 := hts (.fieldLink RX0 38 "WithTheSameOne$Floor" "partners" "[I") (by decide +kernel)
  have ln_9 := hts (.fieldLink RX0 9 "WithTheSameOne$Ending" "size" "I") (by decide +kernel)
  have in_Fl : ∀ w ∈ wsX20, w ∈ wsX0_begin := fun _ h => List.mem_cons_of_mem _ (List.mem_append_left _ (List.mem_append_right _ h))
  have in_En : ∀ w ∈ wsX00, w ∈ wsX0_begin := fun _ h => List.mem_cons_of_mem _ (List.mem_append_right _ h)
  have L_35 : ∀ (n : Nat), ∀ (S0 : St) (S1 : St) (x2 : Int32), ∀ (H : Heap) (locs : List Loc) (ls : Array Slot), va_P D vwCl (wEn k a S0 ++ wFl k b S1) H → va_D A (wEn k a S0 ++ wFl k b S1) → va_S A s.heap H locs → lv_has ls 3 [(0, .ref (a 0)), (1, .ref (b 0)), (2, .int x2)] → wp_X0_begin_35 Q n S0 S1 x2 → W p l e rmX0_begin s m ([.ref (a 0), .ref (b 0)] : List Value).toArray below meth c H locs 0 0 (MQ below (va_Qv (fun (u : St × St) => Q u.1 u.2) (cB D k A (fun u : St × St => wEn k a u.1 ++ wFl k b u.2)) A) ([.ref (a 0), .ref (b 0)] : List Value).toArray s 0 0 A) (F0 m 35 ls []) := by
    intro n
    induction n with
    | zero => intro S0 S1 x2 H locs ls hP hD hS hl h; exact absurd h (by unfold wp_X0_begin_35; exact id)
    | succ n ih =>
      intro S0 S1 x2 H locs ls hP hD hS hl h
      unfold wp_X0_begin_35 at h
      refine lv_iload_n hx hb dX0_begin_35 rfl (lv_at hl 2 rfl) ?_
      refine lv_aload_n hx hb dX0_begin_36 rfl (lv_at hl 0 rfl) ?_
      refine va_get (D := D) (ci := 0) (v := .int (S0.1 0)) (C := RX0) (T := TX0) (N := 7) hx hb hts in_En hown hK hP 0 rfl rfl 0 (by decide) ln_9 (fun _ h9 => h9) rfl dX0_begin_37 ?_
      refine lv_icmp_ge (tgt := 72) hx hb dX0_begin_40 (by decide) (fun c_9 => ?_) (fun c_9 => ?_)
      · have h := h.1 c_9
        exact W.vret hx hb hr (fun t ht hW => ⟨⟨(S0, S1), rfl, h, by rw [ht]; exact hP, va_K.moved hW.alike hK, hD⟩, hS.F ht⟩) hS.2.2 dX0_begin_72
      · have h := h.2 c_9
        refine lv_aload_n hx hb dX0_begin_43 rfl (lv_at hl 0 rfl) ?_
        refine va_get (D := D) (ci := 0) (v := .ref (a 1)) (C := RX0) (T := TX0) (N := 7) hx hb hts in_En hown hK hP 0 rfl rfl 4 (by decide) ln_24 (fun _ h9 => h9) rfl dX0_begin_44 ?_
        refine lv_iload_n hx hb dX0_begin_47 rfl (lv_at hl 2 rfl) ?_
        refine lv_aload_n hx hb dX0_begin_48 rfl (lv_at hl 1 rfl) ?_
        refine va_get (D := D) (ci := 2) (v := .ref (b 4)) (C := RX2) (T := TX2) (N := 6) hx hb hts in_Fl hown hK hP 4 rfl rfl 5 (by decide) ln_38 (fun _ h9 => h9) rfl dX0_begin_49 ?_
        refine lv_iload_n hx hb dX0_begin_52 rfl (lv_at hl 2 rfl) ?_
        refine va_iald hx hb hK hP 8 0 rfl rfl h.1 dX0_begin_53 ?_
        have h := h.2
        refine va_iast hx hb hK hP hD hS 1 0 rfl rfl h.1 dX0_begin_54 (fun H locs hP hD hS => ?_)
        have h := h.2
        obtain ⟨S_10, e_11⟩ : ∃ z : St, z = (sA S0 4 x2.toNatClampNeg (S1.2 5 x2.toNatClampNeg)) := ⟨_, rfl⟩
        have h := h S_10 e_11
        have hP : va_P D vwCl (wEn k a S_10 ++ wFl k b S1) H := by rw [e_11]; exact hP
        have hD : va_D A (wEn k a S_10 ++ wFl k b S1) := by rw [e_11]; exact hD
        refine lv_aload_n hx hb dX0_begin_55 rfl (lv_at hl 0 rfl) ?_
        refine va_get (D := D) (ci := 0) (v := .ref (a 3)) (C := RX0) (T := TX0) (N := 7) hx hb hts in_En hown hK hP 0 rfl rfl 6 (by decide) ln_31 (fun _ h9 => h9) rfl dX0_begin_56 ?_
        refine lv_iload_n hx hb dX0_begin_59 rfl (lv_at hl 2 rfl) ?_
        refine lv_aload_n hx hb dX0_begin_60 rfl (lv_at hl 1 rfl) ?_
        refine lv_iload_n hx hb dX0_begin_61 rfl (lv_at hl 2 rfl) ?_
        have hPc := fc0_P hP
        have hDc := fc0_D hD
        have hFc := fr_self hDc hS hA
        refine gv_i (va_runS (As := [.ref (b 0), .int x2]) (rest := [.int x2, .ref (a 3)]) ⟨hx, hb, hml, hown, hts⟩ (c_X0_cousinsOf l D k b S1 H.size x2 _ h) (va_cwS 2 hts gX0_begin_X0_cousinsOf rfl rfl rfl (by decide +kernel) ⟨Nat.le_of_ble_eq_true rfl, Nat.le_of_ble_eq_true rfl⟩) (gv_preS hK hnw hPc hDc) rfl rfl hl.1 rfl (lv_room (Nat.le_of_ble_eq_true rfl)) dX0_begin_62 ⟨Nat.zero_le _, Nat.zero_le _⟩) hS hFc (fun r_12 u_13 H locs h hP1 hD1 hk1 hS => ?_)
        obtain ⟨hP, hD⟩ := fc0_J hP hD hk1 hFc hP1 hD1
        refine va_iast hx hb hK hP hD hS 3 0 rfl rfl h.1 dX0_begin_65 (fun H locs hP hD hS => ?_)
        have h := h.2
        obtain ⟨S_14, e_15⟩ : ∃ z : St, z = (sA S_10 6 x2.toNatClampNeg r_12) := ⟨_, rfl⟩
        have h := h S_14 e_15
        have hP : va_P D vwCl (wEn k a S_14 ++ wFl k b u_13) H := by rw [e_15]; exact hP
        have hD : va_D A (wEn k a S_14 ++ wFl k b u_13) := by rw [e_15]; exact hD
        refine lv_iinc (v := (x2 + 1)) (lv' := [(2, .int (x2 + 1)), (0, .ref (a 0)), (1, .ref (b 0))]) hx hb dX0_begin_66 hl (k := 2) rfl rfl (by decide) rfl (fun ls hl => ?_)
        refine lv_goto (tgt := 35) hx hb dX0_begin_69 (by decide) ?_
        exact ih S_14 u_13 (x2 + 1) H locs ls hP hD hS (lv_sub hl [1, 2, 0] rfl) h
  unfold wp_X0_begin at h
  refine lv_aload_n hx hb dX0_begin_0 rfl (lv_at hl 0 rfl) ?_
  refine lv_aload_n hx hb dX0_begin_1 rfl (lv_at hl 1 rfl) ?_
  refine va_get (D := D) (ci := 2) (v := .int (S1.1 0)) (C := RX2) (T := TX2) (N := 6) hx hb hts in_Fl hown hK hP 4 rfl rfl 0 (by decide) ln_34 (fun _ h9 => h9) rfl dX0_begin_2 ?_
  refine va_put (D := D) (ci := 0) (v := .int (S1.1 0)) (ty := .int) (C := RX0) (T := TX0) (N := 7) hx hb hts in_En tyX0 tyX0_ok nmX0 hown hK hP hD hS 0 rfl rfl 0 (by decide) ln_9 (fun _ h9 => h9) rfl (by decide +kernel) rfl rfl (Nat.le_of_ble_eq_true rfl) dX0_begin_5 (fun H locs hP hD hS => ?_)
  obtain ⟨S_1, e_2⟩ : ∃ z : St, z = (sI S0 0 (S1.1 0)) := ⟨_, rfl⟩
  have h := h S_1 e_2
  have hP : va_P D vwCl (wEn k a S_1 ++ wFl k b S1) H := by rw [e_2]; exact hP
  have hD : va_D A (wEn k a S_1 ++ wFl k b S1) := by rw [e_2]; exact hD
  refine lv_aload_n hx hb dX0_begin_8 rfl (lv_at hl 0 rfl) ?_
  refine lv_aload_n hx hb dX0_begin_9 rfl (lv_at hl 1 rfl) ?_
  refine va_get (D := D) (ci := 2) (v := .int (S1.1 1)) (C := RX2) (T := TX2) (N := 6) hx hb hts in_Fl hown hK hP 4 rfl rfl 1 (by decide) ln_37 (fun _ h9 => h9) rfl dX0_begin_10 ?_
  refine va_put (D := D) (ci := 0) (v := .int (S1.1 1)) (ty := .int) (C := RX0) (T := TX0) (N := 7) hx hb hts in_En tyX0 tyX0_ok nmX0 hown hK hP hD hS 0 rfl rfl 1 (by decide) ln_15 (fun _ h9 => h9) rfl (by decide +kernel) rfl rfl (Nat.le_of_ble_eq_true rfl) dX0_begin_13 (fun H locs hP hD hS => ?_)
  obtain ⟨S_3, e_4⟩ : ∃ z : St, z = (sI S_1 1 (S1.1 1)) := ⟨_, rfl⟩
  have h := h S_3 e_4
  have hP : va_P D vwCl (wEn k a S_3 ++ wFl k b S1) H := by rw [e_4]; exact hP
  have hD : va_D A (wEn k a S_3 ++ wFl k b S1) := by rw [e_4]; exact hD
  refine lv_aload_n hx hb dX0_begin_16 rfl (lv_at hl 0 rfl) ?_
  refine lv_iconst (v := (1 : Int32)) hx hb dX0_begin_17 (by decide) ?_
  refine lv_aload_n hx hb dX0_begin_18 rfl (lv_at hl 0 rfl) ?_
  refine va_get (D := D) (ci := 0) (v := .int (S_3.1 0)) (C := RX0) (T := TX0) (N := 7) hx hb hts in_En hown hK hP 0 rfl rfl 0 (by decide) ln_9 (fun _ h9 => h9) rfl dX0_begin_19 ?_
  refine lv_ishl hx hb dX0_begin_22 ?_
  refine lv_iconst (v := (1 : Int32)) hx hb dX0_begin_23 (by decide) ?_
  refine lv_isub hx hb dX0_begin_24 ?_
  refine va_put (D := D) (ci := 0) (v := .int (((1 : Int32) <<< ((S_3.1 0) &&& 31)) - (1 : Int32))) (ty := .int) (C := RX0) (T := TX0) (N := 7) hx hb hts in_En tyX0 tyX0_ok nmX0 hown hK hP hD hS 0 rfl rfl 2 (by decide) ln_18 (fun _ h9 => h9) rfl (by decide +kernel) rfl rfl (Nat.le_of_ble_eq_true rfl) dX0_begin_25 (fun H locs hP hD hS => ?_)
  obtain ⟨S_5, e_6⟩ : ∃ z : St, z = (sI S_3 2 (((1 : Int32) <<< ((S_3.1 0) &&& 31)) - (1 : Int32))) := ⟨_, rfl⟩
  have h := h S_5 e_6
  have hP : va_P D vwCl (wEn k a S_5 ++ wFl k b S1) H := by rw [e_6]; exact hP
  have hD : va_D A (wEn k a S_5 ++ wFl k b S1) := by rw [e_6]; exact hD
  refine lv_aload_n hx hb dX0_begin_28 rfl (lv_at hl 0 rfl) ?_
  refine lv_iconst (v := (0 : Int32)) hx hb dX0_begin_29 (by decide) ?_
  refine va_put (D := D) (ci := 0) (v := .int (0 : Int32)) (ty := .int) (C := RX0) (T := TX0) (N := 7) hx hb hts in_En tyX0 tyX0_ok nmX0 hown hK hP hD hS 0 rfl rfl 3 (by decide) ln_21 (fun _ h9 => h9) rfl (by decide +kernel) rfl rfl (Nat.le_of_ble_eq_true rfl) dX0_begin_30 (fun H locs hP hD hS => ?_)
  obtain ⟨S_7, e_8⟩ : ∃ z : St, z = (sI S_5 3 (0 : Int32)) := ⟨_, rfl⟩
  have h := h S_7 e_8
  have hP : va_P D vwCl (wEn k a S_7 ++ wFl k b S1) H := by rw [e_8]; exact hP
  have hD : va_D A (wEn k a S_7 ++ wFl k b S1) := by rw [e_8]; exact hD
  refine lv_iconst (v := (0 : Int32)) hx hb dX0_begin_33 (by decide) ?_
  refine lv_istore_n (lv' := [(2, .int (0 : Int32)), (0, .ref (a 0)), (1, .ref (b 0))]) hx hb dX0_begin_34 rfl hl (by decide) rfl (fun ls hl => ?_)
  obtain ⟨n_16, h⟩ := h
  exact L_35 n_16 S_7 S1 (0 : Int32) H locs ls hP hD hS (lv_sub hl [1, 2, 0] rfl) h
/-! X0_copyFrom -/
def wp_X0_copyFrom_34 (Q : St → St → Prop) : Nat → St → St → Int32 → Prop
  | 0, _, _, _ => False
  | n + 1, S0, S1, x2 => (((8 : Int32) ≤ x2) → (Q S0 S1)) ∧ ((¬ (8 : Int32) ≤ x2) → (vp_in x2 8 ∧ (vp_in x2 8 ∧ (∀ S_10, S_10 = (sA S0 4 x2.toNatClampNeg (S1.2 4 x2.toNatClampNeg)) → (vp_in x2 8 ∧ (vp_in x2 8 ∧ (∀ S_12, S_12 = (sA S_10 6 x2.toNatClampNeg (S1.2 6 x2.toNatClampNeg)) → (wp_X0_copyFrom_34 Q n S_12 S1 (x2 + 1)))))))))
def wp_X0_copyFrom (S0 : St) (S1 : St) (Q : St → St → Prop) : Prop := ∀ S_1, S_1 = (sI S0 0 (S1.1 0)) → (∀ S_3, S_3 = (sI S_1 1 (S1.1 1)) → (∀ S_5, S_5 = (sI S_3 2 (S1.1 2)) → (∀ S_7, S_7 = (sI S_5 3 (S1.1 3)) → (∃ i, wp_X0_copyFrom_34 Q i S_7 S1 (0 : Int32)))))
abbrev rmX0_copyFrom : Room := { frames := 0, cells := 0, slots := 0, locals := 0 }
set_option maxRecDepth 100000 in
set_option maxHeartbeats 4000000 in
theorem c_X0_copyFrom (l : Launch) (D : va_G) (k : Nat → ClassId) (a : Nat → Nat) (b : Nat → Nat) (S0 : St) (S1 : St) (sz : Nat) (Q : St → St → Prop) (h : wp_X0_copyFrom S0 S1 Q) : Met l yX0_copyFrom wsX0_copyFrom rmX0_copyFrom (cPc D k (wEn k a S0 ++ wEn k b S1) [.ref (a 0), .ref (b 0)] sz) (va_Qv (fun (u : St × St) => Q u.1 u.2) (cB D k (va_A (wEn k a S0 ++ wEn k b S1) sz) (fun u : St × St => wEn k a u.1 ++ wEn k b u.2)) (va_A (wEn k a S0 ++ wEn k b S1) sz)) 0 0 (va_A (wEn k a S0 ++ wEn k b S1) sz) := by
  refine ct_entry (cc := cX0_copyFrom) (maxL := 3) (ret := none) (Rn := RX0) (Qc := fun A => (va_Qv (fun (u : St × St) => Q u.1 u.2) (cB D k A (fun u : St × St => wEn k a u.1 ++ wEn k b u.2)) A)) (by decide) rfl rfl (Nat.le_of_ble_eq_true rfl) ?_
  intro p e s m below meth c hx hb hr hlocks hml hts hown hnw hK A hA H locs hP hD hS ls hl
  have hl : lv_has ls 3 [(0, .ref (a 0)), (1, .ref (b 0))] := hl
  have ln_15 := hts (.fieldLink RX0 15 "WithTheSameOne$Ending" "law" "I") (by decide +kernel)
  have ln_18 := hts (.fieldLink RX0 18 "WithTheSameOne$Ending" "helpers" "I") (by decide +kernel)
  have ln_21 := hts (.fieldLink RX0 21 "WithTheSameOne$Ending" "rounds" "I") (by decide +kernel)
  have ln_24 := hts (.fieldLink RX0 24 "WithTheSameOne$Ending" "partners" "[I") (by decide +kernel)
  have ln_31 := hts (.fieldLink RX0 31 "WithTheSameOne$Ending" "cousins" "[I") (by decide +kernel)
  have ln_9 := hts (.fieldLink RX0 9 "WithTheSameOne$Ending" "size" "I") (by decide +kernel)
  have in_En : ∀ w ∈ wsX00, w ∈ wsX0_copyFrom := fun _ h => List.mem_cons_of_mem _ (List.mem_append_right _ h)
  have L_34 : ∀ (n : Nat), ∀ (S0 : St) (S1 : St) (x2 : Int32), ∀ (H : Heap) (locs : List Loc) (ls : Array Slot), va_P D vwCl (wEn k a S0 ++ wEn k b S1) H → va_D A (wEn k a S0 ++ wEn k b S1) → va_S A s.heap H locs → lv_has ls 3 [(0, .ref (a 0)), (1, .ref (b 0)), (2, .int x2)] → wp_X0_copyFrom_34 Q n S0 S1 x2 → W p l e rmX0_copyFrom s m ([.ref (a 0), .ref (b 0)] : List Value).toArray below meth c H locs 0 0 (MQ below (va_Qv (fun (u : St × St) => Q u.1 u.2) (cB D k A (fun u : St × St => wEn k a u.1 ++ wEn k b u.2)) A) ([.ref (a 0), .ref (b 0)] : List Value).toArray s 0 0 A) (F0 m 34 ls []) := by
    intro n
    induction n with
    | zero => intro S0 S1 x2 H locs ls hP hD hS hl h; exact absurd h (by unfold wp_X0_copyFrom_34; exact id)
    | succ n ih =>
      intro S0 S1 x2 H locs ls hP hD hS hl h
      unfold wp_X0_copyFrom_34 at h
      refine lv_iload_n hx hb dX0_copyFrom_34 rfl (lv_at hl 2 rfl) ?_
      refine lv_bipush (v := (8 : Int32)) hx hb dX0_copyFrom_35 (by decide) ?_
      refine lv_icmp_ge (tgt := 70) hx hb dX0_copyFrom_37 (by decide) (fun c_9 => ?_) (fun c_9 => ?_)
      · have h := h.1 c_9
        exact W.vret hx hb hr (fun t ht hW => ⟨⟨(S0, S1), rfl, h, by rw [ht]; exact hP, va_K.moved hW.alike hK, hD⟩, hS.F ht⟩) hS.2.2 dX0_copyFrom_70
      · have h := h.2 c_9
        refine lv_aload_n hx hb dX0_copyFrom_40 rfl (lv_at hl 0 rfl) ?_
        refine va_get (D := D) (ci := 0) (v := .ref (a 1)) (C := RX0) (T := TX0) (N := 7) hx hb hts in_En hown hK hP 0 rfl rfl 4 (by decide) ln_24 (fun _ h9 => h9) rfl dX0_copyFrom_41 ?_
        refine lv_iload_n hx hb dX0_copyFrom_44 rfl (lv_at hl 2 rfl) ?_
        refine lv_aload_n hx hb dX0_copyFrom_45 rfl (lv_at hl 1 rfl) ?_
        refine va_get (D := D) (ci := 0) (v := .ref (b 1)) (C := RX0) (T := TX0) (N := 7) hx hb hts in_En hown hK hP 4 rfl rfl 4 (by decide) ln_24 (fun _ h9 => h9) rfl dX0_copyFrom_46 ?_
        refine lv_iload_n hx hb dX0_copyFrom_49 rfl (lv_at hl 2 rfl) ?_
        refine va_iald hx hb hK hP 5 0 rfl rfl h.1 dX0_copyFrom_50 ?_
        have h := h.2
        refine va_iast hx hb hK hP hD hS 1 0 rfl rfl h.1 dX0_copyFrom_51 (fun H locs hP hD hS => ?_)
        have h := h.2
        obtain ⟨S_10, e_11⟩ : ∃ z : St, z = (sA S0 4 x2.toNatClampNeg (S1.2 4 x2.toNatClampNeg)) := ⟨_, rfl⟩
        have h := h S_10 e_11
        have hP : va_P D vwCl (wEn k a S_10 ++ wEn k b S1) H := by rw [e_11]; exact hP
        have hD : va_D A (wEn k a S_10 ++ wEn k b S1) := by rw [e_11]; exact hD
        refine lv_aload_n hx hb dX0_copyFrom_52 rfl (lv_at hl 0 rfl) ?_
        refine va_get (D := D) (ci := 0) (v := .ref (a 3)) (C := RX0) (T := TX0) (N := 7) hx hb hts in_En hown hK hP 0 rfl rfl 6 (by decide) ln_31 (fun _ h9 => h9) rfl dX0_copyFrom_53 ?_
        refine lv_iload_n hx hb dX0_copyFrom_56 rfl (lv_at hl 2 rfl) ?_
        refine lv_aload_n hx hb dX0_copyFrom_57 rfl (lv_at hl 1 rfl) ?_
        refine va_get (D := D) (ci := 0) (v := .ref (b 3)) (C := RX0) (T := TX0) (N := 7) hx hb hts in_En hown hK hP 4 rfl rfl 6 (by decide) ln_31 (fun _ h9 => h9) rfl dX0_copyFrom_58 ?_
        refine lv_iload_n hx hb dX0_copyFrom_61 rfl (lv_at hl 2 rfl) ?_
        refine va_iald hx hb hK hP 7 0 rfl rfl h.1 dX0_copyFrom_62 ?_
        have h := h.2
        refine va_iast hx hb hK hP hD hS 3 0 rfl rfl h.1 dX0_copyFrom_63 (fun H locs hP hD hS => ?_)
        have h := h.2
        obtain ⟨S_12, e_13⟩ : ∃ z : St, z = (sA S_10 6 x2.toNatClampNeg (S1.2 6 x2.toNatClampNeg)) := ⟨_, rfl⟩
        have h := h S_12 e_13
        have hP : va_P D vwCl (wEn k a S_12 ++ wEn k b S1) H := by rw [e_13]; exact hP
        have hD : va_D A (wEn k a S_12 ++ wEn k b S1) := by rw [e_13]; exact hD
        refine lv_iinc (v := (x2 + 1)) (lv' := [(2, .int (x2 + 1)), (0, .ref (a 0)), (1, .ref (b 0))]) hx hb dX0_copyFrom_64 hl (k := 2) rfl rfl (by decide) rfl (fun ls hl => ?_)
        refine lv_goto (tgt := 34) hx hb dX0_copyFrom_67 (by decide) ?_
        exact ih S_12 S1 (x2 + 1) H locs ls hP hD hS (lv_sub hl [1, 2, 0] rfl) h
  unfold wp_X0_copyFrom at h
  refine lv_aload_n hx hb dX0_copyFrom_0 rfl (lv_at hl 0 rfl) ?_
  refine lv_aload_n hx hb dX0_copyFrom_1 rfl (lv_at hl 1 rfl) ?_
  refine va_get (D := D) (ci := 0) (v := .int (S1.1 0)) (C := RX0) (T := TX0) (N := 7) hx hb hts in_En hown hK hP 4 rfl rfl 0 (by decide) ln_9 (fun _ h9 => h9) rfl dX0_copyFrom_2 ?_
  refine va_put (D := D) (ci := 0) (v := .int (S1.1 0)) (ty := .int) (C := RX0) (T := TX0) (N := 7) hx hb hts in_En tyX0 tyX0_ok nmX0 hown hK hP hD hS 0 rfl rfl 0 (by decide) ln_9 (fun _ h9 => h9) rfl (by decide +kernel) rfl rfl (Nat.le_of_ble_eq_true rfl) dX0_copyFrom_5 (fun H locs hP hD hS => ?_)
  obtain ⟨S_1, e_2⟩ : ∃ z : St, z = (sI S0 0 (S1.1 0)) := ⟨_, rfl⟩
  have h := h S_1 e_2
  have hP : va_P D vwCl (wEn k a S_1 ++ wEn k b S1) H := by rw [e_2]; exact hP
  have hD : va_D A (wEn k a S_1 ++ wEn k b S1) := by rw [e_2]; exact hD
  refine lv_aload_n hx hb dX0_copyFrom_8 rfl (lv_at hl 0 rfl) ?_
  refine lv_aload_n hx hb dX0_copyFrom_9 rfl (lv_at hl 1 rfl) ?_
  refine va_get (D := D) (ci := 0) (v := .int (S1.1 1)) (C := RX0) (T := TX0) (N := 7) hx hb hts in_En hown hK hP 4 rfl rfl 1 (by decide) ln_15 (fun _ h9 => h9) rfl dX0_copyFrom_10 ?_
  refine va_put (D := D) (ci := 0) (v := .int (S1.1 1)) (ty := .int) (C := RX0) (T := TX0) (N := 7) hx hb hts in_En tyX0 tyX0_ok nmX0 hown hK hP hD hS 0 rfl rfl 1 (by decide) ln_15 (fun _ h9 => h9) rfl (by decide +kernel) rfl rfl (Nat.le_of_ble_eq_true rfl) dX0_copyFrom_13 (fun H locs hP hD hS => ?_)
  obtain ⟨S_3, e_4⟩ : ∃ z : St, z = (sI S_1 1 (S1.1 1)) := ⟨_, rfl⟩
  have h := h S_3 e_4
  have hP : va_P D vwCl (wEn k a S_3 ++ wEn k b S1) H := by rw [e_4]; exact hP
  have hD : va_D A (wEn k a S_3 ++ wEn k b S1) := by rw [e_4]; exact hD
  refine lv_aload_n hx hb dX0_copyFrom_16 rfl (lv_at hl 0 rfl) ?_
  refine lv_aload_n hx hb dX0_copyFrom_17 rfl (lv_at hl 1 rfl) ?_
  refine va_get (D := D) (ci := 0) (v := .int (S1.1 2)) (C := RX0) (T := TX0) (N := 7) hx hb hts in_En hown hK hP 4 rfl rfl 2 (by decide) ln_18 (fun _ h9 => h9) rfl dX0_copyFrom_18 ?_
  refine va_put (D := D) (ci := 0) (v := .int (S1.1 2)) (ty := .int) (C := RX0) (T := TX0) (N := 7) hx hb hts in_En tyX0 tyX0_ok nmX0 hown hK hP hD hS 0 rfl rfl 2 (by decide) ln_18 (fun _ h9 => h9) rfl (by decide +kernel) rfl rfl (Nat.le_of_ble_eq_true rfl) dX0_copyFrom_21 (fun H locs hP hD hS => ?_)
  obtain ⟨S_5, e_6⟩ : ∃ z : St, z = (sI S_3 2 (S1.1 2)) := ⟨_, rfl⟩
  have h := h S_5 e_6
  have hP : va_P D vwCl (wEn k a S_5 ++ wEn k b S1) H := by rw [e_6]; exact hP
  have hD : va_D A (wEn k a S_5 ++ wEn k b S1) := by rw [e_6]; exact hD
  refine lv_aload_n hx hb dX0_copyFrom_24 rfl (lv_at hl 0 rfl) ?_
  refine lv_aload_n hx hb dX0_copyFrom_25 rfl (lv_at hl 1 rfl) ?_
  refine va_get (D := D) (ci := 0) (v := .int (S1.1 3)) (C := RX0) (T := TX0) (N := 7) hx hb hts in_En hown hK hP 4 rfl rfl 3 (by decide) ln_21 (fun _ h9 => h9) rfl dX0_copyFrom_26 ?_
  refine va_put (D := D) (ci := 0) (v := .int (S1.1 3)) (ty := .int) (C := RX0) (T := TX0) (N := 7) hx hb hts in_En tyX0 tyX0_ok nmX0 hown hK hP hD hS 0 rfl rfl 3 (by decide) ln_21 (fun _ h9 => h9) rfl (by decide +kernel) rfl rfl (Nat.le_of_ble_eq_true rfl) dX0_copyFrom_29 (fun H locs hP hD hS => ?_)
  obtain ⟨S_7, e_8⟩ : ∃ z : St, z = (sI S_5 3 (S1.1 3)) := ⟨_, rfl⟩
  have h := h S_7 e_8
  have hP : va_P D vwCl (wEn k a S_7 ++ wEn k b S1) H := by rw [e_8]; exact hP
  have hD : va_D A (wEn k a S_7 ++ wEn k b S1) := by rw [e_8]; exact hD
  refine lv_iconst (v := (0 : Int32)) hx hb dX0_copyFrom_32 (by decide) ?_
  refine lv_istore_n (lv' := [(2, .int (0 : Int32)), (0, .ref (a 0)), (1, .ref (b 0))]) hx hb dX0_copyFrom_33 rfl hl (by decide) rfl (fun ls hl => ?_)
  obtain ⟨n_14, h⟩ := h
  exact L_34 n_14 S_7 S1 (0 : Int32) H locs ls hP hD hS (lv_sub hl [1, 2, 0] rfl) h
/-! X6_hasBit -/
def wp_X6_hasBit (x0 : Int32) (x1 : Int32) (Q : Int32 → Prop) : Prop := ((((x0 >>> (x1 &&& 31)) &&& (1 : Int32)) = 0) → (Q (0 : Int32))) ∧ ((¬ ((x0 >>> (x1 &&& 31)) &&& (1 : Int32)) = 0) → (Q (1 : Int32)))
abbrev rmX6_hasBit : Room := { frames := 0, cells := 0, slots := 0, locals := 0 }
set_option maxRecDepth 100000 in
set_option maxHeartbeats 4000000 in
theorem c_X6_hasBit (l : Launch) (x0 : Int32) (x1 : Int32) (Q : Int32 → Prop) (h : wp_X6_hasBit x0 x1 Q) : Met l yX6_hasBit wsX6_hasBit rmX6_hasBit (fun v _ => v = ([.int x0, .int x1] : List Value).toArray) (vp_Si Q) 0 0 (fun _ => False) := by
  refine cs_entry (cc := cX6_hasBit) (maxL := 2) (ret := (some .boolean)) (Rn := RX6) (by decide) rfl rfl (Nat.le_of_ble_eq_true rfl) ?_
  intro p e s m below meth c hx hb hr hlocks hml hts hown ls hl
  have hl : lv_has ls 2 [(0, .int x0), (1, .int x1)] := hl
  unfold wp_X6_hasBit at h
  refine lv_iload_n hx hb dX6_hasBit_0 rfl (lv_at hl 0 rfl) ?_
  refine lv_iload_n hx hb dX6_hasBit_1 rfl (lv_at hl 1 rfl) ?_
  refine lv_ishr hx hb dX6_hasBit_2 ?_
  refine lv_iconst (v := (1 : Int32)) hx hb dX6_hasBit_3 (by decide) ?_
  refine lv_iand hx hb dX6_hasBit_4 ?_
  refine lv_if_eq (tgt := 12) hx hb dX6_hasBit_5 (by decide) (fun c_1 => ?_) (fun c_1 => ?_)
  · have h := h.1 c_1
    refine lv_iconst (v := (0 : Int32)) hx hb dX6_hasBit_12 (by decide) ?_
    exact W.zret (v := (0 : Int32)) hx hb hr rfl (fun t ht hW => ⟨(0 : Int32), rfl, h, ht⟩) (fun q hq => by cases hq) dX6_hasBit_13
  · have h := h.2 c_1
    refine lv_iconst (v := (1 : Int32)) hx hb dX6_hasBit_8 (by decide) ?_
    refine lv_goto (tgt := 13) hx hb dX6_hasBit_9 (by decide) ?_
    exact W.zret (v := (1 : Int32)) hx hb hr rfl (fun t ht hW => ⟨(1 : Int32), rfl, h, ht⟩) (fun q hq => by cases hq) dX6_hasBit_13
/-! X0_haveDanced -/
def wp_X0_haveDanced (S0 : St) (x1 : Int32) (x2 : Int32) (Q : Int32 → St → Prop) : Prop := vp_in x1 8 ∧ (wp_X6_hasBit (S0.2 4 x1.toNatClampNeg) x2 (fun r_1 => bz r_1 ∧ Q r_1 S0))
abbrev rmX0_haveDanced : Room := { frames := 1, cells := 0, slots := 0, locals := 21 }
set_option maxRecDepth 100000 in
set_option maxHeartbeats 4000000 in
theorem c_X0_haveDanced (l : Launch) (D : va_G) (k : Nat → ClassId) (a : Nat → Nat) (S0 : St) (sz : Nat) (x1 : Int32) (x2 : Int32) (Q : Int32 → St → Prop) (h : wp_X0_haveDanced S0 x1 x2 Q) : Met l yX0_haveDanced wsX0_haveDanced rmX0_haveDanced (cPc D k (wEn k a S0) [.ref (a 0), .int x1, .int x2] sz) (va_Qi (fun (r : Int32) (u : St) => Q r u) (cB D k (va_A (wEn k a S0) sz) (fun u : St => wEn k a u)) (va_A (wEn k a S0) sz)) 0 0 (va_A (wEn k a S0) sz) := by
  refine ct_entry (cc := cX0_haveDanced) (maxL := 3) (ret := (some .boolean)) (Rn := RX0) (Qc := fun A => (va_Qi (fun (r : Int32) (u : St) => Q r u) (cB D k A (fun u : St => wEn k a u)) A)) (by decide) rfl rfl (Nat.le_of_ble_eq_true rfl) ?_
  intro p e s m below meth c hx hb hr hlocks hml hts hown hnw hK A hA H locs hP hD hS ls hl
  have hl : lv_has ls 3 [(0, .ref (a 0)), (1, .int x1), (2, .int x2)] := hl
  have ln_24 := hts (.fieldLink RX0 24 "WithTheSameOne$Ending" "partners" "[I") (by decide +kernel)
  have ni_X6 := hts (.initialized RX6) (by decide +kernel)
  have ns_yX6_hasBit := hts (.static yX6_hasBit) (by decide +kernel)
  have in_En : ∀ w ∈ wsX00, w ∈ wsX0_haveDanced := fun _ h => List.mem_cons_of_mem _ (List.mem_append_right _ h)
  unfold wp_X0_haveDanced at h
  refine lv_aload_n hx hb dX0_haveDanced_0 rfl (lv_at hl 0 rfl) ?_
  refine va_get (D := D) (ci := 0) (v := .ref (a 1)) (C := RX0) (T := TX0) (N := 7) hx hb hts in_En hown hK hP 0 rfl rfl 4 (by decide) ln_24 (fun _ h9 => h9) rfl dX0_haveDanced_1 ?_
  refine lv_iload_n hx hb dX0_haveDanced_4 rfl (lv_at hl 1 rfl) ?_
  refine va_iald hx hb hK hP 1 0 rfl rfl h.1 dX0_haveDanced_5 ?_
  have h := h.2
  refine lv_iload_n hx hb dX0_haveDanced_6 rfl (lv_at hl 2 rfl) ?_
  refine gs_i (va_runSN (As := [.int (S0.2 4 x1.toNatClampNeg), .int x2]) (rest := []) ⟨hx, hb, hml, hown, hts⟩ (c_X6_hasBit l (S0.2 4 x1.toNatClampNeg) x2 _ h) ⟨va_cnB 2 hts gX0_haveDanced_X6_hasBit_n47 rfl rfl rfl (hnw.1 _ (List.mem_of_getElem? (i := 0) rfl)) ni_X6 (by decide +kernel) ⟨Nat.le_of_ble_eq_true rfl, Nat.le_of_ble_eq_true rfl⟩, ns_yX6_hasBit, trivial⟩ preEq rfl rfl hl.1 rfl (lv_room (Nat.le_of_ble_eq_true rfl)) dX0_haveDanced_7 ⟨Nat.zero_le _, Nat.zero_le _⟩) (fun r_1 h => ?_)
  exact W.zret (v := r_1) hx hb hr (bz_narrow h.1) (fun t ht hW => ⟨⟨r_1, S0, rfl, h.2, by rw [ht]; exact hP, va_K.moved hW.alike hK, hD⟩, hS.F ht⟩) hS.2.2 dX0_haveDanced_10
/-! X6_lesserOf -/
def wp_X6_lesserOf (x0 : Int32) (Q : Int32 → Prop) : Prop := Q (x0 / (10 : Int32))
abbrev rmX6_lesserOf : Room := { frames := 0, cells := 0, slots := 0, locals := 0 }
set_option maxRecDepth 100000 in
set_option maxHeartbeats 4000000 in
theorem c_X6_lesserOf (l : Launch) (x0 : Int32) (Q : Int32 → Prop) (h : wp_X6_lesserOf x0 Q) : Met l yX6_lesserOf wsX6_lesserOf rmX6_lesserOf (fun v _ => v = ([.int x0] : List Value).toArray) (vp_Si Q) 0 0 (fun _ => False) := by
  refine cs_entry (cc := cX6_lesserOf) (maxL := 1) (ret := (some .int)) (Rn := RX6) (by decide) rfl rfl (Nat.le_of_ble_eq_true rfl) ?_
  intro p e s m below meth c hx hb hr hlocks hml hts hown ls hl
  have hl : lv_has ls 1 [(0, .int x0)] := hl
  unfold wp_X6_lesserOf at h
  refine lv_iload_n hx hb dX6_lesserOf_0 rfl (lv_at hl 0 rfl) ?_
  refine lv_bipush (v := (10 : Int32)) hx hb dX6_lesserOf_1 (by decide) ?_
  refine lv_idiv hx hb dX6_lesserOf_3 (by decide) ?_
  exact W.iret (v := (x0 / (10 : Int32))) hx hb hr (fun t ht hW => ⟨(x0 / (10 : Int32)), rfl, h, ht⟩) (fun q hq => by cases hq) dX6_lesserOf_4
/-! X6_greaterOf -/
def wp_X6_greaterOf (x0 : Int32) (Q : Int32 → Prop) : Prop := Q (x0 - x0 / (10 : Int32) * (10 : Int32))
abbrev rmX6_greaterOf : Room := { frames := 0, cells := 0, slots := 0, locals := 0 }
set_option maxRecDepth 100000 in
set_option maxHeartbeats 4000000 in
theorem c_X6_greaterOf (l : Launch) (x0 : Int32) (Q : Int32 → Prop) (h : wp_X6_greaterOf x0 Q) : Met l yX6_greaterOf wsX6_greaterOf rmX6_greaterOf (fun v _ => v = ([.int x0] : List Value).toArray) (vp_Si Q) 0 0 (fun _ => False) := by
  refine cs_entry (cc := cX6_greaterOf) (maxL := 1) (ret := (some .int)) (Rn := RX6) (by decide) rfl rfl (Nat.le_of_ble_eq_true rfl) ?_
  intro p e s m below meth c hx hb hr hlocks hml hts hown ls hl
  have hl : lv_has ls 1 [(0, .int x0)] := hl
  unfold wp_X6_greaterOf at h
  refine lv_iload_n hx hb dX6_greaterOf_0 rfl (lv_at hl 0 rfl) ?_
  refine lv_bipush (v := (10 : Int32)) hx hb dX6_greaterOf_1 (by decide) ?_
  refine lv_irem hx hb dX6_greaterOf_3 (by decide) ?_
  exact W.iret (v := (x0 - x0 / (10 : Int32) * (10 : Int32))) hx hb hr (fun t ht hW => ⟨(x0 - x0 / (10 : Int32) * (10 : Int32)), rfl, h, ht⟩) (fun q hq => by cases hq) dX6_greaterOf_4
/-! X0_joinPair -/
def wp_X0_joinPair (S0 : St) (x1 : Int32) (Q : St → Prop) : Prop := wp_X6_lesserOf x1 (fun r_1 => vp_in r_1 8 ∧ (wp_X6_greaterOf x1 (fun r_2 => vp_in r_1 8 ∧ (∀ S_3, S_3 = (sA S0 4 r_1.toNatClampNeg ((S0.2 4 r_1.toNatClampNeg) ||| ((1 : Int32) <<< (r_2 &&& 31)))) → (wp_X6_greaterOf x1 (fun r_5 => vp_in r_5 8 ∧ (wp_X6_lesserOf x1 (fun r_6 => vp_in r_5 8 ∧ (∀ S_7, S_7 = (sA S_3 4 r_5.toNatClampNeg ((S_3.2 4 r_5.toNatClampNeg) ||| ((1 : Int32) <<< (r_6 &&& 31)))) → (Q S_7))))))))))
abbrev rmX0_joinPair : Room := { frames := 1, cells := 0, slots := 0, locals := 20 }
set_option maxRecDepth 100000 in
set_option maxHeartbeats 4000000 in
theorem c_X0_joinPair (l : Launch) (D : va_G) (k : Nat → ClassId) (a : Nat → Nat) (S0 : St) (sz : Nat) (x1 : Int32) (Q : St → Prop) (h : wp_X0_joinPair S0 x1 Q) : Met l yX0_joinPair wsX0_joinPair rmX0_joinPair (cPc D k (wEn k a S0) [.ref (a 0), .int x1] sz) (va_Qv (fun (u : St) => Q u) (cB D k (va_A (wEn k a S0) sz) (fun u : St => wEn k a u)) (va_A (wEn k a S0) sz)) 0 0 (va_A (wEn k a S0) sz) := by
  refine ct_entry (cc := cX0_joinPair) (maxL := 2) (ret := none) (Rn := RX0) (Qc := fun A => (va_Qv (fun (u : St) => Q u) (cB D k A (fun u : St => wEn k a u)) A)) (by decide) rfl rfl (Nat.le_of_ble_eq_true rfl) ?_
  intro p e s m below meth c hx hb hr hlocks hml hts hown hnw hK A hA H locs hP hD hS ls hl
  have hl : lv_has ls 2 [(0, .ref (a 0)), (1, .int x1)] := hl
  have ln_24 := hts (.fieldLink RX0 24 "WithTheSameOne$Ending" "partners" "[I") (by decide +kernel)
  have ni_X6 := hts (.initialized RX6) (by decide +kernel)
  have ns_yX6_greaterOf := hts (.static yX6_greaterOf) (by decide +kernel)
  have ns_yX6_lesserOf := hts (.static yX6_lesserOf) (by decide +kernel)
  have in_En : ∀ w ∈ wsX00, w ∈ wsX0_joinPair := fun _ h => List.mem_cons_of_mem _ (List.mem_append_right _ h)
  unfold wp_X0_joinPair at h
  refine lv_aload_n hx hb dX0_joinPair_0 rfl (lv_at hl 0 rfl) ?_
  refine va_get (D := D) (ci := 0) (v := .ref (a 1)) (C := RX0) (T := TX0) (N := 7) hx hb hts in_En hown hK hP 0 rfl rfl 4 (by decide) ln_24 (fun _ h9 => h9) rfl dX0_joinPair_1 ?_
  refine lv_iload_n hx hb dX0_joinPair_4 rfl (lv_at hl 1 rfl) ?_
  refine gs_i (va_runSN (As := [.int x1]) (rest := [.ref (a 1)]) ⟨hx, hb, hml, hown, hts⟩ (c_X6_lesserOf l x1 _ h) ⟨va_cnB 1 hts gX0_joinPair_X6_lesserOf_n50 rfl rfl rfl (hnw.1 _ (List.mem_of_getElem? (i := 1) rfl)) ni_X6 (by decide +kernel) ⟨Nat.le_of_ble_eq_true rfl, Nat.le_of_ble_eq_true rfl⟩, ns_yX6_lesserOf, trivial⟩ preEq rfl rfl hl.1 rfl (lv_room (Nat.le_of_ble_eq_true rfl)) dX0_joinPair_5 ⟨Nat.zero_le _, Nat.zero_le _⟩) (fun r_1 h => ?_)
  refine lv_dup2_11 hx hb dX0_joinPair_8 rfl rfl ?_
  refine va_iald hx hb hK hP 1 0 rfl rfl h.1 dX0_joinPair_9 ?_
  have h := h.2
  refine lv_iconst (v := (1 : Int32)) hx hb dX0_joinPair_10 (by decide) ?_
  refine lv_iload_n hx hb dX0_joinPair_11 rfl (lv_at hl 1 rfl) ?_
  refine gs_i (va_runSN (As := [.int x1]) (rest := [.int (1 : Int32), .int (S0.2 4 r_1.toNatClampNeg), .int r_1, .ref (a 1)]) ⟨hx, hb, hml, hown, hts⟩ (c_X6_greaterOf l x1 _ h) ⟨va_cnB 1 hts gX0_joinPair_X6_greaterOf_n54 rfl rfl rfl (hnw.1 _ (List.mem_of_getElem? (i := 2) rfl)) ni_X6 (by decide +kernel) ⟨Nat.le_of_ble_eq_true rfl, Nat.le_of_ble_eq_true rfl⟩, ns_yX6_greaterOf, trivial⟩ preEq rfl rfl hl.1 rfl (lv_room (Nat.le_of_ble_eq_true rfl)) dX0_joinPair_12 ⟨Nat.zero_le _, Nat.zero_le _⟩) (fun r_2 h => ?_)
  refine lv_ishl hx hb dX0_joinPair_15 ?_
  refine lv_ior hx hb dX0_joinPair_16 ?_
  refine va_iast hx hb hK hP hD hS 1 0 rfl rfl h.1 dX0_joinPair_17 (fun H locs hP hD hS => ?_)
  have h := h.2
  obtain ⟨S_3, e_4⟩ : ∃ z : St, z = (sA S0 4 r_1.toNatClampNeg ((S0.2 4 r_1.toNatClampNeg) ||| ((1 : Int32) <<< (r_2 &&& 31)))) := ⟨_, rfl⟩
  have h := h S_3 e_4
  have hP : va_P D vwCl (wEn k a S_3) H := by rw [e_4]; exact hP
  have hD : va_D A (wEn k a S_3) := by rw [e_4]; exact hD
  refine lv_aload_n hx hb dX0_joinPair_18 rfl (lv_at hl 0 rfl) ?_
  refine va_get (D := D) (ci := 0) (v := .ref (a 1)) (C := RX0) (T := TX0) (N := 7) hx hb hts in_En hown hK hP 0 rfl rfl 4 (by decide) ln_24 (fun _ h9 => h9) rfl dX0_joinPair_19 ?_
  refine lv_iload_n hx hb dX0_joinPair_22 rfl (lv_at hl 1 rfl) ?_
  refine gs_i (va_runSN (As := [.int x1]) (rest := [.ref (a 1)]) ⟨hx, hb, hml, hown, hts⟩ (c_X6_greaterOf l x1 _ h) ⟨va_cnB 1 hts gX0_joinPair_X6_greaterOf_n54 rfl rfl rfl (hnw.1 _ (List.mem_of_getElem? (i := 2) rfl)) ni_X6 (by decide +kernel) ⟨Nat.le_of_ble_eq_true rfl, Nat.le_of_ble_eq_true rfl⟩, ns_yX6_greaterOf, trivial⟩ preEq rfl rfl hl.1 rfl (lv_room (Nat.le_of_ble_eq_true rfl)) dX0_joinPair_23 ⟨Nat.zero_le _, Nat.zero_le _⟩) (fun r_5 h => ?_)
  refine lv_dup2_11 hx hb dX0_joinPair_26 rfl rfl ?_
  refine va_iald hx hb hK hP 1 0 rfl rfl h.1 dX0_joinPair_27 ?_
  have h := h.2
  refine lv_iconst (v := (1 : Int32)) hx hb dX0_joinPair_28 (by decide) ?_
  refine lv_iload_n hx hb dX0_joinPair_29 rfl (lv_at hl 1 rfl) ?_
  refine gs_i (va_runSN (As := [.int x1]) (rest := [.int (1 : Int32), .int (S_3.2 4 r_5.toNatClampNeg), .int r_5, .ref (a 1)]) ⟨hx, hb, hml, hown, hts⟩ (c_X6_lesserOf l x1 _ h) ⟨va_cnB 1 hts gX0_joinPair_X6_lesserOf_n50 rfl rfl rfl (hnw.1 _ (List.mem_of_getElem? (i := 1) rfl)) ni_X6 (by decide +kernel) ⟨Nat.le_of_ble_eq_true rfl, Nat.le_of_ble_eq_true rfl⟩, ns_yX6_lesserOf, trivial⟩ preEq rfl rfl hl.1 rfl (lv_room (Nat.le_of_ble_eq_true rfl)) dX0_joinPair_30 ⟨Nat.zero_le _, Nat.zero_le _⟩) (fun r_6 h => ?_)
  refine lv_ishl hx hb dX0_joinPair_33 ?_
  refine lv_ior hx hb dX0_joinPair_34 ?_
  refine va_iast hx hb hK hP hD hS 1 0 rfl rfl h.1 dX0_joinPair_35 (fun H locs hP hD hS => ?_)
  have h := h.2
  obtain ⟨S_7, e_8⟩ : ∃ z : St, z = (sA S_3 4 r_5.toNatClampNeg ((S_3.2 4 r_5.toNatClampNeg) ||| ((1 : Int32) <<< (r_6 &&& 31)))) := ⟨_, rfl⟩
  have h := h S_7 e_8
  have hP : va_P D vwCl (wEn k a S_7) H := by rw [e_8]; exact hP
  have hD : va_D A (wEn k a S_7) := by rw [e_8]; exact hD
  exact W.vret hx hb hr (fun t ht hW => ⟨⟨S_7, rfl, h, by rw [ht]; exact hP, va_K.moved hW.alike hK, hD⟩, hS.F ht⟩) hS.2.2 dX0_joinPair_36
/-! X0_partPair -/
def wp_X0_partPair (S0 : St) (x1 : Int32) (Q : St → Prop) : Prop := wp_X6_lesserOf x1 (fun r_1 => vp_in r_1 8 ∧ (wp_X6_greaterOf x1 (fun r_2 => vp_in r_1 8 ∧ (∀ S_3, S_3 = (sA S0 4 r_1.toNatClampNeg ((S0.2 4 r_1.toNatClampNeg) &&& (((1 : Int32) <<< (r_2 &&& 31)) ^^^ (-1 : Int32)))) → (wp_X6_greaterOf x1 (fun r_5 => vp_in r_5 8 ∧ (wp_X6_lesserOf x1 (fun r_6 => vp_in r_5 8 ∧ (∀ S_7, S_7 = (sA S_3 4 r_5.toNatClampNeg ((S_3.2 4 r_5.toNatClampNeg) &&& (((1 : Int32) <<< (r_6 &&& 31)) ^^^ (-1 : Int32)))) → (Q S_7))))))))))
abbrev rmX0_partPair : Room := { frames := 1, cells := 0, slots := 0, locals := 20 }
set_option maxRecDepth 100000 in
set_option maxHeartbeats 4000000 in
theorem c_X0_partPair (l : Launch) (D : va_G) (k : Nat → ClassId) (a : Nat → Nat) (S0 : St) (sz : Nat) (x1 : Int32) (Q : St → Prop) (h : wp_X0_partPair S0 x1 Q) : Met l yX0_partPair wsX0_partPair rmX0_partPair (cPc D k (wEn k a S0) [.ref (a 0), .int x1] sz) (va_Qv (fun (u : St) => Q u) (cB D k (va_A (wEn k a S0) sz) (fun u : St => wEn k a u)) (va_A (wEn k a S0) sz)) 0 0 (va_A (wEn k a S0) sz) := by
  refine ct_entry (cc := cX0_partPair) (maxL := 2) (ret := none) (Rn := RX0) (Qc := fun A => (va_Qv (fun (u : St) => Q u) (cB D k A (fun u : St => wEn k a u)) A)) (by decide) rfl rfl (Nat.le_of_ble_eq_true rfl) ?_
  intro p e s m below meth c hx hb hr hlocks hml hts hown hnw hK A hA H locs hP hD hS ls hl
  have hl : lv_has ls 2 [(0, .ref (a 0)), (1, .int x1)] := hl
  have ln_24 := hts (.fieldLink RX0 24 "WithTheSameOne$Ending" "partners" "[I") (by decide +kernel)
  have ni_X6 := hts (.initialized RX6) (by decide +kernel)
  have ns_yX6_greaterOf := hts (.static yX6_greaterOf) (by decide +kernel)
  have ns_yX6_lesserOf := hts (.static yX6_lesserOf) (by decide +kernel)
  have in_En : ∀ w ∈ wsX00, w ∈ wsX0_partPair := fun _ h => List.mem_cons_of_mem _ (List.mem_append_right _ h)
  unfold wp_X0_partPair at h
  refine lv_aload_n hx hb dX0_partPair_0 rfl (lv_at hl 0 rfl) ?_
  refine va_get (D := D) (ci := 0) (v := .ref (a 1)) (C := RX0) (T := TX0) (N := 7) hx hb hts in_En hown hK hP 0 rfl rfl 4 (by decide) ln_24 (fun _ h9 => h9) rfl dX0_partPair_1 ?_
  refine lv_iload_n hx hb dX0_partPair_4 rfl (lv_at hl 1 rfl) ?_
  refine gs_i (va_runSN (As := [.int x1]) (rest := [.ref (a 1)]) ⟨hx, hb, hml, hown, hts⟩ (c_X6_lesserOf l x1 _ h) ⟨va_cnB 1 hts gX0_partPair_X6_lesserOf_n50 rfl rfl rfl (hnw.1 _ (List.mem_of_getElem? (i := 1) rfl)) ni_X6 (by decide +kernel) ⟨Nat.le_of_ble_eq_true rfl, Nat.le_of_ble_eq_true rfl⟩, ns_yX6_lesserOf, trivial⟩ preEq rfl rfl hl.1 rfl (lv_room (Nat.le_of_ble_eq_true rfl)) dX0_partPair_5 ⟨Nat.zero_le _, Nat.zero_le _⟩) (fun r_1 h => ?_)
  refine lv_dup2_11 hx hb dX0_partPair_8 rfl rfl ?_
  refine va_iald hx hb hK hP 1 0 rfl rfl h.1 dX0_partPair_9 ?_
  have h := h.2
  refine lv_iconst (v := (1 : Int32)) hx hb dX0_partPair_10 (by decide) ?_
  refine lv_iload_n hx hb dX0_partPair_11 rfl (lv_at hl 1 rfl) ?_
  refine gs_i (va_runSN (As := [.int x1]) (rest := [.int (1 : Int32), .int (S0.2 4 r_1.toNatClampNeg), .int r_1, .ref (a 1)]) ⟨hx, hb, hml, hown, hts⟩ (c_X6_greaterOf l x1 _ h) ⟨va_cnB 1 hts gX0_partPair_X6_greaterOf_n54 rfl rfl rfl (hnw.1 _ (List.mem_of_getElem? (i := 2) rfl)) ni_X6 (by decide +kernel) ⟨Nat.le_of_ble_eq_true rfl, Nat.le_of_ble_eq_true rfl⟩, ns_yX6_greaterOf, trivial⟩ preEq rfl rfl hl.1 rfl (lv_room (Nat.le_of_ble_eq_true rfl)) dX0_partPair_12 ⟨Nat.zero_le _, Nat.zero_le _⟩) (fun r_2 h => ?_)
  refine lv_ishl hx hb dX0_partPair_15 ?_
  refine lv_iconst (v := (-1 : Int32)) hx hb dX0_partPair_16 (by decide) ?_
  refine lv_ixor hx hb dX0_partPair_17 ?_
  refine lv_iand hx hb dX0_partPair_18 ?_
  refine va_iast hx hb hK hP hD hS 1 0 rfl rfl h.1 dX0_partPair_19 (fun H locs hP hD hS => ?_)
  have h := h.2
  obtain ⟨S_3, e_4⟩ : ∃ z : St, z = (sA S0 4 r_1.toNatClampNeg ((S0.2 4 r_1.toNatClampNeg) &&& (((1 : Int32) <<< (r_2 &&& 31)) ^^^ (-1 : Int32)))) := ⟨_, rfl⟩
  have h := h S_3 e_4
  have hP : va_P D vwCl (wEn k a S_3) H := by rw [e_4]; exact hP
  have hD : va_D A (wEn k a S_3) := by rw [e_4]; exact hD
  refine lv_aload_n hx hb dX0_partPair_20 rfl (lv_at hl 0 rfl) ?_
  refine va_get (D := D) (ci := 0) (v := .ref (a 1)) (C := RX0) (T := TX0) (N := 7) hx hb hts in_En hown hK hP 0 rfl rfl 4 (by decide) ln_24 (fun _ h9 => h9) rfl dX0_partPair_21 ?_
  refine lv_iload_n hx hb dX0_partPair_24 rfl (lv_at hl 1 rfl) ?_
  refine gs_i (va_runSN (As := [.int x1]) (rest := [.ref (a 1)]) ⟨hx, hb, hml, hown, hts⟩ (c_X6_greaterOf l x1 _ h) ⟨va_cnB 1 hts gX0_partPair_X6_greaterOf_n54 rfl rfl rfl (hnw.1 _ (List.mem_of_getElem? (i := 2) rfl)) ni_X6 (by decide +kernel) ⟨Nat.le_of_ble_eq_true rfl, Nat.le_of_ble_eq_true rfl⟩, ns_yX6_greaterOf, trivial⟩ preEq rfl rfl hl.1 rfl (lv_room (Nat.le_of_ble_eq_true rfl)) dX0_partPair_25 ⟨Nat.zero_le _, Nat.zero_le _⟩) (fun r_5 h => ?_)
  refine lv_dup2_11 hx hb dX0_partPair_28 rfl rfl ?_
  refine va_iald hx hb hK hP 1 0 rfl rfl h.1 dX0_partPair_29 ?_
  have h := h.2
  refine lv_iconst (v := (1 : Int32)) hx hb dX0_partPair_30 (by decide) ?_
  refine lv_iload_n hx hb dX0_partPair_31 rfl (lv_at hl 1 rfl) ?_
  refine gs_i (va_runSN (As := [.int x1]) (rest := [.int (1 : Int32), .int (S_3.2 4 r_5.toNatClampNeg), .int r_5, .ref (a 1)]) ⟨hx, hb, hml, hown, hts⟩ (c_X6_lesserOf l x1 _ h) ⟨va_cnB 1 hts gX0_partPair_X6_lesserOf_n50 rfl rfl rfl (hnw.1 _ (List.mem_of_getElem? (i := 1) rfl)) ni_X6 (by decide +kernel) ⟨Nat.le_of_ble_eq_true rfl, Nat.le_of_ble_eq_true rfl⟩, ns_yX6_lesserOf, trivial⟩ preEq rfl rfl hl.1 rfl (lv_room (Nat.le_of_ble_eq_true rfl)) dX0_partPair_32 ⟨Nat.zero_le _, Nat.zero_le _⟩) (fun r_6 h => ?_)
  refine lv_ishl hx hb dX0_partPair_35 ?_
  refine lv_iconst (v := (-1 : Int32)) hx hb dX0_partPair_36 (by decide) ?_
  refine lv_ixor hx hb dX0_partPair_37 ?_
  refine lv_iand hx hb dX0_partPair_38 ?_
  refine va_iast hx hb hK hP hD hS 1 0 rfl rfl h.1 dX0_partPair_39 (fun H locs hP hD hS => ?_)
  have h := h.2
  obtain ⟨S_7, e_8⟩ : ∃ z : St, z = (sA S_3 4 r_5.toNatClampNeg ((S_3.2 4 r_5.toNatClampNeg) &&& (((1 : Int32) <<< (r_6 &&& 31)) ^^^ (-1 : Int32)))) := ⟨_, rfl⟩
  have h := h S_7 e_8
  have hP : va_P D vwCl (wEn k a S_7) H := by rw [e_8]; exact hP
  have hD : va_D A (wEn k a S_7) := by rw [e_8]; exact hD
  exact W.vret hx hb hr (fun t ht hW => ⟨⟨S_7, rfl, h, by rw [ht]; exact hP, va_K.moved hW.alike hK, hD⟩, hS.F ht⟩) hS.2.2 dX0_partPair_40
/-! J6_bitCount_0f7a4 -/
def wp_J6_bitCount_0f7a4 (x0 : Int32) (Q : Int32 → Prop) : Prop := ∀ z_1 : Int32, z_1 = (x0 - (((x0.toUInt32 >>> ((1 : Int32).toUInt32 &&& Int32.toUInt32 31)).toInt32) &&& (1431655765 : Int32))) → (∀ z_3 : Int32, z_3 = ((z_1 &&& (858993459 : Int32)) + (((z_1.toUInt32 >>> ((2 : Int32).toUInt32 &&& Int32.toUInt32 31)).toInt32) &&& (858993459 : Int32))) → (∀ z_5 : Int32, z_5 = ((z_3 + ((z_3.toUInt32 >>> ((4 : Int32).toUInt32 &&& Int32.toUInt32 31)).toInt32)) &&& (252645135 : Int32)) → (∀ z_7 : Int32, z_7 = (z_5 + ((z_5.toUInt32 >>> ((8 : Int32).toUInt32 &&& Int32.toUInt32 31)).toInt32)) → (∀ z_9 : Int32, z_9 = (z_7 + ((z_7.toUInt32 >>> ((16 : Int32).toUInt32 &&& Int32.toUInt32 31)).toInt32)) → (Q (z_9 &&& (63 : Int32)))))))
abbrev rmJ6_bitCount_0f7a4 : Room := { frames := 0, cells := 0, slots := 0, locals := 0 }
set_option maxRecDepth 100000 in
set_option maxHeartbeats 4000000 in
theorem c_J6_bitCount_0f7a4 (l : Launch) (x0 : Int32) (Q : Int32 → Prop) (h : wp_J6_bitCount_0f7a4 x0 Q) : Met l yJ6_bitCount_0f7a4 wsJ6_bitCount_0f7a4 rmJ6_bitCount_0f7a4 (fun v _ => v = ([.int x0] : List Value).toArray) (vp_Si Q) 0 0 (fun _ => False) := by
  refine cs_entry (cc := cJ6_bitCount_0f7a4) (maxL := 1) (ret := (some .int)) (Rn := RJ6) (by decide) rfl rfl (Nat.le_of_ble_eq_true rfl) ?_
  intro p e s m below meth c hx hb hr hlocks hml hts hown ls hl
  have hl : lv_has ls 1 [(0, .int x0)] := hl
  have lc_265 := hts (.constant RJ6 265 (1431655765)) (by decide +kernel)
  have lc_266 := hts (.constant RJ6 266 (858993459)) (by decide +kernel)
  have lc_267 := hts (.constant RJ6 267 (252645135)) (by decide +kernel)
  unfold wp_J6_bitCount_0f7a4 at h
  refine lv_iload_n hx hb dJ6_bitCount_0f7a4_0 rfl (lv_at hl 0 rfl) ?_
  refine lv_iload_n hx hb dJ6_bitCount_0f7a4_1 rfl (lv_at hl 0 rfl) ?_
  refine lv_iconst (v := (1 : Int32)) hx hb dJ6_bitCount_0f7a4_2 (by decide) ?_
  refine lv_iushr (v := (x0.toUInt32 >>> ((1 : Int32).toUInt32 &&& Int32.toUInt32 31)).toInt32) hx hb dJ6_bitCount_0f7a4_3 rfl ?_
  refine lv_ldcw (v := (1431655765 : Int32)) hx hb hown lc_265 dJ6_bitCount_0f7a4_4 ?_
  refine lv_iand hx hb dJ6_bitCount_0f7a4_7 ?_
  refine lv_isub hx hb dJ6_bitCount_0f7a4_8 ?_
  refine lv_topi (fun z_1 e_2 => ?_)
  have h := h z_1 e_2
  refine lv_istore_n (lv' := [(0, .int z_1)]) hx hb dJ6_bitCount_0f7a4_9 rfl hl (by decide) rfl (fun ls hl => ?_)
  refine lv_iload_n hx hb dJ6_bitCount_0f7a4_10 rfl (lv_at hl 0 rfl) ?_
  refine lv_ldcw (v := (858993459 : Int32)) hx hb hown lc_266 dJ6_bitCount_0f7a4_11 ?_
  refine lv_iand hx hb dJ6_bitCount_0f7a4_14 ?_
  refine lv_iload_n hx hb dJ6_bitCount_0f7a4_15 rfl (lv_at hl 0 rfl) ?_
  refine lv_iconst (v := (2 : Int32)) hx hb dJ6_bitCount_0f7a4_16 (by decide) ?_
  refine lv_iushr (v := (z_1.toUInt32 >>> ((2 : Int32).toUInt32 &&& Int32.toUInt32 31)).toInt32) hx hb dJ6_bitCount_0f7a4_17 rfl ?_
  refine lv_ldcw (v := (858993459 : Int32)) hx hb hown lc_266 dJ6_bitCount_0f7a4_18 ?_
  refine lv_iand hx hb dJ6_bitCount_0f7a4_21 ?_
  refine lv_iadd hx hb dJ6_bitCount_0f7a4_22 ?_
  refine lv_topi (fun z_3 e_4 => ?_)
  have h := h z_3 e_4
  refine lv_istore_n (lv' := [(0, .int z_3)]) hx hb dJ6_bitCount_0f7a4_23 rfl hl (by decide) rfl (fun ls hl => ?_)
  refine lv_iload_n hx hb dJ6_bitCount_0f7a4_24 rfl (lv_at hl 0 rfl) ?_
  refine lv_iload_n hx hb dJ6_bitCount_0f7a4_25 rfl (lv_at hl 0 rfl) ?_
  refine lv_iconst (v := (4 : Int32)) hx hb dJ6_bitCount_0f7a4_26 (by decide) ?_
  refine lv_iushr (v := (z_3.toUInt32 >>> ((4 : Int32).toUInt32 &&& Int32.toUInt32 31)).toInt32) hx hb dJ6_bitCount_0f7a4_27 rfl ?_
  refine lv_iadd hx hb dJ6_bitCount_0f7a4_28 ?_
  refine lv_ldcw (v := (252645135 : Int32)) hx hb hown lc_267 dJ6_bitCount_0f7a4_29 ?_
  refine lv_iand hx hb dJ6_bitCount_0f7a4_32 ?_
  refine lv_topi (fun z_5 e_6 => ?_)
  have h := h z_5 e_6
  refine lv_istore_n (lv' := [(0, .int z_5)]) hx hb dJ6_bitCount_0f7a4_33 rfl hl (by decide) rfl (fun ls hl => ?_)
  refine lv_iload_n hx hb dJ6_bitCount_0f7a4_34 rfl (lv_at hl 0 rfl) ?_
  refine lv_iload_n hx hb dJ6_bitCount_0f7a4_35 rfl (lv_at hl 0 rfl) ?_
  refine lv_bipush (v := (8 : Int32)) hx hb dJ6_bitCount_0f7a4_36 (by decide) ?_
  refine lv_iushr (v := (z_5.toUInt32 >>> ((8 : Int32).toUInt32 &&& Int32.toUInt32 31)).toInt32) hx hb dJ6_bitCount_0f7a4_38 rfl ?_
  refine lv_iadd hx hb dJ6_bitCount_0f7a4_39 ?_
  refine lv_topi (fun z_7 e_8 => ?_)
  have h := h z_7 e_8
  refine lv_istore_n (lv' := [(0, .int z_7)]) hx hb dJ6_bitCount_0f7a4_40 rfl hl (by decide) rfl (fun ls hl => ?_)
  refine lv_iload_n hx hb dJ6_bitCount_0f7a4_41 rfl (lv_at hl 0 rfl) ?_
  refine lv_iload_n hx hb dJ6_bitCount_0f7a4_42 rfl (lv_at hl 0 rfl) ?_
  refine lv_bipush (v := (16 : Int32)) hx hb dJ6_bitCount_0f7a4_43 (by decide) ?_
  refine lv_iushr (v := (z_7.toUInt32 >>> ((16 : Int32).toUInt32 &&& Int32.toUInt32 31)).toInt32) hx hb dJ6_bitCount_0f7a4_45 rfl ?_
  refine lv_iadd hx hb dJ6_bitCount_0f7a4_46 ?_
  refine lv_topi (fun z_9 e_10 => ?_)
  have h := h z_9 e_10
  refine lv_istore_n (lv' := [(0, .int z_9)]) hx hb dJ6_bitCount_0f7a4_47 rfl hl (by decide) rfl (fun ls hl => ?_)
  refine lv_iload_n hx hb dJ6_bitCount_0f7a4_48 rfl (lv_at hl 0 rfl) ?_
  refine lv_bipush (v := (63 : Int32)) hx hb dJ6_bitCount_0f7a4_49 (by decide) ?_
  refine lv_iand hx hb dJ6_bitCount_0f7a4_51 ?_
  exact W.iret (v := (z_9 &&& (63 : Int32))) hx hb hr (fun t ht hW => ⟨(z_9 &&& (63 : Int32)), rfl, h, ht⟩) (fun q hq => by cases hq) dJ6_bitCount_0f7a4_52
/-! X0_canCome -/
def wp_X0_canCome (S0 : St) (x1 : Int32) (x2 : Int32) (Q : Int32 → St → Prop) : Prop := vp_in x1 8 ∧ (wp_X6_hasBit (S0.2 6 x1.toNatClampNeg) x2 (fun r_1 => ((r_1 = 0) → (vp_in x1 8 ∧ (vp_in x2 8 ∧ (∀ z_3 : Int32, z_3 = (((S0.2 4 x1.toNatClampNeg) &&& (S0.2 4 x2.toNatClampNeg)) &&& (S0.1 2)) → (((S0.1 1) = (1 : Int32) → (wp_J6_bitCount_0f7a4 z_3 (fun r_6 => ((r_6 < (2 : Int32)) → (Q (0 : Int32) S0)) ∧ ((¬ r_6 < (2 : Int32)) → (Q (1 : Int32) S0))))) ∧ (¬ (S0.1 1) = (1 : Int32) → (((S0.1 1) = (2 : Int32) → ((((z_3 &&& (((1 : Int32) <<< ((if x2 < x1 then x2 else x1) &&& 31)) - (1 : Int32))) = 0) → (Q (0 : Int32) S0)) ∧ ((¬ (z_3 &&& (((1 : Int32) <<< ((if x2 < x1 then x2 else x1) &&& 31)) - (1 : Int32))) = 0) → (Q (1 : Int32) S0)))) ∧ (¬ (S0.1 1) = (2 : Int32) → (((z_3 = 0) → (Q (0 : Int32) S0)) ∧ ((¬ z_3 = 0) → (Q (1 : Int32) S0))))))))))) ∧ ((¬ r_1 = 0) → (Q (1 : Int32) S0))))
abbrev rmX0_canCome : Room := { frames := 1, cells := 0, slots := 0, locals := 21 }
set_option maxRecDepth 100000 in
set_option maxHeartbeats 4000000 in
theorem c_X0_canCome (l : Launch) (D : va_G) (k : Nat → ClassId) (a : Nat → Nat) (S0 : St) (sz : Nat) (x1 : Int32) (x2 : Int32) (Q : Int32 → St → Prop) (h : wp_X0_canCome S0 x1 x2 Q) : Met l yX0_canCome wsX0_canCome rmX0_canCome (cPc D k (wEn k a S0) [.ref (a 0), .int x1, .int x2] sz) (va_Qi (fun (r : Int32) (u : St) => Q r u) (cB D k (va_A (wEn k a S0) sz) (fun u : St => wEn k a u)) (va_A (wEn k a S0) sz)) 0 0 (va_A (wEn k a S0) sz) := by
  refine ct_entry (cc := cX0_canCome) (maxL := 4) (ret := (some .boolean)) (Rn := RX0) (Qc := fun A => (va_Qi (fun (r : Int32) (u : St) => Q r u) (cB D k A (fun u : St => wEn k a u)) A)) (by decide) rfl rfl (Nat.le_of_ble_eq_true rfl) ?_
  intro p e s m below meth c hx hb hr hlocks hml hts hown hnw hK A hA H locs hP hD hS ls hl
  have hl : lv_has ls 4 [(0, .ref (a 0)), (1, .int x1), (2, .int x2)] := hl
  have lm_72 := hts (.methodLink RX0 72 Lib.Math.min.name) (by decide +kernel)
  have ln_15 := hts (.fieldLink RX0 15 "WithTheSameOne$Ending" "law" "I") (by decide +kernel)
  have ln_18 := hts (.fieldLink RX0 18 "WithTheSameOne$Ending" "helpers" "I") (by decide +kernel)
  have ln_24 := hts (.fieldLink RX0 24 "WithTheSameOne$Ending" "partners" "[I") (by decide +kernel)
  have ln_31 := hts (.fieldLink RX0 31 "WithTheSameOne$Ending" "cousins" "[I") (by decide +kernel)
  have mc_min := hts (.code Lib.Math.min.name Lib.Math.min.code 2 (some .int)) (by decide +kernel)
  have mi_min := hts (.initialized "java/lang/Math") (by decide +kernel)
  have ms_min := hts (.static Lib.Math.min.name) (by decide +kernel)
  have ni_X6 := hts (.initialized RX6) (by decide +kernel)
  have ns_yX6_hasBit := hts (.static yX6_hasBit) (by decide +kernel)
  have in_En : ∀ w ∈ wsX00, w ∈ wsX0_canCome := fun _ h => List.mem_cons_of_mem _ (List.mem_append_right _ h)
  unfold wp_X0_canCome at h
  refine lv_aload_n hx hb dX0_canCome_0 rfl (lv_at hl 0 rfl) ?_
  refine va_get (D := D) (ci := 0) (v := .ref (a 3)) (C := RX0) (T := TX0) (N := 7) hx hb hts in_En hown hK hP 0 rfl rfl 6 (by decide) ln_31 (fun _ h9 => h9) rfl dX0_canCome_1 ?_
  refine lv_iload_n hx hb dX0_canCome_4 rfl (lv_at hl 1 rfl) ?_
  refine va_iald hx hb hK hP 3 0 rfl rfl h.1 dX0_canCome_5 ?_
  have h := h.2
  refine lv_iload_n hx hb dX0_canCome_6 rfl (lv_at hl 2 rfl) ?_
  refine gs_i (va_runSN (As := [.int (S0.2 6 x1.toNatClampNeg), .int x2]) (rest := []) ⟨hx, hb, hml, hown, hts⟩ (c_X6_hasBit l (S0.2 6 x1.toNatClampNeg) x2 _ h) ⟨va_cnB 2 hts gX0_canCome_X6_hasBit_n47 rfl rfl rfl (hnw.1 _ (List.mem_of_getElem? (i := 0) rfl)) ni_X6 (by decide +kernel) ⟨Nat.le_of_ble_eq_true rfl, Nat.le_of_ble_eq_true rfl⟩, ns_yX6_hasBit, trivial⟩ preEq rfl rfl hl.1 rfl (lv_room (Nat.le_of_ble_eq_true rfl)) dX0_canCome_7 ⟨Nat.zero_le _, Nat.zero_le _⟩) (fun r_1 h => ?_)
  refine lv_if_eq (tgt := 15) hx hb dX0_canCome_10 (by decide) (fun c_2 => ?_) (fun c_2 => ?_)
  · have h := h.1 c_2
    refine lv_aload_n hx hb dX0_canCome_15 rfl (lv_at hl 0 rfl) ?_
    refine va_get (D := D) (ci := 0) (v := .ref (a 1)) (C := RX0) (T := TX0) (N := 7) hx hb hts in_En hown hK hP 0 rfl rfl 4 (by decide) ln_24 (fun _ h9 => h9) rfl dX0_canCome_16 ?_
    refine lv_iload_n hx hb dX0_canCome_19 rfl (lv_at hl 1 rfl) ?_
    refine va_iald hx hb hK hP 1 0 rfl rfl h.1 dX0_canCome_20 ?_
    have h := h.2
    refine lv_aload_n hx hb dX0_canCome_21 rfl (lv_at hl 0 rfl) ?_
    refine va_get (D := D) (ci := 0) (v := .ref (a 1)) (C := RX0) (T := TX0) (N := 7) hx hb hts in_En hown hK hP 0 rfl rfl 4 (by decide) ln_24 (fun _ h9 => h9) rfl dX0_canCome_22 ?_
    refine lv_iload_n hx hb dX0_canCome_25 rfl (lv_at hl 2 rfl) ?_
    refine va_iald hx hb hK hP 1 0 rfl rfl h.1 dX0_canCome_26 ?_
    have h := h.2
    refine lv_iand hx hb dX0_canCome_27 ?_
    refine lv_aload_n hx hb dX0_canCome_28 rfl (lv_at hl 0 rfl) ?_
    refine va_get (D := D) (ci := 0) (v := .int (S0.1 2)) (C := RX0) (T := TX0) (N := 7) hx hb hts in_En hown hK hP 0 rfl rfl 2 (by decide) ln_18 (fun _ h9 => h9) rfl dX0_canCome_29 ?_
    refine lv_iand hx hb dX0_canCome_32 ?_
    refine lv_topi (fun z_3 e_4 => ?_)
    have h := h z_3 e_4
    refine lv_istore_n (lv' := [(3, .int z_3), (0, .ref (a 0)), (1, .int x1), (2, .int x2)]) hx hb dX0_canCome_33 rfl hl (by decide) rfl (fun ls hl => ?_)
    refine lv_aload_n hx hb dX0_canCome_34 rfl (lv_at hl 1 rfl) ?_
    refine va_get (D := D) (ci := 0) (v := .int (S0.1 1)) (C := RX0) (T := TX0) (N := 7) hx hb hts in_En hown hK hP 0 rfl rfl 1 (by decide) ln_15 (fun _ h9 => h9) rfl dX0_canCome_35 ?_
    by_cases c_5 : (S0.1 1) = (1 : Int32)
    · have h := h.1 c_5
      refine lv_lookup (off := 26) (tgt := 64) hx hb dX0_canCome_38 (by decide) (by rw [c_5]; rfl) (by decide) ?_
      refine lv_iload_n hx hb dX0_canCome_64 rfl (lv_at hl 0 rfl) ?_
      refine gs_i (va_runS (As := [.int z_3]) (rest := []) ⟨hx, hb, hml, hown, hts⟩ (c_J6_bitCount_0f7a4 l z_3 _ h) (va_cwS 1 hts gX0_canCome_J6_bitCount_0f7a4 rfl rfl rfl (by decide +kernel) ⟨Nat.le_of_ble_eq_true rfl, Nat.le_of_ble_eq_true rfl⟩) preEq rfl rfl hl.1 rfl (lv_room (Nat.le_of_ble_eq_true rfl)) dX0_canCome_65 ⟨Nat.zero_le _, Nat.zero_le _⟩) (fun r_6 h => ?_)
      refine lv_iconst (v := (2 : Int32)) hx hb dX0_canCome_68 (by decide) ?_
      refine lv_icmp_lt (tgt := 76) hx hb dX0_canCome_69 (by decide) (fun c_7 => ?_) (fun c_7 => ?_)
      · have h := h.1 c_7
        refine lv_iconst (v := (0 : Int32)) hx hb dX0_canCome_76 (by decide) ?_
        exact W.zret (v := (0 : Int32)) hx hb hr rfl (fun t ht hW => ⟨⟨(0 : Int32), S0, rfl, h, by rw [ht]; exact hP, va_K.moved hW.alike hK, hD⟩, hS.F ht⟩) hS.2.2 dX0_canCome_77
      · have h := h.2 c_7
        refine lv_iconst (v := (1 : Int32)) hx hb dX0_canCome_72 (by decide) ?_
        refine lv_goto (tgt := 77) hx hb dX0_canCome_73 (by decide) ?_
        exact W.zret (v := (1 : Int32)) hx hb hr rfl (fun t ht hW => ⟨⟨(1 : Int32), S0, rfl, h, by rw [ht]; exact hP, va_K.moved hW.alike hK, hD⟩, hS.F ht⟩) hS.2.2 dX0_canCome_77
    · have h := h.2 c_5
      by_cases c_8 : (S0.1 1) = (2 : Int32)
      · have h := h.1 c_8
        refine lv_lookup (off := 40) (tgt := 78) hx hb dX0_canCome_38 (by decide) (by rw [c_8]; rfl) (by decide) ?_
        refine lv_iload_n hx hb dX0_canCome_78 rfl (lv_at hl 0 rfl) ?_
        refine lv_iconst (v := (1 : Int32)) hx hb dX0_canCome_79 (by decide) ?_
        refine lv_iload_n hx hb dX0_canCome_80 rfl (lv_at hl 2 rfl) ?_
        refine lv_iload_n hx hb dX0_canCome_81 rfl (lv_at hl 3 rfl) ?_
        refine va_mmin hx hb (hml.trans hl.1.symm) hown lm_72 ms_min mi_min mc_min (Nat.le_of_ble_eq_true rfl) (Nat.le_of_ble_eq_true rfl) (Nat.zero_le _) (Nat.zero_le _) dX0_canCome_82 ?_
        refine lv_ishl hx hb dX0_canCome_85 ?_
        refine lv_iconst (v := (1 : Int32)) hx hb dX0_canCome_86 (by decide) ?_
        refine lv_isub hx hb dX0_canCome_87 ?_
        refine lv_iand hx hb dX0_canCome_88 ?_
        refine lv_if_eq (tgt := 96) hx hb dX0_canCome_89 (by decide) (fun c_9 => ?_) (fun c_9 => ?_)
        · have h := h.1 c_9
          refine lv_iconst (v := (0 : Int32)) hx hb dX0_canCome_96 (by decide) ?_
          exact W.zret (v := (0 : Int32)) hx hb hr rfl (fun t ht hW => ⟨⟨(0 : Int32), S0, rfl, h, by rw [ht]; exact hP, va_K.moved hW.alike hK, hD⟩, hS.F ht⟩) hS.2.2 dX0_canCome_97
        · have h := h.2 c_9
          refine lv_iconst (v := (1 : Int32)) hx hb dX0_canCome_92 (by decide) ?_
          refine lv_goto (tgt := 97) hx hb dX0_canCome_93 (by decide) ?_
          exact W.zret (v := (1 : Int32)) hx hb hr rfl (fun t ht hW => ⟨⟨(1 : Int32), S0, rfl, h, by rw [ht]; exact hP, va_K.moved hW.alike hK, hD⟩, hS.F ht⟩) hS.2.2 dX0_canCome_97
      · have h := h.2 c_8
        refine lv_lookup (off := 60) (tgt := 98) hx hb dX0_canCome_38 (by decide) (by show Op.lookupswitch.offset [(1, 26), (2, 40)] 60 (S0.1 1).toInt = 60; rw [lv_osw c_5 (k := (1 : Int32)) (by decide), lv_osw c_8 (k := (2 : Int32)) (by decide)]; rfl) (by decide) ?_
        refine lv_iload_n hx hb dX0_canCome_98 rfl (lv_at hl 0 rfl) ?_
        refine lv_if_eq (tgt := 106) hx hb dX0_canCome_99 (by decide) (fun c_10 => ?_) (fun c_10 => ?_)
        · have h := h.1 c_10
          refine lv_iconst (v := (0 : Int32)) hx hb dX0_canCome_106 (by decide) ?_
          exact W.zret (v := (0 : Int32)) hx hb hr rfl (fun t ht hW => ⟨⟨(0 : Int32), S0, rfl, h, by rw [ht]; exact hP, va_K.moved hW.alike hK, hD⟩, hS.F ht⟩) hS.2.2 dX0_canCome_107
        · have h := h.2 c_10
          refine lv_iconst (v := (1 : Int32)) hx hb dX0_canCome_102 (by decide) ?_
          refine lv_goto (tgt := 107) hx hb dX0_canCome_103 (by decide) ?_
          exact W.zret (v := (1 : Int32)) hx hb hr rfl (fun t ht hW => ⟨⟨(1 : Int32), S0, rfl, h, by rw [ht]; exact hP, va_K.moved hW.alike hK, hD⟩, hS.F ht⟩) hS.2.2 dX0_canCome_107
  · have h := h.2 c_2
    refine lv_iconst (v := (1 : Int32)) hx hb dX0_canCome_13 (by decide) ?_
    exact W.zret (v := (1 : Int32)) hx hb hr rfl (fun t ht hW => ⟨⟨(1 : Int32), S0, rfl, h, by rw [ht]; exact hP, va_K.moved hW.alike hK, hD⟩, hS.F ht⟩) hS.2.2 dX0_canCome_14
/-! X0_playRound -/
def wp_X0_playRound_110 (Q : Int32 → St → Prop) : Nat → St → Int32 → Int32 → Prop
  | 0, _, _, _ => False
  | n + 1, S0, x1, x2 => (((S0.1 0) ≤ x2) → (((x1 = 0) → (bz x1 ∧ Q x1 S0)) ∧ ((¬ x1 = 0) → (∀ S_5, S_5 = (sI S0 3 ((S0.1 3) + (1 : Int32))) → (bz x1 ∧ Q x1 S_5))))) ∧ ((¬ (S0.1 0) ≤ x2) → (vp_in x2 8 ∧ (vp_in x2 8 ∧ (∀ S_7, S_7 = (sA S0 4 x2.toNatClampNeg (S0.2 5 x2.toNatClampNeg)) → (wp_X0_playRound_110 Q n S_7 x1 (x2 + 1))))))
def wp_X0_playRound_44 (K32 : St → Int32 → Int32 → Prop) (Q : Int32 → St → Prop) : Nat → St → Int32 → Int32 → Int32 → Prop
  | 0, _, _, _, _ => False
  | n + 1, S0, x1, x2, x3 => (((S0.1 0) ≤ x3) → (K32 S0 x1 (x2 + 1))) ∧ ((¬ (S0.1 0) ≤ x3) → (wp_X0_haveDanced S0 x2 x3 (fun r_11 u_12 => ((¬ r_11 = 0) → (wp_X0_playRound_44 K32 Q n u_12 x1 x2 (x3 + 1))) ∧ ((r_11 = 0) → (wp_X0_canCome u_12 x2 x3 (fun r_14 u_15 => ((r_14 = 0) → (wp_X0_playRound_44 K32 Q n u_15 x1 x2 (x3 + 1))) ∧ ((¬ r_14 = 0) → (vp_in x2 8 ∧ (vp_in x2 8 ∧ (∀ S_17, S_17 = (sA u_15 5 x2.toNatClampNeg ((u_15.2 5 x2.toNatClampNeg) ||| ((1 : Int32) <<< (x3 &&& 31)))) → (vp_in x3 8 ∧ (vp_in x3 8 ∧ (∀ S_19, S_19 = (sA S_17 5 x3.toNatClampNeg ((S_17.2 5 x3.toNatClampNeg) ||| ((1 : Int32) <<< (x2 &&& 31)))) → (wp_X0_playRound_44 K32 Q n S_19 (1 : Int32) x2 (x3 + 1)))))))))))))))
def wp_X0_playRound_32 (Q : Int32 → St → Prop) : Nat → St → Int32 → Int32 → Prop
  | 0, _, _, _ => False
  | n + 1, S0, x1, x2 => (((S0.1 0) ≤ x2) → (∃ i, wp_X0_playRound_110 Q i S0 x1 (0 : Int32))) ∧ ((¬ (S0.1 0) ≤ x2) → (∃ i, wp_X0_playRound_44 (fun s0 v0 v1 => wp_X0_playRound_32 Q n s0 v0 v1) Q i S0 x1 x2 (x2 + (1 : Int32))))
def wp_X0_playRound_2 (Q : Int32 → St → Prop) : Nat → St → Int32 → Prop
  | 0, _, _ => False
  | n + 1, S0, x1 => (((S0.1 0) ≤ x1) → (∃ i, wp_X0_playRound_32 Q i S0 (0 : Int32) (0 : Int32))) ∧ ((¬ (S0.1 0) ≤ x1) → (vp_in x1 8 ∧ (vp_in x1 8 ∧ (∀ S_23, S_23 = (sA S0 5 x1.toNatClampNeg (S0.2 4 x1.toNatClampNeg)) → (wp_X0_playRound_2 Q n S_23 (x1 + 1))))))
def wp_X0_playRound (S0 : St) (Q : Int32 → St → Prop) : Prop := ∃ i, wp_X0_playRound_2 Q i S0 (0 : Int32)
abbrev rmX0_playRound : Room := { frames := 2, cells := 0, slots := 0, locals := 44 }
set_option maxRecDepth 100000 in
set_option maxHeartbeats 4000000 in
theorem c_X0_playRound (l : Launch) (D : va_G) (k : Nat → ClassId) (a : Nat → Nat) (S0 : St) (sz : Nat) (Q : Int32 → St → Prop) (h : wp_X0_playRound S0 Q) : Met l yX0_playRound wsX0_playRound rmX0_playRound (cPc D k (wEn k a S0) [.ref (a 0)] sz) (va_Qi (fun (r : Int32) (u : St) => Q r u) (cB D k (va_A (wEn k a S0) sz) (fun u : St => wEn k a u)) (va_A (wEn k a S0) sz)) 0 0 (va_A (wEn k a S0) sz) := by
  refine ct_entry (cc := cX0_playRound) (maxL := 4) (ret := (some .boolean)) (Rn := RX0) (Qc := fun A => (va_Qi (fun (r : Int32) (u : St) => Q r u) (cB D k A (fun u : St => wEn k a u)) A)) (by decide) rfl rfl (Nat.le_of_ble_eq_true rfl) ?_
  intro p e s m below meth c hx hb hr hlocks hml hts hown hnw hK A hA H locs hP hD hS ls hl
  have hl : lv_has ls 4 [(0, .ref (a 0))] := hl
  have ln_21 := hts (.fieldLink RX0 21 "WithTheSameOne$Ending" "rounds" "I") (by decide +kernel)
  have ln_24 := hts (.fieldLink RX0 24 "WithTheSameOne$Ending" "partners" "[I") (by decide +kernel)
  have ln_28 := hts (.fieldLink RX0 28 "WithTheSameOne$Ending" "next" "[I") (by decide +kernel)
  have ln_9 := hts (.fieldLink RX0 9 "WithTheSameOne$Ending" "size" "I") (by decide +kernel)
  have in_En : ∀ w ∈ wsX00, w ∈ wsX0_playRound := fun _ h => List.mem_cons_of_mem _ (List.mem_append_right _ h)
  have L_110 : ∀ (n : Nat), ∀ (S0 : St) (x1 : Int32) (x2 : Int32), ∀ (H : Heap) (locs : List Loc) (ls : Array Slot), va_P D vwCl (wEn k a S0) H → va_D A (wEn k a S0) → va_S A s.heap H locs → lv_has ls 4 [(0, .ref (a 0)), (1, .int x1), (2, .int x2)] → wp_X0_playRound_110 Q n S0 x1 x2 → W p l e rmX0_playRound s m ([.ref (a 0)] : List Value).toArray below meth c H locs 0 0 (MQ below (va_Qi (fun (r : Int32) (u : St) => Q r u) (cB D k A (fun u : St => wEn k a u)) A) ([.ref (a 0)] : List Value).toArray s 0 0 A) (F0 m 110 ls []) := by
    intro n
    induction n with
    | zero => intro S0 x1 x2 H locs ls hP hD hS hl h; exact absurd h (by unfold wp_X0_playRound_110; exact id)
    | succ n ih =>
      intro S0 x1 x2 H locs ls hP hD hS hl h
      unfold wp_X0_playRound_110 at h
      refine lv_iload_n hx hb dX0_playRound_110 rfl (lv_at hl 2 rfl) ?_
      refine lv_aload_n hx hb dX0_playRound_111 rfl (lv_at hl 0 rfl) ?_
      refine va_get (D := D) (ci := 0) (v := .int (S0.1 0)) (C := RX0) (T := TX0) (N := 7) hx hb hts in_En hown hK hP 0 rfl rfl 0 (by decide) ln_9 (fun _ h9 => h9) rfl dX0_playRound_112 ?_
      refine lv_icmp_ge (tgt := 136) hx hb dX0_playRound_115 (by decide) (fun c_3 => ?_) (fun c_3 => ?_)
      · have h := h.1 c_3
        refine lv_iload_n hx hb dX0_playRound_136 rfl (lv_at hl 1 rfl) ?_
        refine lv_if_eq (tgt := 150) hx hb dX0_playRound_137 (by decide) (fun c_4 => ?_) (fun c_4 => ?_)
        · have h := h.1 c_4
          refine lv_iload_n hx hb dX0_playRound_150 rfl (lv_at hl 1 rfl) ?_
          exact W.zret (v := x1) hx hb hr (bz_narrow h.1) (fun t ht hW => ⟨⟨x1, S0, rfl, h.2, by rw [ht]; exact hP, va_K.moved hW.alike hK, hD⟩, hS.F ht⟩) hS.2.2 dX0_playRound_151
        · have h := h.2 c_4
          refine lv_aload_n hx hb dX0_playRound_140 rfl (lv_at hl 0 rfl) ?_
          refine lv_dup hx hb dX0_playRound_141 rfl ?_
          refine va_get (D := D) (ci := 0) (v := .int (S0.1 3)) (C := RX0) (T := TX0) (N := 7) hx hb hts in_En hown hK hP 0 rfl rfl 3 (by decide) ln_21 (fun _ h9 => h9) rfl dX0_playRound_142 ?_
          refine lv_iconst (v := (1 : Int32)) hx hb dX0_playRound_145 (by decide) ?_
          refine lv_iadd hx hb dX0_playRound_146 ?_
          refine va_put (D := D) (ci := 0) (v := .int ((S0.1 3) + (1 : Int32))) (ty := .int) (C := RX0) (T := TX0) (N := 7) hx hb hts in_En tyX0 tyX0_ok nmX0 hown hK hP hD hS 0 rfl rfl 3 (by decide) ln_21 (fun _ h9 => h9) rfl (by decide +kernel) rfl rfl (Nat.le_of_ble_eq_true rfl) dX0_playRound_147 (fun H locs hP hD hS => ?_)
          obtain ⟨S_5, e_6⟩ : ∃ z : St, z = (sI S0 3 ((S0.1 3) + (1 : Int32))) := ⟨_, rfl⟩
          have h := h S_5 e_6
          have hP : va_P D vwCl (wEn k a S_5) H := by rw [e_6]; exact hP
          have hD : va_D A (wEn k a S_5) := by rw [e_6]; exact hD
          refine lv_iload_n hx hb dX0_playRound_150 rfl (lv_at hl 1 rfl) ?_
          exact W.zret (v := x1) hx hb hr (bz_narrow h.1) (fun t ht hW => ⟨⟨x1, S_5, rfl, h.2, by rw [ht]; exact hP, va_K.moved hW.alike hK, hD⟩, hS.F ht⟩) hS.2.2 dX0_playRound_151
      · have h := h.2 c_3
        refine lv_aload_n hx hb dX0_playRound_118 rfl (lv_at hl 0 rfl) ?_
        refine va_get (D := D) (ci := 0) (v := .ref (a 1)) (C := RX0) (T := TX0) (N := 7) hx hb hts in_En hown hK hP 0 rfl rfl 4 (by decide) ln_24 (fun _ h9 => h9) rfl dX0_playRound_119 ?_
        refine lv_iload_n hx hb dX0_playRound_122 rfl (lv_at hl 2 rfl) ?_
        refine lv_aload_n hx hb dX0_playRound_123 rfl (lv_at hl 0 rfl) ?_
        refine va_get (D := D) (ci := 0) (v := .ref (a 2)) (C := RX0) (T := TX0) (N := 7) hx hb hts in_En hown hK hP 0 rfl rfl 5 (by decide) ln_28 (fun _ h9 => h9) rfl dX0_playRound_124 ?_
        refine lv_iload_n hx hb dX0_playRound_127 rfl (lv_at hl 2 rfl) ?_
        refine va_iald hx hb hK hP 2 0 rfl rfl h.1 dX0_playRound_128 ?_
        have h := h.2
        refine va_iast hx hb hK hP hD hS 1 0 rfl rfl h.1 dX0_playRound_129 (fun H locs hP hD hS => ?_)
        have h := h.2
        obtain ⟨S_7, e_8⟩ : ∃ z : St, z = (sA S0 4 x2.toNatClampNeg (S0.2 5 x2.toNatClampNeg)) := ⟨_, rfl⟩
        have h := h S_7 e_8
        have hP : va_P D vwCl (wEn k a S_7) H := by rw [e_8]; exact hP
        have hD : va_D A (wEn k a S_7) := by rw [e_8]; exact hD
        refine lv_iinc (v := (x2 + 1)) (lv' := [(2, .int (x2 + 1)), (0, .ref (a 0)), (1, .int x1)]) hx hb dX0_playRound_130 hl (k := 2) rfl rfl (by decide) rfl (fun ls hl => ?_)
        refine lv_goto (tgt := 110) hx hb dX0_playRound_133 (by decide) ?_
        exact ih S_7 x1 (x2 + 1) H locs ls hP hD hS (lv_sub hl [1, 2, 0] rfl) h
  have L_44 : ∀ (K32 : St → Int32 → Int32 → Prop), (∀ (S0 : St) (x1 : Int32) (x2 : Int32), ∀ (H : Heap) (locs : List Loc) (ls : Array Slot), va_P D vwCl (wEn k a S0) H → va_D A (wEn k a S0) → va_S A s.heap H locs → lv_has ls 4 [(0, .ref (a 0)), (1, .int x1), (2, .int x2)] → K32 S0 x1 x2 → W p l e rmX0_playRound s m ([.ref (a 0)] : List Value).toArray below meth c H locs 0 0 (MQ below (va_Qi (fun (r : Int32) (u : St) => Q r u) (cB D k A (fun u : St => wEn k a u)) A) ([.ref (a 0)] : List Value).toArray s 0 0 A) (F0 m 32 ls [])) → ∀ (n : Nat), ∀ (S0 : St) (x1 : Int32) (x2 : Int32) (x3 : Int32), ∀ (H : Heap) (locs : List Loc) (ls : Array Slot), va_P D vwCl (wEn k a S0) H → va_D A (wEn k a S0) → va_S A s.heap H locs → lv_has ls 4 [(0, .ref (a 0)), (1, .int x1), (2, .int x2), (3, .int x3)] → wp_X0_playRound_44 K32 Q n S0 x1 x2 x3 → W p l e rmX0_playRound s m ([.ref (a 0)] : List Value).toArray below meth c H locs 0 0 (MQ below (va_Qi (fun (r : Int32) (u : St) => Q r u) (cB D k A (fun u : St => wEn k a u)) A) ([.ref (a 0)] : List Value).toArray s 0 0 A) (F0 m 44 ls []) := by
    intro K32 hK32
    intro n
    induction n with
    | zero => intro S0 x1 x2 x3 H locs ls hP hD hS hl h; exact absurd h (by unfold wp_X0_playRound_44; exact id)
    | succ n ih =>
      intro S0 x1 x2 x3 H locs ls hP hD hS hl h
      unfold wp_X0_playRound_44 at h
      refine lv_iload_n hx hb dX0_playRound_44 rfl (lv_at hl 3 rfl) ?_
      refine lv_aload_n hx hb dX0_playRound_45 rfl (lv_at hl 0 rfl) ?_
      refine va_get (D := D) (ci := 0) (v := .int (S0.1 0)) (C := RX0) (T := TX0) (N := 7) hx hb hts in_En hown hK hP 0 rfl rfl 0 (by decide) ln_9 (fun _ h9 => h9) rfl dX0_playRound_46 ?_
      refine lv_icmp_ge (tgt := 102) hx hb dX0_playRound_49 (by decide) (fun c_10 => ?_) (fun c_10 => ?_)
      · have h := h.1 c_10
        refine lv_iinc (v := (x2 + 1)) (lv' := [(2, .int (x2 + 1)), (0, .ref (a 0)), (1, .int x1), (3, .int x3)]) hx hb dX0_playRound_102 hl (k := 2) rfl rfl (by decide) rfl (fun ls hl => ?_)
        refine lv_goto (tgt := 32) hx hb dX0_playRound_105 (by decide) ?_
        exact hK32 S0 x1 (x2 + 1) H locs ls hP hD hS (lv_sub hl [1, 2, 0] rfl) h
      · have h := h.2 c_10
        refine lv_aload_n hx hb dX0_playRound_52 rfl (lv_at hl 0 rfl) ?_
        refine lv_iload_n hx hb dX0_playRound_53 rfl (lv_at hl 2 rfl) ?_
        refine lv_iload_n hx hb dX0_playRound_54 rfl (lv_at hl 3 rfl) ?_
        have hFc := fr_self hD hS hA
        refine gv_i (va_runV (As := [.int x2, .int x3]) (rest := []) ⟨hx, hb, hml, hown, hts⟩ (c_X0_haveDanced l D k a S0 H.size x2 x3 _ h) (cwV 2 hts gX0_playRound_X0_haveDanced rfl rfl rfl (by decide +kernel) ⟨Nat.le_of_ble_eq_true rfl, Nat.le_of_ble_eq_true rfl⟩) (gv_preV hK hnw hP hD (ci := 0) rfl 0 rfl) rfl rfl hl.1 rfl (lv_room (Nat.le_of_ble_eq_true rfl)) dX0_playRound_55 ⟨Nat.zero_le _, Nat.zero_le _⟩) hS hFc (fun r_11 u_12 H locs h hP1 hD1 hk1 hS => ?_)
        have hP := hP1
        have hD := hD1.weaken (fun _ _ _ z => hFc _ z)
        refine lv_if_ne (tgt := 96) hx hb dX0_playRound_58 (by decide) (fun c_13 => ?_) (fun c_13 => ?_)
        · have h := h.1 c_13
          refine lv_iinc (v := (x3 + 1)) (lv' := [(3, .int (x3 + 1)), (0, .ref (a 0)), (1, .int x1), (2, .int x2)]) hx hb dX0_playRound_96 hl (k := 3) rfl rfl (by decide) rfl (fun ls hl => ?_)
          refine lv_goto (tgt := 44) hx hb dX0_playRound_99 (by decide) ?_
          exact ih u_12 x1 x2 (x3 + 1) H locs ls hP hD hS (lv_sub hl [1, 2, 3, 0] rfl) h
        · have h := h.2 c_13
          refine lv_aload_n hx hb dX0_playRound_61 rfl (lv_at hl 0 rfl) ?_
          refine lv_iload_n hx hb dX0_playRound_62 rfl (lv_at hl 2 rfl) ?_
          refine lv_iload_n hx hb dX0_playRound_63 rfl (lv_at hl 3 rfl) ?_
          have hFc := fr_self hD hS hA
          refine gv_i (va_runV (As := [.int x2, .int x3]) (rest := []) ⟨hx, hb, hml, hown, hts⟩ (c_X0_canCome l D k a u_12 H.size x2 x3 _ h) (cwV 2 hts gX0_playRound_X0_canCome rfl rfl rfl (by decide +kernel) ⟨Nat.le_of_ble_eq_true rfl, Nat.le_of_ble_eq_true rfl⟩) (gv_preV hK hnw hP hD (ci := 0) rfl 0 rfl) rfl rfl hl.1 rfl (lv_room (Nat.le_of_ble_eq_true rfl)) dX0_playRound_64 ⟨Nat.zero_le _, Nat.zero_le _⟩) hS hFc (fun r_14 u_15 H locs h hP1 hD1 hk1 hS => ?_)
          have hP := hP1
          have hD := hD1.weaken (fun _ _ _ z => hFc _ z)
          refine lv_if_eq (tgt := 96) hx hb dX0_playRound_67 (by decide) (fun c_16 => ?_) (fun c_16 => ?_)
          · have h := h.1 c_16
            refine lv_iinc (v := (x3 + 1)) (lv' := [(3, .int (x3 + 1)), (0, .ref (a 0)), (1, .int x1), (2, .int x2)]) hx hb dX0_playRound_96 hl (k := 3) rfl rfl (by decide) rfl (fun ls hl => ?_)
            refine lv_goto (tgt := 44) hx hb dX0_playRound_99 (by decide) ?_
            exact ih u_15 x1 x2 (x3 + 1) H locs ls hP hD hS (lv_sub hl [1, 2, 3, 0] rfl) h
          · have h := h.2 c_16
            refine lv_aload_n hx hb dX0_playRound_70 rfl (lv_at hl 0 rfl) ?_
            refine va_get (D := D) (ci := 0) (v := .ref (a 2)) (C := RX0) (T := TX0) (N := 7) hx hb hts in_En hown hK hP 0 rfl rfl 5 (by decide) ln_28 (fun _ h9 => h9) rfl dX0_playRound_71 ?_
            refine lv_iload_n hx hb dX0_playRound_74 rfl (lv_at hl 2 rfl) ?_
            refine lv_dup2_11 hx hb dX0_playRound_75 rfl rfl ?_
            refine va_iald hx hb hK hP 2 0 rfl rfl h.1 dX0_playRound_76 ?_
            have h := h.2
            refine lv_iconst (v := (1 : Int32)) hx hb dX0_playRound_77 (by decide) ?_
            refine lv_iload_n hx hb dX0_playRound_78 rfl (lv_at hl 3 rfl) ?_
            refine lv_ishl hx hb dX0_playRound_79 ?_
            refine lv_ior hx hb dX0_playRound_80 ?_
            refine va_iast hx hb hK hP hD hS 2 0 rfl rfl h.1 dX0_playRound_81 (fun H locs hP hD hS => ?_)
            have h := h.2
            obtain ⟨S_17, e_18⟩ : ∃ z : St, z = (sA u_15 5 x2.toNatClampNeg ((u_15.2 5 x2.toNatClampNeg) ||| ((1 : Int32) <<< (x3 &&& 31)))) := ⟨_, rfl⟩
            have h := h S_17 e_18
            have hP : va_P D vwCl (wEn k a S_17) H := by rw [e_18]; exact hP
            have hD : va_D A (wEn k a S_17) := by rw [e_18]; exact hD
            refine lv_aload_n hx hb dX0_playRound_82 rfl (lv_at hl 0 rfl) ?_
            refine va_get (D := D) (ci := 0) (v := .ref (a 2)) (C := RX0) (T := TX0) (N := 7) hx hb hts in_En hown hK hP 0 rfl rfl 5 (by decide) ln_28 (fun _ h9 => h9) rfl dX0_playRound_83 ?_
            refine lv_iload_n hx hb dX0_playRound_86 rfl (lv_at hl 3 rfl) ?_
            refine lv_dup2_11 hx hb dX0_playRound_87 rfl rfl ?_
            refine va_iald hx hb hK hP 2 0 rfl rfl h.1 dX0_playRound_88 ?_
            have h := h.2
            refine lv_iconst (v := (1 : Int32)) hx hb dX0_playRound_89 (by decide) ?_
            refine lv_iload_n hx hb dX0_playRound_90 rfl (lv_at hl 2 rfl) ?_
            refine lv_ishl hx hb dX0_playRound_91 ?_
            refine lv_ior hx hb dX0_playRound_92 ?_
            refine va_iast hx hb hK hP hD hS 2 0 rfl rfl h.1 dX0_playRound_93 (fun H locs hP hD hS => ?_)
            have h := h.2
            obtain ⟨S_19, e_20⟩ : ∃ z : St, z = (sA S_17 5 x3.toNatClampNeg ((S_17.2 5 x3.toNatClampNeg) ||| ((1 : Int32) <<< (x2 &&& 31)))) := ⟨_, rfl⟩
            have h := h S_19 e_20
            have hP : va_P D vwCl (wEn k a S_19) H := by rw [e_20]; exact hP
            have hD : va_D A (wEn k a S_19) := by rw [e_20]; exact hD
            refine lv_iconst (v := (1 : Int32)) hx hb dX0_playRound_94 (by decide) ?_
            refine lv_istore_n (lv' := [(1, .int (1 : Int32)), (0, .ref (a 0)), (2, .int x2), (3, .int x3)]) hx hb dX0_playRound_95 rfl hl (by decide) rfl (fun ls hl => ?_)
            refine lv_iinc (v := (x3 + 1)) (lv' := [(3, .int (x3 + 1)), (1, .int (1 : Int32)), (0, .ref (a 0)), (2, .int x2)]) hx hb dX0_playRound_96 hl (k := 3) rfl rfl (by decide) rfl (fun ls hl => ?_)
            refine lv_goto (tgt := 44) hx hb dX0_playRound_99 (by decide) ?_
            exact ih S_19 (1 : Int32) x2 (x3 + 1) H locs ls hP hD hS (lv_sub hl [2, 1, 3, 0] rfl) h
  have L_32 : ∀ (n : Nat), ∀ (S0 : St) (x1 : Int32) (x2 : Int32), ∀ (H : Heap) (locs : List Loc) (ls : Array Slot), va_P D vwCl (wEn k a S0) H → va_D A (wEn k a S0) → va_S A s.heap H locs → lv_has ls 4 [(0, .ref (a 0)), (1, .int x1), (2, .int x2)] → wp_X0_playRound_32 Q n S0 x1 x2 → W p l e rmX0_playRound s m ([.ref (a 0)] : List Value).toArray below meth c H locs 0 0 (MQ below (va_Qi (fun (r : Int32) (u : St) => Q r u) (cB D k A (fun u : St => wEn k a u)) A) ([.ref (a 0)] : List Value).toArray s 0 0 A) (F0 m 32 ls []) := by
    intro n
    induction n with
    | zero => intro S0 x1 x2 H locs ls hP hD hS hl h; exact absurd h (by unfold wp_X0_playRound_32; exact id)
    | succ n ih =>
      intro S0 x1 x2 H locs ls hP hD hS hl h
      unfold wp_X0_playRound_32 at h
      refine lv_iload_n hx hb dX0_playRound_32 rfl (lv_at hl 2 rfl) ?_
      refine lv_aload_n hx hb dX0_playRound_33 rfl (lv_at hl 0 rfl) ?_
      refine va_get (D := D) (ci := 0) (v := .int (S0.1 0)) (C := RX0) (T := TX0) (N := 7) hx hb hts in_En hown hK hP 0 rfl rfl 0 (by decide) ln_9 (fun _ h9 => h9) rfl dX0_playRound_34 ?_
      refine lv_icmp_ge (tgt := 108) hx hb dX0_playRound_37 (by decide) (fun c_2 => ?_) (fun c_2 => ?_)
      · have h := h.1 c_2
        refine lv_iconst (v := (0 : Int32)) hx hb dX0_playRound_108 (by decide) ?_
        refine lv_istore_n (lv' := [(2, .int (0 : Int32)), (0, .ref (a 0)), (1, .int x1)]) hx hb dX0_playRound_109 rfl hl (by decide) rfl (fun ls hl => ?_)
        obtain ⟨n_9, h⟩ := h
        exact L_110 n_9 S0 x1 (0 : Int32) H locs ls hP hD hS (lv_sub hl [1, 2, 0] rfl) h
      · have h := h.2 c_2
        refine lv_iload_n hx hb dX0_playRound_40 rfl (lv_at hl 2 rfl) ?_
        refine lv_iconst (v := (1 : Int32)) hx hb dX0_playRound_41 (by decide) ?_
        refine lv_iadd hx hb dX0_playRound_42 ?_
        refine lv_istore_n (lv' := [(3, .int (x2 + (1 : Int32))), (0, .ref (a 0)), (1, .int x1), (2, .int x2)]) hx hb dX0_playRound_43 rfl hl (by decide) rfl (fun ls hl => ?_)
        obtain ⟨n_21, h⟩ := h
        exact L_44 (fun s0 v0 v1 => wp_X0_playRound_32 Q n s0 v0 v1) ih n_21 S0 x1 x2 (x2 + (1 : Int32)) H locs ls hP hD hS (lv_sub hl [1, 2, 3, 0] rfl) h
  have L_2 : ∀ (n : Nat), ∀ (S0 : St) (x1 : Int32), ∀ (H : Heap) (locs : List Loc) (ls : Array Slot), va_P D vwCl (wEn k a S0) H → va_D A (wEn k a S0) → va_S A s.heap H locs → lv_has ls 4 [(0, .ref (a 0)), (1, .int x1)] → wp_X0_playRound_2 Q n S0 x1 → W p l e rmX0_playRound s m ([.ref (a 0)] : List Value).toArray below meth c H locs 0 0 (MQ below (va_Qi (fun (r : Int32) (u : St) => Q r u) (cB D k A (fun u : St => wEn k a u)) A) ([.ref (a 0)] : List Value).toArray s 0 0 A) (F0 m 2 ls []) := by
    intro n
    induction n with
    | zero => intro S0 x1 H locs ls hP hD hS hl h; exact absurd h (by unfold wp_X0_playRound_2; exact id)
    | succ n ih =>
      intro S0 x1 H locs ls hP hD hS hl h
      unfold wp_X0_playRound_2 at h
      refine lv_iload_n hx hb dX0_playRound_2 rfl (lv_at hl 1 rfl) ?_
      refine lv_aload_n hx hb dX0_playRound_3 rfl (lv_at hl 0 rfl) ?_
      refine va_get (D := D) (ci := 0) (v := .int (S0.1 0)) (C := RX0) (T := TX0) (N := 7) hx hb hts in_En hown hK hP 0 rfl rfl 0 (by decide) ln_9 (fun _ h9 => h9) rfl dX0_playRound_4 ?_
      refine lv_icmp_ge (tgt := 28) hx hb dX0_playRound_7 (by decide) (fun c_1 => ?_) (fun c_1 => ?_)
      · have h := h.1 c_1
        refine lv_iconst (v := (0 : Int32)) hx hb dX0_playRound_28 (by decide) ?_
        refine lv_istore_n (lv' := [(1, .int (0 : Int32)), (0, .ref (a 0))]) hx hb dX0_playRound_29 rfl hl (by decide) rfl (fun ls hl => ?_)
        refine lv_iconst (v := (0 : Int32)) hx hb dX0_playRound_30 (by decide) ?_
        refine lv_istore_n (lv' := [(2, .int (0 : Int32)), (1, .int (0 : Int32)), (0, .ref (a 0))]) hx hb dX0_playRound_31 rfl hl (by decide) rfl (fun ls hl => ?_)
        obtain ⟨n_22, h⟩ := h
        exact L_32 n_22 S0 (0 : Int32) (0 : Int32) H locs ls hP hD hS (lv_sub hl [2, 1, 0] rfl) h
      · have h := h.2 c_1
        refine lv_aload_n hx hb dX0_playRound_10 rfl (lv_at hl 0 rfl) ?_
        refine va_get (D := D) (ci := 0) (v := .ref (a 2)) (C := RX0) (T := TX0) (N := 7) hx hb hts in_En hown hK hP 0 rfl rfl 5 (by decide) ln_28 (fun _ h9 => h9) rfl dX0_playRound_11 ?_
        refine lv_iload_n hx hb dX0_playRound_14 rfl (lv_at hl 1 rfl) ?_
        refine lv_aload_n hx hb dX0_playRound_15 rfl (lv_at hl 0 rfl) ?_
        refine va_get (D := D) (ci := 0) (v := .ref (a 1)) (C := RX0) (T := TX0) (N := 7) hx hb hts in_En hown hK hP 0 rfl rfl 4 (by decide) ln_24 (fun _ h9 => h9) rfl dX0_playRound_16 ?_
        refine lv_iload_n hx hb dX0_playRound_19 rfl (lv_at hl 1 rfl) ?_
        refine va_iald hx hb hK hP 1 0 rfl rfl h.1 dX0_playRound_20 ?_
        have h := h.2
        refine va_iast hx hb hK hP hD hS 2 0 rfl rfl h.1 dX0_playRound_21 (fun H locs hP hD hS => ?_)
        have h := h.2
        obtain ⟨S_23, e_24⟩ : ∃ z : St, z = (sA S0 5 x1.toNatClampNeg (S0.2 4 x1.toNatClampNeg)) := ⟨_, rfl⟩
        have h := h S_23 e_24
        have hP : va_P D vwCl (wEn k a S_23) H := by rw [e_24]; exact hP
        have hD : va_D A (wEn k a S_23) := by rw [e_24]; exact hD
        refine lv_iinc (v := (x1 + 1)) (lv' := [(1, .int (x1 + 1)), (0, .ref (a 0))]) hx hb dX0_playRound_22 hl (k := 1) rfl rfl (by decide) rfl (fun ls hl => ?_)
        refine lv_goto (tgt := 2) hx hb dX0_playRound_25 (by decide) ?_
        exact ih S_23 (x1 + 1) H locs ls hP hD hS (lv_sub hl [1, 0] rfl) h
  unfold wp_X0_playRound at h
  refine lv_iconst (v := (0 : Int32)) hx hb dX0_playRound_0 (by decide) ?_
  refine lv_istore_n (lv' := [(1, .int (0 : Int32)), (0, .ref (a 0))]) hx hb dX0_playRound_1 rfl hl (by decide) rfl (fun ls hl => ?_)
  obtain ⟨n_25, h⟩ := h
  exact L_2 n_25 S0 (0 : Int32) H locs ls hP hD hS (lv_sub hl [1, 0] rfl) h
/-! X0_settle -/
def wp_X0_settle_2 (Q : St → Prop) : Nat → St → Int32 → Prop
  | 0, _, _ => False
  | n + 1, S0, x1 => (((28 : Int32) < x1) → (Q S0)) ∧ ((¬ (28 : Int32) < x1) → (wp_X0_playRound S0 (fun r_2 u_3 => ((¬ r_2 = 0) → (wp_X0_settle_2 Q n u_3 (x1 + 1))) ∧ ((r_2 = 0) → (Q u_3)))))
def wp_X0_settle (S0 : St) (Q : St → Prop) : Prop := ∃ i, wp_X0_settle_2 Q i S0 (0 : Int32)
abbrev rmX0_settle : Room := { frames := 3, cells := 0, slots := 0, locals := 67 }
set_option maxRecDepth 100000 in
set_option maxHeartbeats 4000000 in
theorem c_X0_settle (l : Launch) (D : va_G) (k : Nat → ClassId) (a : Nat → Nat) (S0 : St) (sz : Nat) (Q : St → Prop) (h : wp_X0_settle S0 Q) : Met l yX0_settle wsX0_settle rmX0_settle (cPc D k (wEn k a S0) [.ref (a 0)] sz) (va_Qv (fun (u : St) => Q u) (cB D k (va_A (wEn k a S0) sz) (fun u : St => wEn k a u)) (va_A (wEn k a S0) sz)) 0 0 (va_A (wEn k a S0) sz) := by
  refine ct_entry (cc := cX0_settle) (maxL := 2) (ret := none) (Rn := RX0) (Qc := fun A => (va_Qv (fun (u : St) => Q u) (cB D k A (fun u : St => wEn k a u)) A)) (by decide) rfl rfl (Nat.le_of_ble_eq_true rfl) ?_
  intro p e s m below meth c hx hb hr hlocks hml hts hown hnw hK A hA H locs hP hD hS ls hl
  have hl : lv_has ls 2 [(0, .ref (a 0))] := hl
  have L_2 : ∀ (n : Nat), ∀ (S0 : St) (x1 : Int32), ∀ (H : Heap) (locs : List Loc) (ls : Array Slot), va_P D vwCl (wEn k a S0) H → va_D A (wEn k a S0) → va_S A s.heap H locs → lv_has ls 2 [(0, .ref (a 0)), (1, .int x1)] → wp_X0_settle_2 Q n S0 x1 → W p l e rmX0_settle s m ([.ref (a 0)] : List Value).toArray below meth c H locs 0 0 (MQ below (va_Qv (fun (u : St) => Q u) (cB D k A (fun u : St => wEn k a u)) A) ([.ref (a 0)] : List Value).toArray s 0 0 A) (F0 m 2 ls []) := by
    intro n
    induction n with
    | zero => intro S0 x1 H locs ls hP hD hS hl h; exact absurd h (by unfold wp_X0_settle_2; exact id)
    | succ n ih =>
      intro S0 x1 H locs ls hP hD hS hl h
      unfold wp_X0_settle_2 at h
      refine lv_iload_n hx hb dX0_settle_2 rfl (lv_at hl 1 rfl) ?_
      refine lv_bipush (v := (28 : Int32)) hx hb dX0_settle_3 (by decide) ?_
      refine lv_icmp_gt (tgt := 22) hx hb dX0_settle_5 (by decide) (fun c_1 => ?_) (fun c_1 => ?_)
      · have h := h.1 c_1
        exact W.vret hx hb hr (fun t ht hW => ⟨⟨S0, rfl, h, by rw [ht]; exact hP, va_K.moved hW.alike hK, hD⟩, hS.F ht⟩) hS.2.2 dX0_settle_22
      · have h := h.2 c_1
        refine lv_aload_n hx hb dX0_settle_8 rfl (lv_at hl 0 rfl) ?_
        have hFc := fr_self hD hS hA
        refine gv_i (va_runV (As := []) (rest := []) ⟨hx, hb, hml, hown, hts⟩ (c_X0_playRound l D k a S0 H.size _ h) (cwV 0 hts gX0_settle_X0_playRound rfl rfl rfl (by decide +kernel) ⟨Nat.le_of_ble_eq_true rfl, Nat.le_of_ble_eq_true rfl⟩) (gv_preV hK hnw hP hD (ci := 0) rfl 0 rfl) rfl rfl hl.1 rfl (lv_room (Nat.le_of_ble_eq_true rfl)) dX0_settle_9 ⟨Nat.zero_le _, Nat.zero_le _⟩) hS hFc (fun r_2 u_3 H locs h hP1 hD1 hk1 hS => ?_)
        have hP := hP1
        have hD := hD1.weaken (fun _ _ _ z => hFc _ z)
        refine lv_if_ne (tgt := 16) hx hb dX0_settle_12 (by decide) (fun c_4 => ?_) (fun c_4 => ?_)
        · have h := h.1 c_4
          refine lv_iinc (v := (x1 + 1)) (lv' := [(1, .int (x1 + 1)), (0, .ref (a 0))]) hx hb dX0_settle_16 hl (k := 1) rfl rfl (by decide) rfl (fun ls hl => ?_)
          refine lv_goto (tgt := 2) hx hb dX0_settle_19 (by decide) ?_
          exact ih u_3 (x1 + 1) H locs ls hP hD hS (lv_sub hl [1, 0] rfl) h
        · have h := h.2 c_4
          exact W.vret hx hb hr (fun t ht hW => ⟨⟨u_3, rfl, h, by rw [ht]; exact hP, va_K.moved hW.alike hK, hD⟩, hS.F ht⟩) hS.2.2 dX0_settle_15
  unfold wp_X0_settle at h
  refine lv_iconst (v := (0 : Int32)) hx hb dX0_settle_0 (by decide) ?_
  refine lv_istore_n (lv' := [(1, .int (0 : Int32)), (0, .ref (a 0))]) hx hb dX0_settle_1 rfl hl (by decide) rfl (fun ls hl => ?_)
  obtain ⟨n_5, h⟩ := h
  exact L_2 n_5 S0 (0 : Int32) H locs ls hP hD hS (lv_sub hl [1, 0] rfl) h
/-! X0_pairs -/
def wp_X0_pairs_4 (Q : Int32 → St → Prop) : Nat → St → Int32 → Int32 → Prop
  | 0, _, _, _ => False
  | n + 1, S0, x1, x2 => (((S0.1 0) ≤ x2) → (Q (x1 / (2 : Int32)) S0)) ∧ ((¬ (S0.1 0) ≤ x2) → (vp_in x2 8 ∧ (wp_J6_bitCount_0f7a4 (S0.2 4 x2.toNatClampNeg) (fun r_2 => wp_X0_pairs_4 Q n S0 (x1 + r_2) (x2 + 1)))))
def wp_X0_pairs (S0 : St) (Q : Int32 → St → Prop) : Prop := ∃ i, wp_X0_pairs_4 Q i S0 (0 : Int32) (0 : Int32)
abbrev rmX0_pairs : Room := { frames := 1, cells := 0, slots := 0, locals := 20 }
set_option maxRecDepth 100000 in
set_option maxHeartbeats 4000000 in
theorem c_X0_pairs (l : Launch) (D : va_G) (k : Nat → ClassId) (a : Nat → Nat) (S0 : St) (sz : Nat) (Q : Int32 → St → Prop) (h : wp_X0_pairs S0 Q) : Met l yX0_pairs wsX0_pairs rmX0_pairs (cPc D k (wEn k a S0) [.ref (a 0)] sz) (va_Qi (fun (r : Int32) (u : St) => Q r u) (cB D k (va_A (wEn k a S0) sz) (fun u : St => wEn k a u)) (va_A (wEn k a S0) sz)) 0 0 (va_A (wEn k a S0) sz) := by
  refine ct_entry (cc := cX0_pairs) (maxL := 3) (ret := (some .int)) (Rn := RX0) (Qc := fun A => (va_Qi (fun (r : Int32) (u : St) => Q r u) (cB D k A (fun u : St => wEn k a u)) A)) (by decide) rfl rfl (Nat.le_of_ble_eq_true rfl) ?_
  intro p e s m below meth c hx hb hr hlocks hml hts hown hnw hK A hA H locs hP hD hS ls hl
  have hl : lv_has ls 3 [(0, .ref (a 0))] := hl
  have ln_24 := hts (.fieldLink RX0 24 "WithTheSameOne$Ending" "partners" "[I") (by decide +kernel)
  have ln_9 := hts (.fieldLink RX0 9 "WithTheSameOne$Ending" "size" "I") (by decide +kernel)
  have in_En : ∀ w ∈ wsX00, w ∈ wsX0_pairs := fun _ h => List.mem_cons_of_mem _ (List.mem_append_right _ h)
  have L_4 : ∀ (n : Nat), ∀ (S0 : St) (x1 : Int32) (x2 : Int32), ∀ (H : Heap) (locs : List Loc) (ls : Array Slot), va_P D vwCl (wEn k a S0) H → va_D A (wEn k a S0) → va_S A s.heap H locs → lv_has ls 3 [(0, .ref (a 0)), (1, .int x1), (2, .int x2)] → wp_X0_pairs_4 Q n S0 x1 x2 → W p l e rmX0_pairs s m ([.ref (a 0)] : List Value).toArray below meth c H locs 0 0 (MQ below (va_Qi (fun (r : Int32) (u : St) => Q r u) (cB D k A (fun u : St => wEn k a u)) A) ([.ref (a 0)] : List Value).toArray s 0 0 A) (F0 m 4 ls []) := by
    intro n
    induction n with
    | zero => intro S0 x1 x2 H locs ls hP hD hS hl h; exact absurd h (by unfold wp_X0_pairs_4; exact id)
    | succ n ih =>
      intro S0 x1 x2 H locs ls hP hD hS hl h
      unfold wp_X0_pairs_4 at h
      refine lv_iload_n hx hb dX0_pairs_4 rfl (lv_at hl 2 rfl) ?_
      refine lv_aload_n hx hb dX0_pairs_5 rfl (lv_at hl 0 rfl) ?_
      refine va_get (D := D) (ci := 0) (v := .int (S0.1 0)) (C := RX0) (T := TX0) (N := 7) hx hb hts in_En hown hK hP 0 rfl rfl 0 (by decide) ln_9 (fun _ h9 => h9) rfl dX0_pairs_6 ?_
      refine lv_icmp_ge (tgt := 30) hx hb dX0_pairs_9 (by decide) (fun c_1 => ?_) (fun c_1 => ?_)
      · have h := h.1 c_1
        refine lv_iload_n hx hb dX0_pairs_30 rfl (lv_at hl 1 rfl) ?_
        refine lv_iconst (v := (2 : Int32)) hx hb dX0_pairs_31 (by decide) ?_
        refine lv_idiv hx hb dX0_pairs_32 (by decide) ?_
        exact W.iret (v := (x1 / (2 : Int32))) hx hb hr (fun t ht hW => ⟨⟨(x1 / (2 : Int32)), S0, rfl, h, by rw [ht]; exact hP, va_K.moved hW.alike hK, hD⟩, hS.F ht⟩) hS.2.2 dX0_pairs_33
      · have h := h.2 c_1
        refine lv_iload_n hx hb dX0_pairs_12 rfl (lv_at hl 1 rfl) ?_
        refine lv_aload_n hx hb dX0_pairs_13 rfl (lv_at hl 0 rfl) ?_
        refine va_get (D := D) (ci := 0) (v := .ref (a 1)) (C := RX0) (T := TX0) (N := 7) hx hb hts in_En hown hK hP 0 rfl rfl 4 (by decide) ln_24 (fun _ h9 => h9) rfl dX0_pairs_14 ?_
        refine lv_iload_n hx hb dX0_pairs_17 rfl (lv_at hl 2 rfl) ?_
        refine va_iald hx hb hK hP 1 0 rfl rfl h.1 dX0_pairs_18 ?_
        have h := h.2
        refine gs_i (va_runS (As := [.int (S0.2 4 x2.toNatClampNeg)]) (rest := [.int x1]) ⟨hx, hb, hml, hown, hts⟩ (c_J6_bitCount_0f7a4 l (S0.2 4 x2.toNatClampNeg) _ h) (va_cwS 1 hts gX0_pairs_J6_bitCount_0f7a4 rfl rfl rfl (by decide +kernel) ⟨Nat.le_of_ble_eq_true rfl, Nat.le_of_ble_eq_true rfl⟩) preEq rfl rfl hl.1 rfl (lv_room (Nat.le_of_ble_eq_true rfl)) dX0_pairs_19 ⟨Nat.zero_le _, Nat.zero_le _⟩) (fun r_2 h => ?_)
        refine lv_iadd hx hb dX0_pairs_22 ?_
        refine lv_istore_n (lv' := [(1, .int (x1 + r_2)), (0, .ref (a 0)), (2, .int x2)]) hx hb dX0_pairs_23 rfl hl (by decide) rfl (fun ls hl => ?_)
        refine lv_iinc (v := (x2 + 1)) (lv' := [(2, .int (x2 + 1)), (1, .int (x1 + r_2)), (0, .ref (a 0))]) hx hb dX0_pairs_24 hl (k := 2) rfl rfl (by decide) rfl (fun ls hl => ?_)
        refine lv_goto (tgt := 4) hx hb dX0_pairs_27 (by decide) ?_
        exact ih S0 (x1 + r_2) (x2 + 1) H locs ls hP hD hS (lv_sub hl [2, 1, 0] rfl) h
  unfold wp_X0_pairs at h
  refine lv_iconst (v := (0 : Int32)) hx hb dX0_pairs_0 (by decide) ?_
  refine lv_istore_n (lv' := [(1, .int (0 : Int32)), (0, .ref (a 0))]) hx hb dX0_pairs_1 rfl hl (by decide) rfl (fun ls hl => ?_)
  refine lv_iconst (v := (0 : Int32)) hx hb dX0_pairs_2 (by decide) ?_
  refine lv_istore_n (lv' := [(2, .int (0 : Int32)), (1, .int (0 : Int32)), (0, .ref (a 0))]) hx hb dX0_pairs_3 rfl hl (by decide) rfl (fun ls hl => ?_)
  obtain ⟨n_3, h⟩ := h
  exact L_4 n_3 S0 (0 : Int32) (0 : Int32) H locs ls hP hD hS (lv_sub hl [2, 1, 0] rfl) h
/-! X0_isFull -/
def wp_X0_isFull (S0 : St) (Q : Int32 → St → Prop) : Prop := wp_X0_pairs S0 (fun r_1 u_2 => ((¬ r_1 = (((u_2.1 0) * ((u_2.1 0) - (1 : Int32))) / (2 : Int32))) → (Q (0 : Int32) u_2)) ∧ ((r_1 = (((u_2.1 0) * ((u_2.1 0) - (1 : Int32))) / (2 : Int32))) → (Q (1 : Int32) u_2)))
abbrev rmX0_isFull : Room := { frames := 2, cells := 0, slots := 0, locals := 42 }
set_option maxRecDepth 100000 in
set_option maxHeartbeats 4000000 in
theorem c_X0_isFull (l : Launch) (D : va_G) (k : Nat → ClassId) (a : Nat → Nat) (S0 : St) (sz : Nat) (Q : Int32 → St → Prop) (h : wp_X0_isFull S0 Q) : Met l yX0_isFull wsX0_isFull rmX0_isFull (cPc D k (wEn k a S0) [.ref (a 0)] sz) (va_Qi (fun (r : Int32) (u : St) => Q r u) (cB D k (va_A (wEn k a S0) sz) (fun u : St => wEn k a u)) (va_A (wEn k a S0) sz)) 0 0 (va_A (wEn k a S0) sz) := by
  refine ct_entry (cc := cX0_isFull) (maxL := 1) (ret := (some .boolean)) (Rn := RX0) (Qc := fun A => (va_Qi (fun (r : Int32) (u : St) => Q r u) (cB D k A (fun u : St => wEn k a u)) A)) (by decide) rfl rfl (Nat.le_of_ble_eq_true rfl) ?_
  intro p e s m below meth c hx hb hr hlocks hml hts hown hnw hK A hA H locs hP hD hS ls hl
  have hl : lv_has ls 1 [(0, .ref (a 0))] := hl
  have ln_9 := hts (.fieldLink RX0 9 "WithTheSameOne$Ending" "size" "I") (by decide +kernel)
  have in_En : ∀ w ∈ wsX00, w ∈ wsX0_isFull := fun _ h => List.mem_cons_of_mem _ (List.mem_append_right _ h)
  unfold wp_X0_isFull at h
  refine lv_aload_n hx hb dX0_isFull_0 rfl (lv_at hl 0 rfl) ?_
  have hFc := fr_self hD hS hA
  refine gv_i (va_runV (As := []) (rest := []) ⟨hx, hb, hml, hown, hts⟩ (c_X0_pairs l D k a S0 H.size _ h) (cwV 0 hts gX0_isFull_X0_pairs rfl rfl rfl (by decide +kernel) ⟨Nat.le_of_ble_eq_true rfl, Nat.le_of_ble_eq_true rfl⟩) (gv_preV hK hnw hP hD (ci := 0) rfl 0 rfl) rfl rfl hl.1 rfl (lv_room (Nat.le_of_ble_eq_true rfl)) dX0_isFull_1 ⟨Nat.zero_le _, Nat.zero_le _⟩) hS hFc (fun r_1 u_2 H locs h hP1 hD1 hk1 hS => ?_)
  have hP := hP1
  have hD := hD1.weaken (fun _ _ _ z => hFc _ z)
  refine lv_aload_n hx hb dX0_isFull_4 rfl (lv_at hl 0 rfl) ?_
  refine va_get (D := D) (ci := 0) (v := .int (u_2.1 0)) (C := RX0) (T := TX0) (N := 7) hx hb hts in_En hown hK hP 0 rfl rfl 0 (by decide) ln_9 (fun _ h9 => h9) rfl dX0_isFull_5 ?_
  refine lv_aload_n hx hb dX0_isFull_8 rfl (lv_at hl 0 rfl) ?_
  refine va_get (D := D) (ci := 0) (v := .int (u_2.1 0)) (C := RX0) (T := TX0) (N := 7) hx hb hts in_En hown hK hP 0 rfl rfl 0 (by decide) ln_9 (fun _ h9 => h9) rfl dX0_isFull_9 ?_
  refine lv_iconst (v := (1 : Int32)) hx hb dX0_isFull_12 (by decide) ?_
  refine lv_isub hx hb dX0_isFull_13 ?_
  refine lv_imul hx hb dX0_isFull_14 ?_
  refine lv_iconst (v := (2 : Int32)) hx hb dX0_isFull_15 (by decide) ?_
  refine lv_idiv hx hb dX0_isFull_16 (by decide) ?_
  refine lv_icmp_ne (tgt := 24) hx hb dX0_isFull_17 (by decide) (fun c_3 => ?_) (fun c_3 => ?_)
  · have h := h.1 c_3
    refine lv_iconst (v := (0 : Int32)) hx hb dX0_isFull_24 (by decide) ?_
    exact W.zret (v := (0 : Int32)) hx hb hr rfl (fun t ht hW => ⟨⟨(0 : Int32), u_2, rfl, h, by rw [ht]; exact hP, va_K.moved hW.alike hK, hD⟩, hS.F ht⟩) hS.2.2 dX0_isFull_25
  · have h := h.2 c_3
    refine lv_iconst (v := (1 : Int32)) hx hb dX0_isFull_20 (by decide) ?_
    refine lv_goto (tgt := 25) hx hb dX0_isFull_21 (by decide) ?_
    exact W.zret (v := (1 : Int32)) hx hb hr rfl (fun t ht hW => ⟨⟨(1 : Int32), u_2, rfl, h, by rw [ht]; exact hP, va_K.moved hW.alike hK, hD⟩, hS.F ht⟩) hS.2.2 dX0_isFull_25
/-! X1_append -/
def wp_X1_append (S0 : St × (Nat → St)) (x1 : Int32) (Q : Int32 → (St × (Nat → St)) → Prop) : Prop := (((6 : Int32) ≤ (S0.1.1 0)) → (Q (S0.1.1 0) S0)) ∧ ((¬ (6 : Int32) ≤ (S0.1.1 0)) → (vp_in (S0.1.1 0) 6 ∧ (∀ S_2, S_2 = ((sA S0.1 1 (S0.1.1 0).toNatClampNeg x1), S0.2) → (∀ S_4, S_4 = ((sI S_2.1 0 ((S_2.1.1 0) + (1 : Int32))), S_2.2) → (Q (S_4.1.1 0) S_4)))))
abbrev rmX1_append : Room := { frames := 0, cells := 0, slots := 0, locals := 0 }
set_option maxRecDepth 100000 in
set_option maxHeartbeats 4000000 in
theorem c_X1_append (l : Launch) (D : va_G) (k : Nat → ClassId) (a : Nat → Nat) (S0 : St × (Nat → St)) (sz : Nat) (x1 : Int32) (Q : Int32 → (St × (Nat → St)) → Prop) (h : wp_X1_append S0 x1 Q) : Met l yX1_append wsX1_append rmX1_append (cPc D k (wEv k a S0) [.ref (a 0), .int x1] sz) (va_Qi (fun (r : Int32) (u : (St × (Nat → St))) => Q r u) (cB D k (va_A (wEv k a S0) sz) (fun u : (St × (Nat → St)) => wEv k a u)) (va_A (wEv k a S0) sz)) 0 0 (va_A (wEv k a S0) sz) := by
  refine ct_entry (cc := cX1_append) (maxL := 2) (ret := (some .int)) (Rn := RX1) (Qc := fun A => (va_Qi (fun (r : Int32) (u : (St × (Nat → St))) => Q r u) (cB D k A (fun u : (St × (Nat → St)) => wEv k a u)) A)) (by decide) rfl rfl (Nat.le_of_ble_eq_true rfl) ?_
  intro p e s m below meth c hx hb hr hlocks hml hts hown hnw hK A hA H locs hP hD hS ls hl
  have hl : lv_has ls 2 [(0, .ref (a 0)), (1, .int x1)] := hl
  have ln_15 := hts (.fieldLink RX1 15 "WithTheSameOne$Evening" "pairs" "[I") (by decide +kernel)
  have ln_9 := hts (.fieldLink RX1 9 "WithTheSameOne$Evening" "size" "I") (by decide +kernel)
  have in_Ev : ∀ w ∈ wsX10, w ∈ wsX1_append := fun _ h => List.mem_cons_of_mem _ (List.mem_append_right _ h)
  unfold wp_X1_append at h
  refine lv_aload_n hx hb dX1_append_0 rfl (lv_at hl 0 rfl) ?_
  refine va_get (D := D) (ci := 1) (v := .int (S0.1.1 0)) (C := RX1) (T := TX1) (N := 3) hx hb hts in_Ev hown hK hP 0 rfl rfl 0 (by decide) ln_9 (fun _ h9 => h9) rfl dX1_append_1 ?_
  refine lv_bipush (v := (6 : Int32)) hx hb dX1_append_4 (by decide) ?_
  refine lv_icmp_ge (tgt := 29) hx hb dX1_append_6 (by decide) (fun c_1 => ?_) (fun c_1 => ?_)
  · have h := h.1 c_1
    refine lv_aload_n hx hb dX1_append_29 rfl (lv_at hl 0 rfl) ?_
    refine va_get (D := D) (ci := 1) (v := .int (S0.1.1 0)) (C := RX1) (T := TX1) (N := 3) hx hb hts in_Ev hown hK hP 0 rfl rfl 0 (by decide) ln_9 (fun _ h9 => h9) rfl dX1_append_30 ?_
    exact W.iret (v := (S0.1.1 0)) hx hb hr (fun t ht hW => ⟨⟨(S0.1.1 0), S0, rfl, h, by rw [ht]; exact hP, va_K.moved hW.alike hK, hD⟩, hS.F ht⟩) hS.2.2 dX1_append_33
  · have h := h.2 c_1
    refine lv_aload_n hx hb dX1_append_9 rfl (lv_at hl 0 rfl) ?_
    refine va_get (D := D) (ci := 1) (v := .ref (a 1)) (C := RX1) (T := TX1) (N := 3) hx hb hts in_Ev hown hK hP 0 rfl rfl 1 (by decide) ln_15 (fun _ h9 => h9) rfl dX1_append_10 ?_
    refine lv_aload_n hx hb dX1_append_13 rfl (lv_at hl 0 rfl) ?_
    refine va_get (D := D) (ci := 1) (v := .int (S0.1.1 0)) (C := RX1) (T := TX1) (N := 3) hx hb hts in_Ev hown hK hP 0 rfl rfl 0 (by decide) ln_9 (fun _ h9 => h9) rfl dX1_append_14 ?_
    refine lv_iload_n hx hb dX1_append_17 rfl (lv_at hl 1 rfl) ?_
    refine va_iast hx hb hK hP hD hS 1 0 rfl rfl h.1 dX1_append_18 (fun H locs hP hD hS => ?_)
    have h := h.2
    obtain ⟨S_2, e_3⟩ : ∃ z : St × (Nat → St), z = ((sA S0.1 1 (S0.1.1 0).toNatClampNeg x1), S0.2) := ⟨_, rfl⟩
    have h := h S_2 e_3
    have hP : va_P D vwCl (wEv k a S_2) H := by rw [e_3]; exact hP
    have hD : va_D A (wEv k a S_2) := by rw [e_3]; exact hD
    refine lv_aload_n hx hb dX1_append_19 rfl (lv_at hl 0 rfl) ?_
    refine lv_dup hx hb dX1_append_20 rfl ?_
    refine va_get (D := D) (ci := 1) (v := .int (S_2.1.1 0)) (C := RX1) (T := TX1) (N := 3) hx hb hts in_Ev hown hK hP 0 rfl rfl 0 (by decide) ln_9 (fun _ h9 => h9) rfl dX1_append_21 ?_
    refine lv_iconst (v := (1 : Int32)) hx hb dX1_append_24 (by decide) ?_
    refine lv_iadd hx hb dX1_append_25 ?_
    refine va_put (D := D) (ci := 1) (v := .int ((S_2.1.1 0) + (1 : Int32))) (ty := .int) (C := RX1) (T := TX1) (N := 3) hx hb hts in_Ev tyX1 tyX1_ok nmX1 hown hK hP hD hS 0 rfl rfl 0 (by decide) ln_9 (fun _ h9 => h9) rfl (by decide +kernel) rfl rfl (Nat.le_of_ble_eq_true rfl) dX1_append_26 (fun H locs hP hD hS => ?_)
    obtain ⟨S_4, e_5⟩ : ∃ z : St × (Nat → St), z = ((sI S_2.1 0 ((S_2.1.1 0) + (1 : Int32))), S_2.2) := ⟨_, rfl⟩
    have h := h S_4 e_5
    have hP : va_P D vwCl (wEv k a S_4) H := by rw [e_5]; exact hP
    have hD : va_D A (wEv k a S_4) := by rw [e_5]; exact hD
    refine lv_aload_n hx hb dX1_append_29 rfl (lv_at hl 0 rfl) ?_
    refine va_get (D := D) (ci := 1) (v := .int (S_4.1.1 0)) (C := RX1) (T := TX1) (N := 3) hx hb hts in_Ev hown hK hP 0 rfl rfl 0 (by decide) ln_9 (fun _ h9 => h9) rfl dX1_append_30 ?_
    exact W.iret (v := (S_4.1.1 0)) hx hb hr (fun t ht hW => ⟨⟨(S_4.1.1 0), S_4, rfl, h, by rw [ht]; exact hP, va_K.moved hW.alike hK, hD⟩, hS.F ht⟩) hS.2.2 dX1_append_33
/-! X1_empty -/
def wp_X1_empty (S0 : St × (Nat → St)) (Q : Int32 → (St × (Nat → St)) → Prop) : Prop := ∀ S_1, S_1 = ((sI S0.1 0 (0 : Int32)), S0.2) → (Q (S0.1.1 0) S_1)
abbrev rmX1_empty : Room := { frames := 0, cells := 0, slots := 0, locals := 0 }
set_option maxRecDepth 100000 in
set_option maxHeartbeats 4000000 in
theorem c_X1_empty (l : Launch) (D : va_G) (k : Nat → ClassId) (a : Nat → Nat) (S0 : St × (Nat → St)) (sz : Nat) (Q : Int32 → (St × (Nat → St)) → Prop) (h : wp_X1_empty S0 Q) : Met l yX1_empty wsX1_empty rmX1_empty (cPc D k (wEv k a S0) [.ref (a 0)] sz) (va_Qi (fun (r : Int32) (u : (St × (Nat → St))) => Q r u) (cB D k (va_A (wEv k a S0) sz) (fun u : (St × (Nat → St)) => wEv k a u)) (va_A (wEv k a S0) sz)) 0 0 (va_A (wEv k a S0) sz) := by
  refine ct_entry (cc := cX1_empty) (maxL := 2) (ret := (some .int)) (Rn := RX1) (Qc := fun A => (va_Qi (fun (r : Int32) (u : (St × (Nat → St))) => Q r u) (cB D k A (fun u : (St × (Nat → St)) => wEv k a u)) A)) (by decide) rfl rfl (Nat.le_of_ble_eq_true rfl) ?_
  intro p e s m below meth c hx hb hr hlocks hml hts hown hnw hK A hA H locs hP hD hS ls hl
  have hl : lv_has ls 2 [(0, .ref (a 0))] := hl
  have ln_9 := hts (.fieldLink RX1 9 "WithTheSameOne$Evening" "size" "I") (by decide +kernel)
  have in_Ev : ∀ w ∈ wsX10, w ∈ wsX1_empty := fun _ h => List.mem_cons_of_mem _ (List.mem_append_right _ h)
  unfold wp_X1_empty at h
  refine lv_aload_n hx hb dX1_empty_0 rfl (lv_at hl 0 rfl) ?_
  refine va_get (D := D) (ci := 1) (v := .int (S0.1.1 0)) (C := RX1) (T := TX1) (N := 3) hx hb hts in_Ev hown hK hP 0 rfl rfl 0 (by decide) ln_9 (fun _ h9 => h9) rfl dX1_empty_1 ?_
  refine lv_istore_n (lv' := [(1, .int (S0.1.1 0)), (0, .ref (a 0))]) hx hb dX1_empty_4 rfl hl (by decide) rfl (fun ls hl => ?_)
  refine lv_aload_n hx hb dX1_empty_5 rfl (lv_at hl 1 rfl) ?_
  refine lv_iconst (v := (0 : Int32)) hx hb dX1_empty_6 (by decide) ?_
  refine va_put (D := D) (ci := 1) (v := .int (0 : Int32)) (ty := .int) (C := RX1) (T := TX1) (N := 3) hx hb hts in_Ev tyX1 tyX1_ok nmX1 hown hK hP hD hS 0 rfl rfl 0 (by decide) ln_9 (fun _ h9 => h9) rfl (by decide +kernel) rfl rfl (Nat.le_of_ble_eq_true rfl) dX1_empty_7 (fun H locs hP hD hS => ?_)
  obtain ⟨S_1, e_2⟩ : ∃ z : St × (Nat → St), z = ((sI S0.1 0 (0 : Int32)), S0.2) := ⟨_, rfl⟩
  have h := h S_1 e_2
  have hP : va_P D vwCl (wEv k a S_1) H := by rw [e_2]; exact hP
  have hD : va_D A (wEv k a S_1) := by rw [e_2]; exact hD
  refine lv_iload_n hx hb dX1_empty_10 rfl (lv_at hl 0 rfl) ?_
  exact W.iret (v := (S0.1.1 0)) hx hb hr (fun t ht hW => ⟨⟨(S0.1.1 0), S_1, rfl, h, by rw [ht]; exact hP, va_K.moved hW.alike hK, hD⟩, hS.F ht⟩) hS.2.2 dX1_empty_11
