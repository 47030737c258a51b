/-! X2_copyFrom -/
def wp_X2_copyFrom_18 (Q : St → St → Prop) : Nat → St → St → Int32 → Prop
  | 0, _, _, _ => False
  | n + 1, S0, S1, x2 => (((8 : Int32) ≤ x2) → (Q S0 S1)) ∧ ((¬ (8 : Int32) ≤ x2) → (vp_in x2 8 ∧ (vp_in x2 8 ∧ (∀ S_6, S_6 = (sA S0 2 x2.toNatClampNeg (S1.2 2 x2.toNatClampNeg)) → (vp_in x2 8 ∧ (vp_in x2 8 ∧ (∀ S_8, S_8 = (sA S_6 3 x2.toNatClampNeg (S1.2 3 x2.toNatClampNeg)) → (vp_in x2 8 ∧ (vp_in x2 8 ∧ (∀ S_10, S_10 = (sA S_8 4 x2.toNatClampNeg (S1.2 4 x2.toNatClampNeg)) → (vp_in x2 8 ∧ (vp_in x2 8 ∧ (∀ S_12, S_12 = (sA S_10 5 x2.toNatClampNeg (S1.2 5 x2.toNatClampNeg)) → (wp_X2_copyFrom_18 Q n S_12 S1 (x2 + 1)))))))))))))))
def wp_X2_copyFrom (S0 : St) (S1 : St) (Q : St → St → Prop) : Prop := ∀ S_1, S_1 = (sI S0 0 (S1.1 0)) → (∀ S_3, S_3 = (sI S_1 1 (S1.1 1)) → (∃ i, wp_X2_copyFrom_18 Q i S_3 S1 (0 : Int32)))
abbrev rmX2_copyFrom : Room := { frames := 0, cells := 0, slots := 0, locals := 0 }
set_option maxRecDepth 100000 in
set_option maxHeartbeats 4000000 in
theorem c_X2_copyFrom (l : Launch) (D : va_G) (k : Nat → ClassId) (a : Nat → Nat) (b : Nat → Nat) (S0 : St) (S1 : St) (sz : Nat) (Q : St → St → Prop) (h : wp_X2_copyFrom S0 S1 Q) : Met l yX2_copyFrom wsX2_copyFrom rmX2_copyFrom (cPc D k (wFl k a S0 ++ wFl k b S1) [.ref (a 0), .ref (b 0)] sz) (va_Qv (fun (u : St × St) => Q u.1 u.2) (cB D k (va_A (wFl k a S0 ++ wFl k b S1) sz) (fun u : St × St => wFl k a u.1 ++ wFl k b u.2)) (va_A (wFl k a S0 ++ wFl k b S1) sz)) 0 0 (va_A (wFl k a S0 ++ wFl k b S1) sz) := by
  refine ct_entry (cc := cX2_copyFrom) (maxL := 3) (ret := none) (Rn := RX2) (Qc := fun A => (va_Qv (fun (u : St × St) => Q u.1 u.2) (cB D k A (fun u : St × St => wFl k a u.1 ++ wFl k b u.2)) A)) (by decide) rfl rfl (Nat.le_of_ble_eq_true rfl) ?_
  intro p e s m below meth c hx hb hr hlocks hml hts hown hnw hK A hA H locs hP hD hS ls hl
  have hl : lv_has ls 3 [(0, .ref (a 0)), (1, .ref (b 0))] := hl
  have ln_15 := hts (.fieldLink RX2 15 "WithTheSameOne$Floor" "law" "I") (by decide +kernel)
  have ln_18 := hts (.fieldLink RX2 18 "WithTheSameOne$Floor" "kind" "[I") (by decide +kernel)
  have ln_22 := hts (.fieldLink RX2 22 "WithTheSameOne$Floor" "figure" "[I") (by decide +kernel)
  have ln_25 := hts (.fieldLink RX2 25 "WithTheSameOne$Floor" "brought" "[I") (by decide +kernel)
  have ln_28 := hts (.fieldLink RX2 28 "WithTheSameOne$Floor" "partners" "[I") (by decide +kernel)
  have ln_9 := hts (.fieldLink RX2 9 "WithTheSameOne$Floor" "size" "I") (by decide +kernel)
  have in_Fl : ∀ w ∈ wsX20, w ∈ wsX2_copyFrom := fun _ h => List.mem_cons_of_mem _ (List.mem_append_right _ h)
  have L_18 : ∀ (n : Nat), ∀ (S0 : St) (S1 : St) (x2 : Int32), ∀ (H : Heap) (locs : List Loc) (ls : Array Slot), va_P D vwCl (wFl k a S0 ++ wFl k b S1) H → va_D A (wFl k a S0 ++ wFl k b S1) → va_S A s.heap H locs → lv_has ls 3 [(0, .ref (a 0)), (1, .ref (b 0)), (2, .int x2)] → wp_X2_copyFrom_18 Q n S0 S1 x2 → W p l e rmX2_copyFrom s m ([.ref (a 0), .ref (b 0)] : List Value).toArray below meth c H locs 0 0 (MQ below (va_Qv (fun (u : St × St) => Q u.1 u.2) (cB D k A (fun u : St × St => wFl k a u.1 ++ wFl k b u.2)) A) ([.ref (a 0), .ref (b 0)] : List Value).toArray s 0 0 A) (F0 m 18 ls []) := by
    intro n
    induction n with
    | zero => intro S0 S1 x2 H locs ls hP hD hS hl h; exact absurd h (by unfold wp_X2_copyFrom_18; exact id)
    | succ n ih =>
      intro S0 S1 x2 H locs ls hP hD hS hl h
      unfold wp_X2_copyFrom_18 at h
      refine lv_iload_n hx hb dX2_copyFrom_18 rfl (lv_at hl 2 rfl) ?_
      refine lv_bipush (v := (8 : Int32)) hx hb dX2_copyFrom_19 (by decide) ?_
      refine lv_icmp_ge (tgt := 78) hx hb dX2_copyFrom_21 (by decide) (fun c_5 => ?_) (fun c_5 => ?_)
      · have h := h.1 c_5
        exact W.vret hx hb hr (fun t ht hW => ⟨⟨(S0, S1), rfl, h, by rw [ht]; exact hP, va_K.moved hW.alike hK, hD⟩, hS.F ht⟩) hS.2.2 dX2_copyFrom_78
      · have h := h.2 c_5
        refine lv_aload_n hx hb dX2_copyFrom_24 rfl (lv_at hl 0 rfl) ?_
        refine va_get (D := D) (ci := 2) (v := .ref (a 1)) (C := RX2) (T := TX2) (N := 6) hx hb hts in_Fl hown hK hP 0 rfl rfl 2 (by decide) ln_18 (fun _ h9 => h9) rfl dX2_copyFrom_25 ?_
        refine lv_iload_n hx hb dX2_copyFrom_28 rfl (lv_at hl 2 rfl) ?_
        refine lv_aload_n hx hb dX2_copyFrom_29 rfl (lv_at hl 1 rfl) ?_
        refine va_get (D := D) (ci := 2) (v := .ref (b 1)) (C := RX2) (T := TX2) (N := 6) hx hb hts in_Fl hown hK hP 5 rfl rfl 2 (by decide) ln_18 (fun _ h9 => h9) rfl dX2_copyFrom_30 ?_
        refine lv_iload_n hx hb dX2_copyFrom_33 rfl (lv_at hl 2 rfl) ?_
        refine va_iald hx hb hK hP 6 0 rfl rfl h.1 dX2_copyFrom_34 ?_
        have h := h.2
        refine va_iast hx hb hK hP hD hS 1 0 rfl rfl h.1 dX2_copyFrom_35 (fun H locs hP hD hS => ?_)
        have h := h.2
        obtain ⟨S_6, e_7⟩ : ∃ z : St, z = (sA S0 2 x2.toNatClampNeg (S1.2 2 x2.toNatClampNeg)) := ⟨_, rfl⟩
        have h := h S_6 e_7
        have hP : va_P D vwCl (wFl k a S_6 ++ wFl k b S1) H := by rw [e_7]; exact hP
        have hD : va_D A (wFl k a S_6 ++ wFl k b S1) := by rw [e_7]; exact hD
        refine lv_aload_n hx hb dX2_copyFrom_36 rfl (lv_at hl 0 rfl) ?_
        refine va_get (D := D) (ci := 2) (v := .ref (a 2)) (C := RX2) (T := TX2) (N := 6) hx hb hts in_Fl hown hK hP 0 rfl rfl 3 (by decide) ln_22 (fun _ h9 => h9) rfl dX2_copyFrom_37 ?_
        refine lv_iload_n hx hb dX2_copyFrom_40 rfl (lv_at hl 2 rfl) ?_
        refine lv_aload_n hx hb dX2_copyFrom_41 rfl (lv_at hl 1 rfl) ?_
        refine va_get (D := D) (ci := 2) (v := .ref (b 2)) (C := RX2) (T := TX2) (N := 6) hx hb hts in_Fl hown hK hP 5 rfl rfl 3 (by decide) ln_22 (fun _ h9 => h9) rfl dX2_copyFrom_42 ?_
        refine lv_iload_n hx hb dX2_copyFrom_45 rfl (lv_at hl 2 rfl) ?_
        refine va_iald hx hb hK hP 7 0 rfl rfl h.1 dX2_copyFrom_46 ?_
        have h := h.2
        refine va_iast hx hb hK hP hD hS 2 0 rfl rfl h.1 dX2_copyFrom_47 (fun H locs hP hD hS => ?_)
        have h := h.2
        obtain ⟨S_8, e_9⟩ : ∃ z : St, z = (sA S_6 3 x2.toNatClampNeg (S1.2 3 x2.toNatClampNeg)) := ⟨_, rfl⟩
        have h := h S_8 e_9
        have hP : va_P D vwCl (wFl k a S_8 ++ wFl k b S1) H := by rw [e_9]; exact hP
        have hD : va_D A (wFl k a S_8 ++ wFl k b S1) := by rw [e_9]; exact hD
        refine lv_aload_n hx hb dX2_copyFrom_48 rfl (lv_at hl 0 rfl) ?_
        refine va_get (D := D) (ci := 2) (v := .ref (a 3)) (C := RX2) (T := TX2) (N := 6) hx hb hts in_Fl hown hK hP 0 rfl rfl 4 (by decide) ln_25 (fun _ h9 => h9) rfl dX2_copyFrom_49 ?_
        refine lv_iload_n hx hb dX2_copyFrom_52 rfl (lv_at hl 2 rfl) ?_
        refine lv_aload_n hx hb dX2_copyFrom_53 rfl (lv_at hl 1 rfl) ?_
        refine va_get (D := D) (ci := 2) (v := .ref (b 3)) (C := RX2) (T := TX2) (N := 6) hx hb hts in_Fl hown hK hP 5 rfl rfl 4 (by decide) ln_25 (fun _ h9 => h9) rfl dX2_copyFrom_54 ?_
        refine lv_iload_n hx hb dX2_copyFrom_57 rfl (lv_at hl 2 rfl) ?_
        refine va_iald hx hb hK hP 8 0 rfl rfl h.1 dX2_copyFrom_58 ?_
        have h := h.2
        refine va_iast hx hb hK hP hD hS 3 0 rfl rfl h.1 dX2_copyFrom_59 (fun H locs hP hD hS => ?_)
        have h := h.2
        obtain ⟨S_10, e_11⟩ : ∃ z : St, z = (sA S_8 4 x2.toNatClampNeg (S1.2 4 x2.toNatClampNeg)) := ⟨_, rfl⟩
        have h := h S_10 e_11
        have hP : va_P D vwCl (wFl k a S_10 ++ wFl k b S1) H := by rw [e_11]; exact hP
        have hD : va_D A (wFl k a S_10 ++ wFl k b S1) := by rw [e_11]; exact hD
        refine lv_aload_n hx hb dX2_copyFrom_60 rfl (lv_at hl 0 rfl) ?_
        refine va_get (D := D) (ci := 2) (v := .ref (a 4)) (C := RX2) (T := TX2) (N := 6) hx hb hts in_Fl hown hK hP 0 rfl rfl 5 (by decide) ln_28 (fun _ h9 => h9) rfl dX2_copyFrom_61 ?_
        refine lv_iload_n hx hb dX2_copyFrom_64 rfl (lv_at hl 2 rfl) ?_
        refine lv_aload_n hx hb dX2_copyFrom_65 rfl (lv_at hl 1 rfl) ?_
        refine va_get (D := D) (ci := 2) (v := .ref (b 4)) (C := RX2) (T := TX2) (N := 6) hx hb hts in_Fl hown hK hP 5 rfl rfl 5 (by decide) ln_28 (fun _ h9 => h9) rfl dX2_copyFrom_66 ?_
        refine lv_iload_n hx hb dX2_copyFrom_69 rfl (lv_at hl 2 rfl) ?_
        refine va_iald hx hb hK hP 9 0 rfl rfl h.1 dX2_copyFrom_70 ?_
        have h := h.2
        refine va_iast hx hb hK hP hD hS 4 0 rfl rfl h.1 dX2_copyFrom_71 (fun H locs hP hD hS => ?_)
        have h := h.2
        obtain ⟨S_12, e_13⟩ : ∃ z : St, z = (sA S_10 5 x2.toNatClampNeg (S1.2 5 x2.toNatClampNeg)) := ⟨_, rfl⟩
        have h := h S_12 e_13
        have hP : va_P D vwCl (wFl k a S_12 ++ wFl k b S1) H := by rw [e_13]; exact hP
        have hD : va_D A (wFl k a S_12 ++ wFl k b S1) := by rw [e_13]; exact hD
        refine lv_iinc (v := (x2 + 1)) (lv' := [(2, .int (x2 + 1)), (0, .ref (a 0)), (1, .ref (b 0))]) hx hb dX2_copyFrom_72 hl (k := 2) rfl rfl (by decide) rfl (fun ls hl => ?_)
        refine lv_goto (tgt := 18) hx hb dX2_copyFrom_75 (by decide) ?_
        exact ih S_12 S1 (x2 + 1) H locs ls hP hD hS (lv_sub hl [1, 2, 0] rfl) h
  unfold wp_X2_copyFrom at h
  refine lv_aload_n hx hb dX2_copyFrom_0 rfl (lv_at hl 0 rfl) ?_
  refine lv_aload_n hx hb dX2_copyFrom_1 rfl (lv_at hl 1 rfl) ?_
  refine va_get (D := D) (ci := 2) (v := .int (S1.1 0)) (C := RX2) (T := TX2) (N := 6) hx hb hts in_Fl hown hK hP 5 rfl rfl 0 (by decide) ln_9 (fun _ h9 => h9) rfl dX2_copyFrom_2 ?_
  refine va_put (D := D) (ci := 2) (v := .int (S1.1 0)) (ty := .int) (C := RX2) (T := TX2) (N := 6) hx hb hts in_Fl tyX2 tyX2_ok nmX2 hown hK hP hD hS 0 rfl rfl 0 (by decide) ln_9 (fun _ h9 => h9) rfl (by decide +kernel) rfl rfl (Nat.le_of_ble_eq_true rfl) dX2_copyFrom_5 (fun H locs hP hD hS => ?_)
  obtain ⟨S_1, e_2⟩ : ∃ z : St, z = (sI S0 0 (S1.1 0)) := ⟨_, rfl⟩
  have h := h S_1 e_2
  have hP : va_P D vwCl (wFl k a S_1 ++ wFl k b S1) H := by rw [e_2]; exact hP
  have hD : va_D A (wFl k a S_1 ++ wFl k b S1) := by rw [e_2]; exact hD
  refine lv_aload_n hx hb dX2_copyFrom_8 rfl (lv_at hl 0 rfl) ?_
  refine lv_aload_n hx hb dX2_copyFrom_9 rfl (lv_at hl 1 rfl) ?_
  refine va_get (D := D) (ci := 2) (v := .int (S1.1 1)) (C := RX2) (T := TX2) (N := 6) hx hb hts in_Fl hown hK hP 5 rfl rfl 1 (by decide) ln_15 (fun _ h9 => h9) rfl dX2_copyFrom_10 ?_
  refine va_put (D := D) (ci := 2) (v := .int (S1.1 1)) (ty := .int) (C := RX2) (T := TX2) (N := 6) hx hb hts in_Fl tyX2 tyX2_ok nmX2 hown hK hP hD hS 0 rfl rfl 1 (by decide) ln_15 (fun _ h9 => h9) rfl (by decide +kernel) rfl rfl (Nat.le_of_ble_eq_true rfl) dX2_copyFrom_13 (fun H locs hP hD hS => ?_)
  obtain ⟨S_3, e_4⟩ : ∃ z : St, z = (sI S_1 1 (S1.1 1)) := ⟨_, rfl⟩
  have h := h S_3 e_4
  have hP : va_P D vwCl (wFl k a S_3 ++ wFl k b S1) H := by rw [e_4]; exact hP
  have hD : va_D A (wFl k a S_3 ++ wFl k b S1) := by rw [e_4]; exact hD
  refine lv_iconst (v := (0 : Int32)) hx hb dX2_copyFrom_16 (by decide) ?_
  refine lv_istore_n (lv' := [(2, .int (0 : Int32)), (0, .ref (a 0)), (1, .ref (b 0))]) hx hb dX2_copyFrom_17 rfl hl (by decide) rfl (fun ls hl => ?_)
  obtain ⟨n_14, h⟩ := h
  exact L_18 n_14 S_3 S1 (0 : Int32) H locs ls hP hD hS (lv_sub hl [1, 2, 0] rfl) h
/-! X2_isThere -/
def wp_X2_isThere (S0 : St) (x1 : Int32) (Q : Int32 → St → Prop) : Prop := ((x1 < 0) → (Q (0 : Int32) S0)) ∧ ((¬ x1 < 0) → ((((S0.1 0) ≤ x1) → (Q (0 : Int32) S0)) ∧ ((¬ (S0.1 0) ≤ x1) → (Q (1 : Int32) S0))))
abbrev rmX2_isThere : Room := { frames := 0, cells := 0, slots := 0, locals := 0 }
set_option maxRecDepth 100000 in
set_option maxHeartbeats 4000000 in
theorem c_X2_isThere (l : Launch) (D : va_G) (k : Nat → ClassId) (a : Nat → Nat) (S0 : St) (sz : Nat) (x1 : Int32) (Q : Int32 → St → Prop) (h : wp_X2_isThere S0 x1 Q) : Met l yX2_isThere wsX2_isThere rmX2_isThere (cPc D k (wFl k a S0) [.ref (a 0), .int x1] sz) (va_Qi (fun (r : Int32) (u : St) => Q r u) (cB D k (va_A (wFl k a S0) sz) (fun u : St => wFl k a u)) (va_A (wFl k a S0) sz)) 0 0 (va_A (wFl k a S0) sz) := by
  refine ct_entry (cc := cX2_isThere) (maxL := 2) (ret := (some .boolean)) (Rn := RX2) (Qc := fun A => (va_Qi (fun (r : Int32) (u : St) => Q r u) (cB D k A (fun u : St => wFl k a u)) A)) (by decide) rfl rfl (Nat.le_of_ble_eq_true rfl) ?_
  intro p e s m below meth c hx hb hr hlocks hml hts hown hnw hK A hA H locs hP hD hS ls hl
  have hl : lv_has ls 2 [(0, .ref (a 0)), (1, .int x1)] := hl
  have ln_9 := hts (.fieldLink RX2 9 "WithTheSameOne$Floor" "size" "I") (by decide +kernel)
  have in_Fl : ∀ w ∈ wsX20, w ∈ wsX2_isThere := fun _ h => List.mem_cons_of_mem _ (List.mem_append_right _ h)
  unfold wp_X2_isThere at h
  refine lv_iload_n hx hb dX2_isThere_0 rfl (lv_at hl 1 rfl) ?_
  refine lv_if_lt (tgt := 16) hx hb dX2_isThere_1 (by decide) (fun c_1 => ?_) (fun c_1 => ?_)
  · have h := h.1 c_1
    refine lv_iconst (v := (0 : Int32)) hx hb dX2_isThere_16 (by decide) ?_
    exact W.zret (v := (0 : Int32)) hx hb hr rfl (fun t ht hW => ⟨⟨(0 : Int32), S0, rfl, h, by rw [ht]; exact hP, va_K.moved hW.alike hK, hD⟩, hS.F ht⟩) hS.2.2 dX2_isThere_17
  · have h := h.2 c_1
    refine lv_iload_n hx hb dX2_isThere_4 rfl (lv_at hl 1 rfl) ?_
    refine lv_aload_n hx hb dX2_isThere_5 rfl (lv_at hl 0 rfl) ?_
    refine va_get (D := D) (ci := 2) (v := .int (S0.1 0)) (C := RX2) (T := TX2) (N := 6) hx hb hts in_Fl hown hK hP 0 rfl rfl 0 (by decide) ln_9 (fun _ h9 => h9) rfl dX2_isThere_6 ?_
    refine lv_icmp_ge (tgt := 16) hx hb dX2_isThere_9 (by decide) (fun c_2 => ?_) (fun c_2 => ?_)
    · have h := h.1 c_2
      refine lv_iconst (v := (0 : Int32)) hx hb dX2_isThere_16 (by decide) ?_
      exact W.zret (v := (0 : Int32)) hx hb hr rfl (fun t ht hW => ⟨⟨(0 : Int32), S0, rfl, h, by rw [ht]; exact hP, va_K.moved hW.alike hK, hD⟩, hS.F ht⟩) hS.2.2 dX2_isThere_17
    · have h := h.2 c_2
      refine lv_iconst (v := (1 : Int32)) hx hb dX2_isThere_12 (by decide) ?_
      refine lv_goto (tgt := 17) hx hb dX2_isThere_13 (by decide) ?_
      exact W.zret (v := (1 : Int32)) hx hb hr rfl (fun t ht hW => ⟨⟨(1 : Int32), S0, rfl, h, by rw [ht]; exact hP, va_K.moved hW.alike hK, hD⟩, hS.F ht⟩) hS.2.2 dX2_isThere_17
/-! X2_areTwo -/
def wp_X2_areTwo (S0 : St) (x1 : Int32) (x2 : Int32) (Q : Int32 → St → Prop) : Prop := wp_X2_isThere S0 x1 (fun r_1 u_2 => ((r_1 = 0) → (Q (0 : Int32) u_2)) ∧ ((¬ r_1 = 0) → (wp_X2_isThere u_2 x2 (fun r_4 u_5 => ((r_4 = 0) → (Q (0 : Int32) u_5)) ∧ ((¬ r_4 = 0) → (((x1 = x2) → (Q (0 : Int32) u_5)) ∧ ((¬ x1 = x2) → (Q (1 : Int32) u_5))))))))
abbrev rmX2_areTwo : Room := { frames := 1, cells := 0, slots := 0, locals := 21 }
set_option maxRecDepth 100000 in
set_option maxHeartbeats 4000000 in
theorem c_X2_areTwo (l : Launch) (D : va_G) (k : Nat → ClassId) (a : Nat → Nat) (S0 : St) (sz : Nat) (x1 : Int32) (x2 : Int32) (Q : Int32 → St → Prop) (h : wp_X2_areTwo S0 x1 x2 Q) : Met l yX2_areTwo wsX2_areTwo rmX2_areTwo (cPc D k (wFl k a S0) [.ref (a 0), .int x1, .int x2] sz) (va_Qi (fun (r : Int32) (u : St) => Q r u) (cB D k (va_A (wFl k a S0) sz) (fun u : St => wFl k a u)) (va_A (wFl k a S0) sz)) 0 0 (va_A (wFl k a S0) sz) := by
  refine ct_entry (cc := cX2_areTwo) (maxL := 3) (ret := (some .boolean)) (Rn := RX2) (Qc := fun A => (va_Qi (fun (r : Int32) (u : St) => Q r u) (cB D k A (fun u : St => wFl k a u)) A)) (by decide) rfl rfl (Nat.le_of_ble_eq_true rfl) ?_
  intro p e s m below meth c hx hb hr hlocks hml hts hown hnw hK A hA H locs hP hD hS ls hl
  have hl : lv_has ls 3 [(0, .ref (a 0)), (1, .int x1), (2, .int x2)] := hl
  unfold wp_X2_areTwo at h
  refine lv_aload_n hx hb dX2_areTwo_0 rfl (lv_at hl 0 rfl) ?_
  refine lv_iload_n hx hb dX2_areTwo_1 rfl (lv_at hl 1 rfl) ?_
  have hFc := fr_self hD hS hA
  refine gv_i (va_runV (As := [.int x1]) (rest := []) ⟨hx, hb, hml, hown, hts⟩ (c_X2_isThere l D k a S0 H.size x1 _ h) (cwV 1 hts gX2_areTwo_X2_isThere rfl rfl rfl (by decide +kernel) ⟨Nat.le_of_ble_eq_true rfl, Nat.le_of_ble_eq_true rfl⟩) (gv_preV hK hnw hP hD (ci := 2) rfl 0 rfl) rfl rfl hl.1 rfl (lv_room (Nat.le_of_ble_eq_true rfl)) dX2_areTwo_2 ⟨Nat.zero_le _, Nat.zero_le _⟩) hS hFc (fun r_1 u_2 H locs h hP1 hD1 hk1 hS => ?_)
  have hP := hP1
  have hD := hD1.weaken (fun _ _ _ z => hFc _ z)
  refine lv_if_eq (tgt := 25) hx hb dX2_areTwo_5 (by decide) (fun c_3 => ?_) (fun c_3 => ?_)
  · have h := h.1 c_3
    refine lv_iconst (v := (0 : Int32)) hx hb dX2_areTwo_25 (by decide) ?_
    exact W.zret (v := (0 : Int32)) hx hb hr rfl (fun t ht hW => ⟨⟨(0 : Int32), u_2, rfl, h, by rw [ht]; exact hP, va_K.moved hW.alike hK, hD⟩, hS.F ht⟩) hS.2.2 dX2_areTwo_26
  · have h := h.2 c_3
    refine lv_aload_n hx hb dX2_areTwo_8 rfl (lv_at hl 0 rfl) ?_
    refine lv_iload_n hx hb dX2_areTwo_9 rfl (lv_at hl 2 rfl) ?_
    have hFc := fr_self hD hS hA
    refine gv_i (va_runV (As := [.int x2]) (rest := []) ⟨hx, hb, hml, hown, hts⟩ (c_X2_isThere l D k a u_2 H.size x2 _ h) (cwV 1 hts gX2_areTwo_X2_isThere rfl rfl rfl (by decide +kernel) ⟨Nat.le_of_ble_eq_true rfl, Nat.le_of_ble_eq_true rfl⟩) (gv_preV hK hnw hP hD (ci := 2) rfl 0 rfl) rfl rfl hl.1 rfl (lv_room (Nat.le_of_ble_eq_true rfl)) dX2_areTwo_10 ⟨Nat.zero_le _, Nat.zero_le _⟩) hS hFc (fun r_4 u_5 H locs h hP1 hD1 hk1 hS => ?_)
    have hP := hP1
    have hD := hD1.weaken (fun _ _ _ z => hFc _ z)
    refine lv_if_eq (tgt := 25) hx hb dX2_areTwo_13 (by decide) (fun c_6 => ?_) (fun c_6 => ?_)
    · have h := h.1 c_6
      refine lv_iconst (v := (0 : Int32)) hx hb dX2_areTwo_25 (by decide) ?_
      exact W.zret (v := (0 : Int32)) hx hb hr rfl (fun t ht hW => ⟨⟨(0 : Int32), u_5, rfl, h, by rw [ht]; exact hP, va_K.moved hW.alike hK, hD⟩, hS.F ht⟩) hS.2.2 dX2_areTwo_26
    · have h := h.2 c_6
      refine lv_iload_n hx hb dX2_areTwo_16 rfl (lv_at hl 1 rfl) ?_
      refine lv_iload_n hx hb dX2_areTwo_17 rfl (lv_at hl 2 rfl) ?_
      refine lv_icmp_eq (tgt := 25) hx hb dX2_areTwo_18 (by decide) (fun c_7 => ?_) (fun c_7 => ?_)
      · have h := h.1 c_7
        refine lv_iconst (v := (0 : Int32)) hx hb dX2_areTwo_25 (by decide) ?_
        exact W.zret (v := (0 : Int32)) hx hb hr rfl (fun t ht hW => ⟨⟨(0 : Int32), u_5, rfl, h, by rw [ht]; exact hP, va_K.moved hW.alike hK, hD⟩, hS.F ht⟩) hS.2.2 dX2_areTwo_26
      · have h := h.2 c_7
        refine lv_iconst (v := (1 : Int32)) hx hb dX2_areTwo_21 (by decide) ?_
        refine lv_goto (tgt := 26) hx hb dX2_areTwo_22 (by decide) ?_
        exact W.zret (v := (1 : Int32)) hx hb hr rfl (fun t ht hW => ⟨⟨(1 : Int32), u_5, rfl, h, by rw [ht]; exact hP, va_K.moved hW.alike hK, hD⟩, hS.F ht⟩) hS.2.2 dX2_areTwo_26
/-! X2_haveDanced -/
def wp_X2_haveDanced (S0 : St) (x1 : Int32) (x2 : Int32) (Q : Int32 → St → Prop) : Prop := vp_in x1 8 ∧ (wp_X6_hasBit (S0.2 5 x1.toNatClampNeg) x2 (fun r_1 => bz r_1 ∧ Q r_1 S0))
abbrev rmX2_haveDanced : Room := { frames := 1, cells := 0, slots := 0, locals := 21 }
set_option maxRecDepth 100000 in
set_option maxHeartbeats 4000000 in
theorem c_X2_haveDanced (l : Launch) (D : va_G) (k : Nat → ClassId) (a : Nat → Nat) (S0 : St) (sz : Nat) (x1 : Int32) (x2 : Int32) (Q : Int32 → St → Prop) (h : wp_X2_haveDanced S0 x1 x2 Q) : Met l yX2_haveDanced wsX2_haveDanced rmX2_haveDanced (cPc D k (wFl k a S0) [.ref (a 0), .int x1, .int x2] sz) (va_Qi (fun (r : Int32) (u : St) => Q r u) (cB D k (va_A (wFl k a S0) sz) (fun u : St => wFl k a u)) (va_A (wFl k a S0) sz)) 0 0 (va_A (wFl k a S0) sz) := by
  refine ct_entry (cc := cX2_haveDanced) (maxL := 3) (ret := (some .boolean)) (Rn := RX2) (Qc := fun A => (va_Qi (fun (r : Int32) (u : St) => Q r u) (cB D k A (fun u : St => wFl k a u)) A)) (by decide) rfl rfl (Nat.le_of_ble_eq_true rfl) ?_
  intro p e s m below meth c hx hb hr hlocks hml hts hown hnw hK A hA H locs hP hD hS ls hl
  have hl : lv_has ls 3 [(0, .ref (a 0)), (1, .int x1), (2, .int x2)] := hl
  have ln_28 := hts (.fieldLink RX2 28 "WithTheSameOne$Floor" "partners" "[I") (by decide +kernel)
  have ni_X6 := hts (.initialized RX6) (by decide +kernel)
  have ns_yX6_hasBit := hts (.static yX6_hasBit) (by decide +kernel)
  have in_Fl : ∀ w ∈ wsX20, w ∈ wsX2_haveDanced := fun _ h => List.mem_cons_of_mem _ (List.mem_append_right _ h)
  unfold wp_X2_haveDanced at h
  refine lv_aload_n hx hb dX2_haveDanced_0 rfl (lv_at hl 0 rfl) ?_
  refine va_get (D := D) (ci := 2) (v := .ref (a 4)) (C := RX2) (T := TX2) (N := 6) hx hb hts in_Fl hown hK hP 0 rfl rfl 5 (by decide) ln_28 (fun _ h9 => h9) rfl dX2_haveDanced_1 ?_
  refine lv_iload_n hx hb dX2_haveDanced_4 rfl (lv_at hl 1 rfl) ?_
  refine va_iald hx hb hK hP 4 0 rfl rfl h.1 dX2_haveDanced_5 ?_
  have h := h.2
  refine lv_iload_n hx hb dX2_haveDanced_6 rfl (lv_at hl 2 rfl) ?_
  refine gs_i (va_runSN (As := [.int (S0.2 5 x1.toNatClampNeg), .int x2]) (rest := []) ⟨hx, hb, hml, hown, hts⟩ (c_X6_hasBit l (S0.2 5 x1.toNatClampNeg) x2 _ h) ⟨va_cnB 2 hts gX2_haveDanced_X6_hasBit_n46 rfl rfl rfl (hnw.1 _ (List.mem_of_getElem? (i := 6) rfl)) ni_X6 (by decide +kernel) ⟨Nat.le_of_ble_eq_true rfl, Nat.le_of_ble_eq_true rfl⟩, ns_yX6_hasBit, trivial⟩ preEq rfl rfl hl.1 rfl (lv_room (Nat.le_of_ble_eq_true rfl)) dX2_haveDanced_7 ⟨Nat.zero_le _, Nat.zero_le _⟩) (fun r_1 h => ?_)
  exact W.zret (v := r_1) hx hb hr (bz_narrow h.1) (fun t ht hW => ⟨⟨r_1, S0, rfl, h.2, by rw [ht]; exact hP, va_K.moved hW.alike hK, hD⟩, hS.F ht⟩) hS.2.2 dX2_haveDanced_10
/-! X2_isNextTo -/
def wp_X2_isNextTo (x0 : Int32) (x1 : Int32) (Q : Int32 → Prop) : Prop := (((x0 - x1) = (1 : Int32)) → (Q (1 : Int32))) ∧ ((¬ (x0 - x1) = (1 : Int32)) → (((¬ (x1 - x0) = (1 : Int32)) → (Q (0 : Int32))) ∧ (((x1 - x0) = (1 : Int32)) → (Q (1 : Int32)))))
abbrev rmX2_isNextTo : Room := { frames := 0, cells := 0, slots := 0, locals := 0 }
set_option maxRecDepth 100000 in
set_option maxHeartbeats 4000000 in
theorem c_X2_isNextTo (l : Launch) (x0 : Int32) (x1 : Int32) (Q : Int32 → Prop) (h : wp_X2_isNextTo x0 x1 Q) : Met l yX2_isNextTo wsX2_isNextTo rmX2_isNextTo (fun v _ => v = ([.int x0, .int x1] : List Value).toArray) (vp_Si Q) 0 0 (fun _ => False) := by
  refine cs_entry (cc := cX2_isNextTo) (maxL := 2) (ret := (some .boolean)) (Rn := RX2) (by decide) rfl rfl (Nat.le_of_ble_eq_true rfl) ?_
  intro p e s m below meth c hx hb hr hlocks hml hts hown ls hl
  have hl : lv_has ls 2 [(0, .int x0), (1, .int x1)] := hl
  unfold wp_X2_isNextTo at h
  refine lv_iload_n hx hb dX2_isNextTo_0 rfl (lv_at hl 0 rfl) ?_
  refine lv_iload_n hx hb dX2_isNextTo_1 rfl (lv_at hl 1 rfl) ?_
  refine lv_isub hx hb dX2_isNextTo_2 ?_
  refine lv_iconst (v := (1 : Int32)) hx hb dX2_isNextTo_3 (by decide) ?_
  refine lv_icmp_eq (tgt := 14) hx hb dX2_isNextTo_4 (by decide) (fun c_1 => ?_) (fun c_1 => ?_)
  · have h := h.1 c_1
    refine lv_iconst (v := (1 : Int32)) hx hb dX2_isNextTo_14 (by decide) ?_
    refine lv_goto (tgt := 19) hx hb dX2_isNextTo_15 (by decide) ?_
    exact W.zret (v := (1 : Int32)) hx hb hr rfl (fun t ht hW => ⟨(1 : Int32), rfl, h, ht⟩) (fun q hq => by cases hq) dX2_isNextTo_19
  · have h := h.2 c_1
    refine lv_iload_n hx hb dX2_isNextTo_7 rfl (lv_at hl 1 rfl) ?_
    refine lv_iload_n hx hb dX2_isNextTo_8 rfl (lv_at hl 0 rfl) ?_
    refine lv_isub hx hb dX2_isNextTo_9 ?_
    refine lv_iconst (v := (1 : Int32)) hx hb dX2_isNextTo_10 (by decide) ?_
    refine lv_icmp_ne (tgt := 18) hx hb dX2_isNextTo_11 (by decide) (fun c_2 => ?_) (fun c_2 => ?_)
    · have h := h.1 c_2
      refine lv_iconst (v := (0 : Int32)) hx hb dX2_isNextTo_18 (by decide) ?_
      exact W.zret (v := (0 : Int32)) hx hb hr rfl (fun t ht hW => ⟨(0 : Int32), rfl, h, ht⟩) (fun q hq => by cases hq) dX2_isNextTo_19
    · have h := h.2 c_2
      refine lv_iconst (v := (1 : Int32)) hx hb dX2_isNextTo_14 (by decide) ?_
      refine lv_goto (tgt := 19) hx hb dX2_isNextTo_15 (by decide) ?_
      exact W.zret (v := (1 : Int32)) hx hb hr rfl (fun t ht hW => ⟨(1 : Int32), rfl, h, ht⟩) (fun q hq => by cases hq) dX2_isNextTo_19
/-! X2_isWilling -/
def wp_X2_isWilling_47 (x1 : Int32) (x2 : Int32) (x3 : Int32) (Q : Int32 → St → Prop) (S0 : St) (x4 : Int32) (y0 : Int32) : Prop := vp_in x1 8 ∧ (((S0.2 2 x1.toNatClampNeg) = (1 : Int32) → (bz x4 ∧ Q x4 S0)) ∧ (¬ (S0.2 2 x1.toNatClampNeg) = (1 : Int32) → (((S0.2 2 x1.toNatClampNeg) = (2 : Int32) → (bz y0 ∧ Q y0 S0)) ∧ (¬ (S0.2 2 x1.toNatClampNeg) = (2 : Int32) → (((S0.2 2 x1.toNatClampNeg) = (4 : Int32) → (((x4 = 0) → (Q (0 : Int32) S0)) ∧ ((¬ x4 = 0) → (wp_X2_isNextTo x1 x2 (fun r_7 => ((¬ r_7 = 0) → (Q (1 : Int32) S0)) ∧ ((r_7 = 0) → (wp_X2_isNextTo x1 x3 (fun r_9 => ((r_9 = 0) → (Q (0 : Int32) S0)) ∧ ((¬ r_9 = 0) → (Q (1 : Int32) S0)))))))))) ∧ (¬ (S0.2 2 x1.toNatClampNeg) = (4 : Int32) → (((S0.2 2 x1.toNatClampNeg) = (5 : Int32) → (((y0 = 0) → (Q (0 : Int32) S0)) ∧ ((¬ y0 = 0) → (vp_in x1 8 ∧ (wp_J6_bitCount_0f7a4 (S0.2 5 x1.toNatClampNeg) (fun r_13 => ((r_13 < (3 : Int32)) → (Q (0 : Int32) S0)) ∧ ((¬ r_13 < (3 : Int32)) → (Q (1 : Int32) S0)))))))) ∧ (¬ (S0.2 2 x1.toNatClampNeg) = (5 : Int32) → (Q (1 : Int32) S0)))))))))
def wp_X2_isWilling_20 (x1 : Int32) (x2 : Int32) (x3 : Int32) (Q : Int32 → St → Prop) (S0 : St) (y0 : Int32) : Prop := vp_in x1 8 ∧ ((((S0.2 3 x1.toNatClampNeg) = x2) → (wp_X2_isWilling_47 x1 x2 x3 Q S0 y0 (0 : Int32))) ∧ ((¬ (S0.2 3 x1.toNatClampNeg) = x2) → (vp_in x1 8 ∧ ((((S0.2 3 x1.toNatClampNeg) = x3) → (wp_X2_isWilling_47 x1 x2 x3 Q S0 y0 (0 : Int32))) ∧ ((¬ (S0.2 3 x1.toNatClampNeg) = x3) → (wp_X2_isWilling_47 x1 x2 x3 Q S0 y0 (1 : Int32)))))))
def wp_X2_isWilling (S0 : St) (x1 : Int32) (x2 : Int32) (x3 : Int32) (Q : Int32 → St → Prop) : Prop := vp_in x1 8 ∧ (vp_in x1 8 ∧ ((((S0.2 3 x1.toNatClampNeg) ≤ (S0.2 4 x1.toNatClampNeg)) → (wp_X2_isWilling_20 x1 x2 x3 Q S0 (0 : Int32))) ∧ ((¬ (S0.2 3 x1.toNatClampNeg) ≤ (S0.2 4 x1.toNatClampNeg)) → (wp_X2_isWilling_20 x1 x2 x3 Q S0 (1 : Int32)))))
abbrev rmX2_isWilling : Room := { frames := 1, cells := 0, slots := 0, locals := 21 }
set_option maxRecDepth 100000 in
set_option maxHeartbeats 4000000 in
theorem c_X2_isWilling (l : Launch) (D : va_G) (k : Nat → ClassId) (a : Nat → Nat) (S0 : St) (sz : Nat) (x1 : Int32) (x2 : Int32) (x3 : Int32) (Q : Int32 → St → Prop) (h : wp_X2_isWilling S0 x1 x2 x3 Q) : Met l yX2_isWilling wsX2_isWilling rmX2_isWilling (cPc D k (wFl k a S0) [.ref (a 0), .int x1, .int x2, .int x3] sz) (va_Qi (fun (r : Int32) (u : St) => Q r u) (cB D k (va_A (wFl k a S0) sz) (fun u : St => wFl k a u)) (va_A (wFl k a S0) sz)) 0 0 (va_A (wFl k a S0) sz) := by
  refine ct_entry (cc := cX2_isWilling) (maxL := 6) (ret := (some .boolean)) (Rn := RX2) (Qc := fun A => (va_Qi (fun (r : Int32) (u : St) => Q r u) (cB D k A (fun u : St => wFl k a u)) A)) (by decide) rfl rfl (Nat.le_of_ble_eq_true rfl) ?_
  intro p e s m below meth c hx hb hr hlocks hml hts hown hnw hK A hA H locs hP hD hS ls hl
  have hl : lv_has ls 6 [(0, .ref (a 0)), (1, .int x1), (2, .int x2), (3, .int x3)] := hl
  have ln_18 := hts (.fieldLink RX2 18 "WithTheSameOne$Floor" "kind" "[I") (by decide +kernel)
  have ln_22 := hts (.fieldLink RX2 22 "WithTheSameOne$Floor" "figure" "[I") (by decide +kernel)
  have ln_25 := hts (.fieldLink RX2 25 "WithTheSameOne$Floor" "brought" "[I") (by decide +kernel)
  have ln_28 := hts (.fieldLink RX2 28 "WithTheSameOne$Floor" "partners" "[I") (by decide +kernel)
  have in_Fl : ∀ w ∈ wsX20, w ∈ wsX2_isWilling := fun _ h => List.mem_cons_of_mem _ (List.mem_append_right _ h)
  have L_47 : ∀ (S0 : St) (x4 : Int32) (y0 : Int32), ∀ (H : Heap) (locs : List Loc) (ls : Array Slot), va_P D vwCl (wFl k a S0) H → va_D A (wFl k a S0) → va_S A s.heap H locs → lv_has ls 6 [(0, .ref (a 0)), (1, .int x1), (2, .int x2), (3, .int x3), (4, .int x4)] → wp_X2_isWilling_47 x1 x2 x3 Q S0 x4 y0 → W p l e rmX2_isWilling s m ([.ref (a 0), .int x1, .int x2, .int x3] : List Value).toArray below meth c H locs 0 0 (MQ below (va_Qi (fun (r : Int32) (u : St) => Q r u) (cB D k A (fun u : St => wFl k a u)) A) ([.ref (a 0), .int x1, .int x2, .int x3] : List Value).toArray s 0 0 A) (F0 m 47 ls [.int y0]) := by
    intro S0 x4 y0 H locs ls hP hD hS hl h
    unfold wp_X2_isWilling_47 at h
    refine lv_istore (lv' := [(5, .int y0), (0, .ref (a 0)), (1, .int x1), (2, .int x2), (3, .int x3), (4, .int x4)]) hx hb dX2_isWilling_47 hl (by decide) rfl (fun ls hl => ?_)
    refine lv_aload_n hx hb dX2_isWilling_49 rfl (lv_at hl 1 rfl) ?_
    refine va_get (D := D) (ci := 2) (v := .ref (a 1)) (C := RX2) (T := TX2) (N := 6) hx hb hts in_Fl hown hK hP 0 rfl rfl 2 (by decide) ln_18 (fun _ h9 => h9) rfl dX2_isWilling_50 ?_
    refine lv_iload_n hx hb dX2_isWilling_53 rfl (lv_at hl 2 rfl) ?_
    refine va_iald hx hb hK hP 1 0 rfl rfl h.1 dX2_isWilling_54 ?_
    have h := h.2
    by_cases c_3 : (S0.2 2 x1.toNatClampNeg) = (1 : Int32)
    · have h := h.1 c_3
      refine lv_tableIn (off := 33) (tgt := 88) hx hb dX2_isWilling_55 (by rw [c_3]; decide) (by rw [c_3]; decide) (by rw [c_3]; rfl) (by decide) ?_
      refine lv_iload hx hb dX2_isWilling_88 (lv_at hl 5 rfl) ?_
      exact W.zret (v := x4) hx hb hr (bz_narrow h.1) (fun t ht hW => ⟨⟨x4, S0, rfl, h.2, by rw [ht]; exact hP, va_K.moved hW.alike hK, hD⟩, hS.F ht⟩) hS.2.2 dX2_isWilling_90
    · have h := h.2 c_3
      by_cases c_4 : (S0.2 2 x1.toNatClampNeg) = (2 : Int32)
      · have h := h.1 c_4
        refine lv_tableIn (off := 36) (tgt := 91) hx hb dX2_isWilling_55 (by rw [c_4]; decide) (by rw [c_4]; decide) (by rw [c_4]; rfl) (by decide) ?_
        refine lv_iload hx hb dX2_isWilling_91 (lv_at hl 0 rfl) ?_
        exact W.zret (v := y0) hx hb hr (bz_narrow h.1) (fun t ht hW => ⟨⟨y0, S0, rfl, h.2, by rw [ht]; exact hP, va_K.moved hW.alike hK, hD⟩, hS.F ht⟩) hS.2.2 dX2_isWilling_93
      · have h := h.2 c_4
        by_cases c_5 : (S0.2 2 x1.toNatClampNeg) = (4 : Int32)
        · have h := h.1 c_5
          refine lv_tableIn (off := 39) (tgt := 94) hx hb dX2_isWilling_55 (by rw [c_5]; decide) (by rw [c_5]; decide) (by rw [c_5]; rfl) (by decide) ?_
          refine lv_iload hx hb dX2_isWilling_94 (lv_at hl 5 rfl) ?_
          refine lv_if_eq (tgt := 119) hx hb dX2_isWilling_96 (by decide) (fun c_6 => ?_) (fun c_6 => ?_)
          · have h := h.1 c_6
            refine lv_iconst (v := (0 : Int32)) hx hb dX2_isWilling_119 (by decide) ?_
            exact W.zret (v := (0 : Int32)) hx hb hr rfl (fun t ht hW => ⟨⟨(0 : Int32), S0, rfl, h, by rw [ht]; exact hP, va_K.moved hW.alike hK, hD⟩, hS.F ht⟩) hS.2.2 dX2_isWilling_120
          · have h := h.2 c_6
            refine lv_iload_n hx hb dX2_isWilling_99 rfl (lv_at hl 2 rfl) ?_
            refine lv_iload_n hx hb dX2_isWilling_100 rfl (lv_at hl 3 rfl) ?_
            refine gs_i (va_runS (As := [.int x1, .int x2]) (rest := []) ⟨hx, hb, hml, hown, hts⟩ (c_X2_isNextTo l x1 x2 _ h) (va_cwS 2 hts gX2_isWilling_X2_isNextTo rfl rfl rfl (by decide +kernel) ⟨Nat.le_of_ble_eq_true rfl, Nat.le_of_ble_eq_true rfl⟩) preEq rfl rfl hl.1 rfl (lv_room (Nat.le_of_ble_eq_true rfl)) dX2_isWilling_101 ⟨Nat.zero_le _, Nat.zero_le _⟩) (fun r_7 h => ?_)
            refine lv_if_ne (tgt := 115) hx hb dX2_isWilling_104 (by decide) (fun c_8 => ?_) (fun c_8 => ?_)
            · have h := h.1 c_8
              refine lv_iconst (v := (1 : Int32)) hx hb dX2_isWilling_115 (by decide) ?_
              refine lv_goto (tgt := 120) hx hb dX2_isWilling_116 (by decide) ?_
              exact W.zret (v := (1 : Int32)) hx hb hr rfl (fun t ht hW => ⟨⟨(1 : Int32), S0, rfl, h, by rw [ht]; exact hP, va_K.moved hW.alike hK, hD⟩, hS.F ht⟩) hS.2.2 dX2_isWilling_120
            · have h := h.2 c_8
              refine lv_iload_n hx hb dX2_isWilling_107 rfl (lv_at hl 2 rfl) ?_
              refine lv_iload_n hx hb dX2_isWilling_108 rfl (lv_at hl 4 rfl) ?_
              refine gs_i (va_runS (As := [.int x1, .int x3]) (rest := []) ⟨hx, hb, hml, hown, hts⟩ (c_X2_isNextTo l x1 x3 _ h) (va_cwS 2 hts gX2_isWilling_X2_isNextTo rfl rfl rfl (by decide +kernel) ⟨Nat.le_of_ble_eq_true rfl, Nat.le_of_ble_eq_true rfl⟩) preEq rfl rfl hl.1 rfl (lv_room (Nat.le_of_ble_eq_true rfl)) dX2_isWilling_109 ⟨Nat.zero_le _, Nat.zero_le _⟩) (fun r_9 h => ?_)
              refine lv_if_eq (tgt := 119) hx hb dX2_isWilling_112 (by decide) (fun c_10 => ?_) (fun c_10 => ?_)
              · have h := h.1 c_10
                refine lv_iconst (v := (0 : Int32)) hx hb dX2_isWilling_119 (by decide) ?_
                exact W.zret (v := (0 : Int32)) hx hb hr rfl (fun t ht hW => ⟨⟨(0 : Int32), S0, rfl, h, by rw [ht]; exact hP, va_K.moved hW.alike hK, hD⟩, hS.F ht⟩) hS.2.2 dX2_isWilling_120
              · have h := h.2 c_10
                refine lv_iconst (v := (1 : Int32)) hx hb dX2_isWilling_115 (by decide) ?_
                refine lv_goto (tgt := 120) hx hb dX2_isWilling_116 (by decide) ?_
                exact W.zret (v := (1 : Int32)) hx hb hr rfl (fun t ht hW => ⟨⟨(1 : Int32), S0, rfl, h, by rw [ht]; exact hP, va_K.moved hW.alike hK, hD⟩, hS.F ht⟩) hS.2.2 dX2_isWilling_120
        · have h := h.2 c_5
          by_cases c_11 : (S0.2 2 x1.toNatClampNeg) = (5 : Int32)
          · have h := h.1 c_11
            refine lv_tableIn (off := 66) (tgt := 121) hx hb dX2_isWilling_55 (by rw [c_11]; decide) (by rw [c_11]; decide) (by rw [c_11]; rfl) (by decide) ?_
            refine lv_iload hx hb dX2_isWilling_121 (lv_at hl 0 rfl) ?_
            refine lv_if_eq (tgt := 143) hx hb dX2_isWilling_123 (by decide) (fun c_12 => ?_) (fun c_12 => ?_)
            · have h := h.1 c_12
              refine lv_iconst (v := (0 : Int32)) hx hb dX2_isWilling_143 (by decide) ?_
              exact W.zret (v := (0 : Int32)) hx hb hr rfl (fun t ht hW => ⟨⟨(0 : Int32), S0, rfl, h, by rw [ht]; exact hP, va_K.moved hW.alike hK, hD⟩, hS.F ht⟩) hS.2.2 dX2_isWilling_144
            · have h := h.2 c_12
              refine lv_aload_n hx hb dX2_isWilling_126 rfl (lv_at hl 1 rfl) ?_
              refine va_get (D := D) (ci := 2) (v := .ref (a 4)) (C := RX2) (T := TX2) (N := 6) hx hb hts in_Fl hown hK hP 0 rfl rfl 5 (by decide) ln_28 (fun _ h9 => h9) rfl dX2_isWilling_127 ?_
              refine lv_iload_n hx hb dX2_isWilling_130 rfl (lv_at hl 2 rfl) ?_
              refine va_iald hx hb hK hP 4 0 rfl rfl h.1 dX2_isWilling_131 ?_
              have h := h.2
              refine gs_i (va_runS (As := [.int (S0.2 5 x1.toNatClampNeg)]) (rest := []) ⟨hx, hb, hml, hown, hts⟩ (c_J6_bitCount_0f7a4 l (S0.2 5 x1.toNatClampNeg) _ h) (va_cwS 1 hts gX2_isWilling_J6_bitCount_0f7a4 rfl rfl rfl (by decide +kernel) ⟨Nat.le_of_ble_eq_true rfl, Nat.le_of_ble_eq_true rfl⟩) preEq rfl rfl hl.1 rfl (lv_room (Nat.le_of_ble_eq_true rfl)) dX2_isWilling_132 ⟨Nat.zero_le _, Nat.zero_le _⟩) (fun r_13 h => ?_)
              refine lv_iconst (v := (3 : Int32)) hx hb dX2_isWilling_135 (by decide) ?_
              refine lv_icmp_lt (tgt := 143) hx hb dX2_isWilling_136 (by decide) (fun c_14 => ?_) (fun c_14 => ?_)
              · have h := h.1 c_14
                refine lv_iconst (v := (0 : Int32)) hx hb dX2_isWilling_143 (by decide) ?_
                exact W.zret (v := (0 : Int32)) hx hb hr rfl (fun t ht hW => ⟨⟨(0 : Int32), S0, rfl, h, by rw [ht]; exact hP, va_K.moved hW.alike hK, hD⟩, hS.F ht⟩) hS.2.2 dX2_isWilling_144
              · have h := h.2 c_14
                refine lv_iconst (v := (1 : Int32)) hx hb dX2_isWilling_139 (by decide) ?_
                refine lv_goto (tgt := 144) hx hb dX2_isWilling_140 (by decide) ?_
                exact W.zret (v := (1 : Int32)) hx hb hr rfl (fun t ht hW => ⟨⟨(1 : Int32), S0, rfl, h, by rw [ht]; exact hP, va_K.moved hW.alike hK, hD⟩, hS.F ht⟩) hS.2.2 dX2_isWilling_144
          · have h := h.2 c_11
            refine lv_tableD (tgt := 145) hx hb dX2_isWilling_55 (by
      have n0 := lv_neT (k := (1 : Int32)) (a := 1) c_3 (by decide)
      have n1 := lv_neT (k := (2 : Int32)) (a := 2) c_4 (by decide)
      have n2 := lv_neT (k := (4 : Int32)) (a := 4) c_5 (by decide)
      have n3 := lv_neT (k := (5 : Int32)) (a := 5) c_11 (by decide)
      rcases (show (S0.2 2 x1.toNatClampNeg).toInt < 1 ∨ 5 < (S0.2 2 x1.toNatClampNeg).toInt ∨ (S0.2 2 x1.toNatClampNeg).toInt = 3 by omega) with q | q | q
      · exact Or.inl q
      · exact Or.inr (Or.inl q)
      · exact Or.inr (Or.inr (by rw [q]; rfl))) (by decide) ?_
            refine lv_iconst (v := (1 : Int32)) hx hb dX2_isWilling_145 (by decide) ?_
            exact W.zret (v := (1 : Int32)) hx hb hr rfl (fun t ht hW => ⟨⟨(1 : Int32), S0, rfl, h, by rw [ht]; exact hP, va_K.moved hW.alike hK, hD⟩, hS.F ht⟩) hS.2.2 dX2_isWilling_146
  have L_20 : ∀ (S0 : St) (y0 : Int32), ∀ (H : Heap) (locs : List Loc) (ls : Array Slot), va_P D vwCl (wFl k a S0) H → va_D A (wFl k a S0) → va_S A s.heap H locs → lv_has ls 6 [(0, .ref (a 0)), (1, .int x1), (2, .int x2), (3, .int x3)] → wp_X2_isWilling_20 x1 x2 x3 Q S0 y0 → W p l e rmX2_isWilling s m ([.ref (a 0), .int x1, .int x2, .int x3] : List Value).toArray below meth c H locs 0 0 (MQ below (va_Qi (fun (r : Int32) (u : St) => Q r u) (cB D k A (fun u : St => wFl k a u)) A) ([.ref (a 0), .int x1, .int x2, .int x3] : List Value).toArray s 0 0 A) (F0 m 20 ls [.int y0]) := by
    intro S0 y0 H locs ls hP hD hS hl h
    unfold wp_X2_isWilling_20 at h
    refine lv_istore (lv' := [(4, .int y0), (0, .ref (a 0)), (1, .int x1), (2, .int x2), (3, .int x3)]) hx hb dX2_isWilling_20 hl (by decide) rfl (fun ls hl => ?_)
    refine lv_aload_n hx hb dX2_isWilling_22 rfl (lv_at hl 1 rfl) ?_
    refine va_get (D := D) (ci := 2) (v := .ref (a 2)) (C := RX2) (T := TX2) (N := 6) hx hb hts in_Fl hown hK hP 0 rfl rfl 3 (by decide) ln_22 (fun _ h9 => h9) rfl dX2_isWilling_23 ?_
    refine lv_iload_n hx hb dX2_isWilling_26 rfl (lv_at hl 2 rfl) ?_
    refine va_iald hx hb hK hP 2 0 rfl rfl h.1 dX2_isWilling_27 ?_
    have h := h.2
    refine lv_iload_n hx hb dX2_isWilling_28 rfl (lv_at hl 3 rfl) ?_
    refine lv_icmp_eq (tgt := 46) hx hb dX2_isWilling_29 (by decide) (fun c_2 => ?_) (fun c_2 => ?_)
    · have h := h.1 c_2
      refine lv_iconst (v := (0 : Int32)) hx hb dX2_isWilling_46 (by decide) ?_
      exact L_47 S0 y0 (0 : Int32) H locs ls hP hD hS (lv_sub hl [1, 2, 3, 4, 0] rfl) h
    · have h := h.2 c_2
      refine lv_aload_n hx hb dX2_isWilling_32 rfl (lv_at hl 1 rfl) ?_
      refine va_get (D := D) (ci := 2) (v := .ref (a 2)) (C := RX2) (T := TX2) (N := 6) hx hb hts in_Fl hown hK hP 0 rfl rfl 3 (by decide) ln_22 (fun _ h9 => h9) rfl dX2_isWilling_33 ?_
      refine lv_iload_n hx hb dX2_isWilling_36 rfl (lv_at hl 2 rfl) ?_
      refine va_iald hx hb hK hP 2 0 rfl rfl h.1 dX2_isWilling_37 ?_
      have h := h.2
      refine lv_iload_n hx hb dX2_isWilling_38 rfl (lv_at hl 4 rfl) ?_
      refine lv_icmp_eq (tgt := 46) hx hb dX2_isWilling_39 (by decide) (fun c_15 => ?_) (fun c_15 => ?_)
      · have h := h.1 c_15
        refine lv_iconst (v := (0 : Int32)) hx hb dX2_isWilling_46 (by decide) ?_
        exact L_47 S0 y0 (0 : Int32) H locs ls hP hD hS (lv_sub hl [1, 2, 3, 4, 0] rfl) h
      · have h := h.2 c_15
        refine lv_iconst (v := (1 : Int32)) hx hb dX2_isWilling_42 (by decide) ?_
        refine lv_goto (tgt := 47) hx hb dX2_isWilling_43 (by decide) ?_
        exact L_47 S0 y0 (1 : Int32) H locs ls hP hD hS (lv_sub hl [1, 2, 3, 4, 0] rfl) h
  unfold wp_X2_isWilling at h
  refine lv_aload_n hx hb dX2_isWilling_0 rfl (lv_at hl 0 rfl) ?_
  refine va_get (D := D) (ci := 2) (v := .ref (a 3)) (C := RX2) (T := TX2) (N := 6) hx hb hts in_Fl hown hK hP 0 rfl rfl 4 (by decide) ln_25 (fun _ h9 => h9) rfl dX2_isWilling_1 ?_
  refine lv_iload_n hx hb dX2_isWilling_4 rfl (lv_at hl 1 rfl) ?_
  refine va_iald hx hb hK hP 3 0 rfl rfl h.1 dX2_isWilling_5 ?_
  have h := h.2
  refine lv_aload_n hx hb dX2_isWilling_6 rfl (lv_at hl 0 rfl) ?_
  refine va_get (D := D) (ci := 2) (v := .ref (a 2)) (C := RX2) (T := TX2) (N := 6) hx hb hts in_Fl hown hK hP 0 rfl rfl 3 (by decide) ln_22 (fun _ h9 => h9) rfl dX2_isWilling_7 ?_
  refine lv_iload_n hx hb dX2_isWilling_10 rfl (lv_at hl 1 rfl) ?_
  refine va_iald hx hb hK hP 2 0 rfl rfl h.1 dX2_isWilling_11 ?_
  have h := h.2
  refine lv_icmp_ge (tgt := 19) hx hb dX2_isWilling_12 (by decide) (fun c_1 => ?_) (fun c_1 => ?_)
  · have h := h.1 c_1
    refine lv_iconst (v := (0 : Int32)) hx hb dX2_isWilling_19 (by decide) ?_
    exact L_20 S0 (0 : Int32) H locs ls hP hD hS (lv_sub hl [0, 1, 2, 3] rfl) h
  · have h := h.2 c_1
    refine lv_iconst (v := (1 : Int32)) hx hb dX2_isWilling_15 (by decide) ?_
    refine lv_goto (tgt := 20) hx hb dX2_isWilling_16 (by decide) ?_
    exact L_20 S0 (1 : Int32) H locs ls hP hD hS (lv_sub hl [0, 1, 2, 3] rfl) h
/-! X2_whoBring -/
def wp_X2_whoBring_42 (x1 : Int32) (x2 : Int32) (Q : Int32 → St → Prop) : Nat → St → Int32 → Int32 → Int32 → Int32 → Prop
  | 0, _, _, _, _, _ => False
  | n + 1, S0, x3, x4, x5, x6 => ((x4 ≤ x6) → (Q x5 S0)) ∧ ((¬ x4 ≤ x6) → (wp_X6_hasBit x3 x6 (fun r_5 => ((r_5 = 0) → (wp_X2_whoBring_42 x1 x2 Q n S0 x3 x4 x5 (x6 + 1))) ∧ ((¬ r_5 = 0) → (wp_X2_isWilling S0 x6 x1 x2 (fun r_7 u_8 => ((r_7 = 0) → (wp_X2_whoBring_42 x1 x2 Q n u_8 x3 x4 x5 (x6 + 1))) ∧ ((¬ r_7 = 0) → (wp_X2_whoBring_42 x1 x2 Q n u_8 x3 x4 (x5 ||| ((1 : Int32) <<< (x6 &&& 31))) (x6 + 1)))))))))
def wp_X2_whoBring (S0 : St) (x1 : Int32) (x2 : Int32) (Q : Int32 → St → Prop) : Prop := vp_in x1 8 ∧ (vp_in x2 8 ∧ (∀ z_1 : Int32, z_1 = ((S0.2 5 x1.toNatClampNeg) &&& (S0.2 5 x2.toNatClampNeg)) → (((¬ (S0.1 1) = (2 : Int32)) → (∃ i, wp_X2_whoBring_42 x1 x2 Q i S0 z_1 (S0.1 0) (0 : Int32) (0 : Int32))) ∧ (((S0.1 1) = (2 : Int32)) → (∃ i, wp_X2_whoBring_42 x1 x2 Q i S0 z_1 (if x2 < x1 then x2 else x1) (0 : Int32) (0 : Int32))))))
abbrev rmX2_whoBring : Room := { frames := 2, cells := 0, slots := 0, locals := 46 }
set_option maxRecDepth 100000 in
set_option maxHeartbeats 4000000 in
theorem c_X2_whoBring (l : Launch) (D : va_G) (k : Nat → ClassId) (a : Nat → Nat) (S0 : St) (sz : Nat) (x1 : Int32) (x2 : Int32) (Q : Int32 → St → Prop) (h : wp_X2_whoBring S0 x1 x2 Q) : Met l yX2_whoBring wsX2_whoBring rmX2_whoBring (cPc D k (wFl k a S0) [.ref (a 0), .int x1, .int x2] sz) (va_Qi (fun (r : Int32) (u : St) => Q r u) (cB D k (va_A (wFl k a S0) sz) (fun u : St => wFl k a u)) (va_A (wFl k a S0) sz)) 0 0 (va_A (wFl k a S0) sz) := by
  refine ct_entry (cc := cX2_whoBring) (maxL := 7) (ret := (some .int)) (Rn := RX2) (Qc := fun A => (va_Qi (fun (r : Int32) (u : St) => Q r u) (cB D k A (fun u : St => wFl k a u)) A)) (by decide) rfl rfl (Nat.le_of_ble_eq_true rfl) ?_
  intro p e s m below meth c hx hb hr hlocks hml hts hown hnw hK A hA H locs hP hD hS ls hl
  have hl : lv_has ls 7 [(0, .ref (a 0)), (1, .int x1), (2, .int x2)] := hl
  have lm_58 := hts (.methodLink RX2 58 Lib.Math.min.name) (by decide +kernel)
  have ln_15 := hts (.fieldLink RX2 15 "WithTheSameOne$Floor" "law" "I") (by decide +kernel)
  have ln_28 := hts (.fieldLink RX2 28 "WithTheSameOne$Floor" "partners" "[I") (by decide +kernel)
  have ln_9 := hts (.fieldLink RX2 9 "WithTheSameOne$Floor" "size" "I") (by decide +kernel)
  have mc_min := hts (.code Lib.Math.min.name Lib.Math.min.code 2 (some .int)) (by decide +kernel)
  have mi_min := hts (.initialized "java/lang/Math") (by decide +kernel)
  have ms_min := hts (.static Lib.Math.min.name) (by decide +kernel)
  have ni_X6 := hts (.initialized RX6) (by decide +kernel)
  have ns_yX6_hasBit := hts (.static yX6_hasBit) (by decide +kernel)
  have in_Fl : ∀ w ∈ wsX20, w ∈ wsX2_whoBring := fun _ h => List.mem_cons_of_mem _ (List.mem_append_right _ h)
  have L_42 : ∀ (n : Nat), ∀ (S0 : St) (x3 : Int32) (x4 : Int32) (x5 : Int32) (x6 : Int32), ∀ (H : Heap) (locs : List Loc) (ls : Array Slot), va_P D vwCl (wFl k a S0) H → va_D A (wFl k a S0) → va_S A s.heap H locs → lv_has ls 7 [(0, .ref (a 0)), (1, .int x1), (2, .int x2), (3, .int x3), (4, .int x4), (5, .int x5), (6, .int x6)] → wp_X2_whoBring_42 x1 x2 Q n S0 x3 x4 x5 x6 → W p l e rmX2_whoBring s m ([.ref (a 0), .int x1, .int x2] : List Value).toArray below meth c H locs 0 0 (MQ below (va_Qi (fun (r : Int32) (u : St) => Q r u) (cB D k A (fun u : St => wFl k a u)) A) ([.ref (a 0), .int x1, .int x2] : List Value).toArray s 0 0 A) (F0 m 42 ls []) := by
    intro n
    induction n with
    | zero => intro S0 x3 x4 x5 x6 H locs ls hP hD hS hl h; exact absurd h (by unfold wp_X2_whoBring_42; exact id)
    | succ n ih =>
      intro S0 x3 x4 x5 x6 H locs ls hP hD hS hl h
      unfold wp_X2_whoBring_42 at h
      refine lv_iload hx hb dX2_whoBring_42 (lv_at hl 6 rfl) ?_
      refine lv_iload hx hb dX2_whoBring_44 (lv_at hl 4 rfl) ?_
      refine lv_icmp_ge (tgt := 84) hx hb dX2_whoBring_46 (by decide) (fun c_4 => ?_) (fun c_4 => ?_)
      · have h := h.1 c_4
        refine lv_iload hx hb dX2_whoBring_84 (lv_at hl 5 rfl) ?_
        exact W.iret (v := x5) hx hb hr (fun t ht hW => ⟨⟨x5, S0, rfl, h, by rw [ht]; exact hP, va_K.moved hW.alike hK, hD⟩, hS.F ht⟩) hS.2.2 dX2_whoBring_86
      · have h := h.2 c_4
        refine lv_iload_n hx hb dX2_whoBring_49 rfl (lv_at hl 3 rfl) ?_
        refine lv_iload hx hb dX2_whoBring_50 (lv_at hl 6 rfl) ?_
        refine gs_i (va_runSN (As := [.int x3, .int x6]) (rest := []) ⟨hx, hb, hml, hown, hts⟩ (c_X6_hasBit l x3 x6 _ h) ⟨va_cnB 2 hts gX2_whoBring_X6_hasBit_n46 rfl rfl rfl (hnw.1 _ (List.mem_of_getElem? (i := 6) rfl)) ni_X6 (by decide +kernel) ⟨Nat.le_of_ble_eq_true rfl, Nat.le_of_ble_eq_true rfl⟩, ns_yX6_hasBit, trivial⟩ preEq rfl rfl hl.1 rfl (lv_room (Nat.le_of_ble_eq_true rfl)) dX2_whoBring_52 ⟨Nat.zero_le _, Nat.zero_le _⟩) (fun r_5 h => ?_)
        refine lv_if_eq (tgt := 78) hx hb dX2_whoBring_55 (by decide) (fun c_6 => ?_) (fun c_6 => ?_)
        · have h := h.1 c_6
          refine lv_iinc (v := (x6 + 1)) (lv' := [(6, .int (x6 + 1)), (0, .ref (a 0)), (1, .int x1), (2, .int x2), (3, .int x3), (4, .int x4), (5, .int x5)]) hx hb dX2_whoBring_78 hl (k := 6) rfl rfl (by decide) rfl (fun ls hl => ?_)
          refine lv_goto (tgt := 42) hx hb dX2_whoBring_81 (by decide) ?_
          exact ih S0 x3 x4 x5 (x6 + 1) H locs ls hP hD hS (lv_sub hl [1, 2, 3, 4, 5, 6, 0] rfl) h
        · have h := h.2 c_6
          refine lv_aload_n hx hb dX2_whoBring_58 rfl (lv_at hl 0 rfl) ?_
          refine lv_iload hx hb dX2_whoBring_59 (lv_at hl 6 rfl) ?_
          refine lv_iload_n hx hb dX2_whoBring_61 rfl (lv_at hl 1 rfl) ?_
          refine lv_iload_n hx hb dX2_whoBring_62 rfl (lv_at hl 2 rfl) ?_
          have hFc := fr_self hD hS hA
          refine gv_i (va_runV (As := [.int x6, .int x1, .int x2]) (rest := []) ⟨hx, hb, hml, hown, hts⟩ (c_X2_isWilling l D k a S0 H.size x6 x1 x2 _ h) (cwV 3 hts gX2_whoBring_X2_isWilling rfl rfl rfl (by decide +kernel) ⟨Nat.le_of_ble_eq_true rfl, Nat.le_of_ble_eq_true rfl⟩) (gv_preV hK hnw hP hD (ci := 2) rfl 0 rfl) rfl rfl hl.1 rfl (lv_room (Nat.le_of_ble_eq_true rfl)) dX2_whoBring_63 ⟨Nat.zero_le _, Nat.zero_le _⟩) hS hFc (fun r_7 u_8 H locs h hP1 hD1 hk1 hS => ?_)
          have hP := hP1
          have hD := hD1.weaken (fun _ _ _ z => hFc _ z)
          refine lv_if_eq (tgt := 78) hx hb dX2_whoBring_66 (by decide) (fun c_9 => ?_) (fun c_9 => ?_)
          · have h := h.1 c_9
            refine lv_iinc (v := (x6 + 1)) (lv' := [(6, .int (x6 + 1)), (0, .ref (a 0)), (1, .int x1), (2, .int x2), (3, .int x3), (4, .int x4), (5, .int x5)]) hx hb dX2_whoBring_78 hl (k := 6) rfl rfl (by decide) rfl (fun ls hl => ?_)
            refine lv_goto (tgt := 42) hx hb dX2_whoBring_81 (by decide) ?_
            exact ih u_8 x3 x4 x5 (x6 + 1) H locs ls hP hD hS (lv_sub hl [1, 2, 3, 4, 5, 6, 0] rfl) h
          · have h := h.2 c_9
            refine lv_iload hx hb dX2_whoBring_69 (lv_at hl 5 rfl) ?_
            refine lv_iconst (v := (1 : Int32)) hx hb dX2_whoBring_71 (by decide) ?_
            refine lv_iload hx hb dX2_whoBring_72 (lv_at hl 6 rfl) ?_
            refine lv_ishl hx hb dX2_whoBring_74 ?_
            refine lv_ior hx hb dX2_whoBring_75 ?_
            refine lv_istore (lv' := [(5, .int (x5 ||| ((1 : Int32) <<< (x6 &&& 31)))), (0, .ref (a 0)), (1, .int x1), (2, .int x2), (3, .int x3), (4, .int x4), (6, .int x6)]) hx hb dX2_whoBring_76 hl (by decide) rfl (fun ls hl => ?_)
            refine lv_iinc (v := (x6 + 1)) (lv' := [(6, .int (x6 + 1)), (5, .int (x5 ||| ((1 : Int32) <<< (x6 &&& 31)))), (0, .ref (a 0)), (1, .int x1), (2, .int x2), (3, .int x3), (4, .int x4)]) hx hb dX2_whoBring_78 hl (k := 6) rfl rfl (by decide) rfl (fun ls hl => ?_)
            refine lv_goto (tgt := 42) hx hb dX2_whoBring_81 (by decide) ?_
            exact ih u_8 x3 x4 (x5 ||| ((1 : Int32) <<< (x6 &&& 31))) (x6 + 1) H locs ls hP hD hS (lv_sub hl [2, 3, 4, 5, 6, 1, 0] rfl) h
  unfold wp_X2_whoBring at h
  refine lv_aload_n hx hb dX2_whoBring_0 rfl (lv_at hl 0 rfl) ?_
  refine va_get (D := D) (ci := 2) (v := .ref (a 4)) (C := RX2) (T := TX2) (N := 6) hx hb hts in_Fl hown hK hP 0 rfl rfl 5 (by decide) ln_28 (fun _ h9 => h9) rfl dX2_whoBring_1 ?_
  refine lv_iload_n hx hb dX2_whoBring_4 rfl (lv_at hl 1 rfl) ?_
  refine va_iald hx hb hK hP 4 0 rfl rfl h.1 dX2_whoBring_5 ?_
  have h := h.2
  refine lv_aload_n hx hb dX2_whoBring_6 rfl (lv_at hl 0 rfl) ?_
  refine va_get (D := D) (ci := 2) (v := .ref (a 4)) (C := RX2) (T := TX2) (N := 6) hx hb hts in_Fl hown hK hP 0 rfl rfl 5 (by decide) ln_28 (fun _ h9 => h9) rfl dX2_whoBring_7 ?_
  refine lv_iload_n hx hb dX2_whoBring_10 rfl (lv_at hl 2 rfl) ?_
  refine va_iald hx hb hK hP 4 0 rfl rfl h.1 dX2_whoBring_11 ?_
  have h := h.2
  refine lv_iand hx hb dX2_whoBring_12 ?_
  refine lv_topi (fun z_1 e_2 => ?_)
  have h := h z_1 e_2
  refine lv_istore_n (lv' := [(3, .int z_1), (0, .ref (a 0)), (1, .int x1), (2, .int x2)]) hx hb dX2_whoBring_13 rfl hl (by decide) rfl (fun ls hl => ?_)
  refine lv_aload_n hx hb dX2_whoBring_14 rfl (lv_at hl 1 rfl) ?_
  refine va_get (D := D) (ci := 2) (v := .int (S0.1 1)) (C := RX2) (T := TX2) (N := 6) hx hb hts in_Fl hown hK hP 0 rfl rfl 1 (by decide) ln_15 (fun _ h9 => h9) rfl dX2_whoBring_15 ?_
  refine lv_iconst (v := (2 : Int32)) hx hb dX2_whoBring_18 (by decide) ?_
  refine lv_icmp_ne (tgt := 30) hx hb dX2_whoBring_19 (by decide) (fun c_3 => ?_) (fun c_3 => ?_)
  · have h := h.1 c_3
    refine lv_aload_n hx hb dX2_whoBring_30 rfl (lv_at hl 1 rfl) ?_
    refine va_get (D := D) (ci := 2) (v := .int (S0.1 0)) (C := RX2) (T := TX2) (N := 6) hx hb hts in_Fl hown hK hP 0 rfl rfl 0 (by decide) ln_9 (fun _ h9 => h9) rfl dX2_whoBring_31 ?_
    refine lv_istore (lv' := [(4, .int (S0.1 0)), (3, .int z_1), (0, .ref (a 0)), (1, .int x1), (2, .int x2)]) hx hb dX2_whoBring_34 hl (by decide) rfl (fun ls hl => ?_)
    refine lv_iconst (v := (0 : Int32)) hx hb dX2_whoBring_36 (by decide) ?_
    refine lv_istore (lv' := [(5, .int (0 : Int32)), (4, .int (S0.1 0)), (3, .int z_1), (0, .ref (a 0)), (1, .int x1), (2, .int x2)]) hx hb dX2_whoBring_37 hl (by decide) rfl (fun ls hl => ?_)
    refine lv_iconst (v := (0 : Int32)) hx hb dX2_whoBring_39 (by decide) ?_
    refine lv_istore (lv' := [(6, .int (0 : Int32)), (5, .int (0 : Int32)), (4, .int (S0.1 0)), (3, .int z_1), (0, .ref (a 0)), (1, .int x1), (2, .int x2)]) hx hb dX2_whoBring_40 hl (by decide) rfl (fun ls hl => ?_)
    obtain ⟨n_10, h⟩ := h
    exact L_42 n_10 S0 z_1 (S0.1 0) (0 : Int32) (0 : Int32) H locs ls hP hD hS (lv_sub hl [4, 5, 6, 3, 2, 1, 0] rfl) h
  · have h := h.2 c_3
    refine lv_iload_n hx hb dX2_whoBring_22 rfl (lv_at hl 2 rfl) ?_
    refine lv_iload_n hx hb dX2_whoBring_23 rfl (lv_at hl 3 rfl) ?_
    refine va_mmin hx hb (hml.trans hl.1.symm) hown lm_58 ms_min mi_min mc_min (Nat.le_of_ble_eq_true rfl) (Nat.le_of_ble_eq_true rfl) (Nat.zero_le _) (Nat.zero_le _) dX2_whoBring_24 ?_
    refine lv_goto (tgt := 34) hx hb dX2_whoBring_27 (by decide) ?_
    refine lv_istore (lv' := [(4, .int (if x2 < x1 then x2 else x1)), (3, .int z_1), (0, .ref (a 0)), (1, .int x1), (2, .int x2)]) hx hb dX2_whoBring_34 hl (by decide) rfl (fun ls hl => ?_)
    refine lv_iconst (v := (0 : Int32)) hx hb dX2_whoBring_36 (by decide) ?_
    refine lv_istore (lv' := [(5, .int (0 : Int32)), (4, .int (if x2 < x1 then x2 else x1)), (3, .int z_1), (0, .ref (a 0)), (1, .int x1), (2, .int x2)]) hx hb dX2_whoBring_37 hl (by decide) rfl (fun ls hl => ?_)
    refine lv_iconst (v := (0 : Int32)) hx hb dX2_whoBring_39 (by decide) ?_
    refine lv_istore (lv' := [(6, .int (0 : Int32)), (5, .int (0 : Int32)), (4, .int (if x2 < x1 then x2 else x1)), (3, .int z_1), (0, .ref (a 0)), (1, .int x1), (2, .int x2)]) hx hb dX2_whoBring_40 hl (by decide) rfl (fun ls hl => ?_)
    obtain ⟨n_11, h⟩ := h
    exact L_42 n_11 S0 z_1 (if x2 < x1 then x2 else x1) (0 : Int32) (0 : Int32) H locs ls hP hD hS (lv_sub hl [4, 5, 6, 3, 2, 1, 0] rfl) h
/-! X2_waysToDance -/
def wp_X2_waysToDance_46 (x1 : Int32) (x2 : Int32) (Q : Int32 → St → Prop) (S0 : St) (x3 : Int32) (y0 : Int32) : Prop := wp_J6_bitCount_0f7a4 x3 (fun r_10 => ((r_10 < y0) → (Q (0 : Int32) S0)) ∧ ((¬ r_10 < y0) → (Q x3 S0)))
def wp_X2_waysToDance (S0 : St) (x1 : Int32) (x2 : Int32) (Q : Int32 → St → Prop) : Prop := wp_X2_haveDanced S0 x1 x2 (fun r_1 u_2 => ((r_1 = 0) → (wp_X2_whoBring u_2 x1 x2 (fun r_4 u_5 => wp_X2_areCousinsOfOneFigure u_5 x1 x2 (fun r_6 u_7 => ((r_6 = 0) → (((¬ (u_7.1 1) = (1 : Int32)) → (wp_X2_waysToDance_46 x1 x2 Q u_7 r_4 (1 : Int32))) ∧ (((u_7.1 1) = (1 : Int32)) → (wp_X2_waysToDance_46 x1 x2 Q u_7 r_4 (2 : Int32))))) ∧ ((¬ r_6 = 0) → (Q (r_4 ||| (512 : Int32)) u_7)))))) ∧ ((¬ r_1 = 0) → (Q (0 : Int32) u_2)))
abbrev rmX2_waysToDance : Room := { frames := 3, cells := 0, slots := 0, locals := 72 }
set_option maxRecDepth 100000 in
set_option maxHeartbeats 4000000 in
theorem c_X2_waysToDance (l : Launch) (D : va_G) (k : Nat → ClassId) (a : Nat → Nat) (S0 : St) (sz : Nat) (x1 : Int32) (x2 : Int32) (Q : Int32 → St → Prop) (h : wp_X2_waysToDance S0 x1 x2 Q) : Met l yX2_waysToDance wsX2_waysToDance rmX2_waysToDance (cPc D k (wFl k a S0) [.ref (a 0), .int x1, .int x2] sz) (va_Qi (fun (r : Int32) (u : St) => Q r u) (cB D k (va_A (wFl k a S0) sz) (fun u : St => wFl k a u)) (va_A (wFl k a S0) sz)) 0 0 (va_A (wFl k a S0) sz) := by
  refine ct_entry (cc := cX2_waysToDance) (maxL := 5) (ret := (some .int)) (Rn := RX2) (Qc := fun A => (va_Qi (fun (r : Int32) (u : St) => Q r u) (cB D k A (fun u : St => wFl k a u)) A)) (by decide) rfl rfl (Nat.le_of_ble_eq_true rfl) ?_
  intro p e s m below meth c hx hb hr hlocks hml hts hown hnw hK A hA H locs hP hD hS ls hl
  have hl : lv_has ls 5 [(0, .ref (a 0)), (1, .int x1), (2, .int x2)] := hl
  have ln_15 := hts (.fieldLink RX2 15 "WithTheSameOne$Floor" "law" "I") (by decide +kernel)
  have in_Fl : ∀ w ∈ wsX20, w ∈ wsX2_waysToDance := fun _ h => List.mem_cons_of_mem _ (List.mem_append_right _ h)
  have L_46 : ∀ (S0 : St) (x3 : Int32) (y0 : Int32), ∀ (H : Heap) (locs : List Loc) (ls : Array Slot), va_P D vwCl (wFl k a S0) H → va_D A (wFl k a S0) → va_S A s.heap H locs → lv_has ls 5 [(3, .int x3)] → wp_X2_waysToDance_46 x1 x2 Q S0 x3 y0 → W p l e rmX2_waysToDance s m ([.ref (a 0), .int x1, .int x2] : List Value).toArray below meth c H locs 0 0 (MQ below (va_Qi (fun (r : Int32) (u : St) => Q r u) (cB D k A (fun u : St => wFl k a u)) A) ([.ref (a 0), .int x1, .int x2] : List Value).toArray s 0 0 A) (F0 m 46 ls [.int y0]) := by
    intro S0 x3 y0 H locs ls hP hD hS hl h
    unfold wp_X2_waysToDance_46 at h
    refine lv_istore (lv' := [(4, .int y0), (3, .int x3)]) hx hb dX2_waysToDance_46 hl (by decide) rfl (fun ls hl => ?_)
    refine lv_iload_n hx hb dX2_waysToDance_48 rfl (lv_at hl 1 rfl) ?_
    refine gs_i (va_runS (As := [.int x3]) (rest := []) ⟨hx, hb, hml, hown, hts⟩ (c_J6_bitCount_0f7a4 l x3 _ h) (va_cwS 1 hts gX2_waysToDance_J6_bitCount_0f7a4 rfl rfl rfl (by decide +kernel) ⟨Nat.le_of_ble_eq_true rfl, Nat.le_of_ble_eq_true rfl⟩) preEq rfl rfl hl.1 rfl (lv_room (Nat.le_of_ble_eq_true rfl)) dX2_waysToDance_49 ⟨Nat.zero_le _, Nat.zero_le _⟩) (fun r_10 h => ?_)
    refine lv_iload hx hb dX2_waysToDance_52 (lv_at hl 0 rfl) ?_
    refine lv_icmp_lt (tgt := 61) hx hb dX2_waysToDance_54 (by decide) (fun c_11 => ?_) (fun c_11 => ?_)
    · have h := h.1 c_11
      refine lv_iconst (v := (0 : Int32)) hx hb dX2_waysToDance_61 (by decide) ?_
      exact W.iret (v := (0 : Int32)) hx hb hr (fun t ht hW => ⟨⟨(0 : Int32), S0, rfl, h, by rw [ht]; exact hP, va_K.moved hW.alike hK, hD⟩, hS.F ht⟩) hS.2.2 dX2_waysToDance_62
    · have h := h.2 c_11
      refine lv_iload_n hx hb dX2_waysToDance_57 rfl (lv_at hl 1 rfl) ?_
      refine lv_goto (tgt := 62) hx hb dX2_waysToDance_58 (by decide) ?_
      exact W.iret (v := x3) hx hb hr (fun t ht hW => ⟨⟨x3, S0, rfl, h, by rw [ht]; exact hP, va_K.moved hW.alike hK, hD⟩, hS.F ht⟩) hS.2.2 dX2_waysToDance_62
  unfold wp_X2_waysToDance at h
  refine lv_aload_n hx hb dX2_waysToDance_0 rfl (lv_at hl 0 rfl) ?_
  refine lv_iload_n hx hb dX2_waysToDance_1 rfl (lv_at hl 1 rfl) ?_
  refine lv_iload_n hx hb dX2_waysToDance_2 rfl (lv_at hl 2 rfl) ?_
  have hFc := fr_self hD hS hA
  refine gv_i (va_runV (As := [.int x1, .int x2]) (rest := []) ⟨hx, hb, hml, hown, hts⟩ (c_X2_haveDanced l D k a S0 H.size x1 x2 _ h) (cwV 2 hts gX2_waysToDance_X2_haveDanced rfl rfl rfl (by decide +kernel) ⟨Nat.le_of_ble_eq_true rfl, Nat.le_of_ble_eq_true rfl⟩) (gv_preV hK hnw hP hD (ci := 2) rfl 0 rfl) rfl rfl hl.1 rfl (lv_room (Nat.le_of_ble_eq_true rfl)) dX2_waysToDance_3 ⟨Nat.zero_le _, Nat.zero_le _⟩) hS hFc (fun r_1 u_2 H locs h hP1 hD1 hk1 hS => ?_)
  have hP := hP1
  have hD := hD1.weaken (fun _ _ _ z => hFc _ z)
  refine lv_if_eq (tgt := 11) hx hb dX2_waysToDance_6 (by decide) (fun c_3 => ?_) (fun c_3 => ?_)
  · have h := h.1 c_3
    refine lv_aload_n hx hb dX2_waysToDance_11 rfl (lv_at hl 0 rfl) ?_
    refine lv_iload_n hx hb dX2_waysToDance_12 rfl (lv_at hl 1 rfl) ?_
    refine lv_iload_n hx hb dX2_waysToDance_13 rfl (lv_at hl 2 rfl) ?_
    have hFc := fr_self hD hS hA
    refine gv_i (va_runV (As := [.int x1, .int x2]) (rest := []) ⟨hx, hb, hml, hown, hts⟩ (c_X2_whoBring l D k a u_2 H.size x1 x2 _ h) (cwV 2 hts gX2_waysToDance_X2_whoBring rfl rfl rfl (by decide +kernel) ⟨Nat.le_of_ble_eq_true rfl, Nat.le_of_ble_eq_true rfl⟩) (gv_preV hK hnw hP hD (ci := 2) rfl 0 rfl) rfl rfl hl.1 rfl (lv_room (Nat.le_of_ble_eq_true rfl)) dX2_waysToDance_14 ⟨Nat.zero_le _, Nat.zero_le _⟩) hS hFc (fun r_4 u_5 H locs h hP1 hD1 hk1 hS => ?_)
    have hP := hP1
    have hD := hD1.weaken (fun _ _ _ z => hFc _ z)
    refine lv_istore_n (lv' := [(3, .int r_4), (0, .ref (a 0)), (1, .int x1), (2, .int x2)]) hx hb dX2_waysToDance_17 rfl hl (by decide) rfl (fun ls hl => ?_)
    refine lv_aload_n hx hb dX2_waysToDance_18 rfl (lv_at hl 1 rfl) ?_
    refine lv_iload_n hx hb dX2_waysToDance_19 rfl (lv_at hl 2 rfl) ?_
    refine lv_iload_n hx hb dX2_waysToDance_20 rfl (lv_at hl 3 rfl) ?_
    have hFc := fr_self hD hS hA
    refine gv_i (va_runV (As := [.int x1, .int x2]) (rest := []) ⟨hx, hb, hml, hown, hts⟩ (c_X2_areCousinsOfOneFigure l D k a u_5 H.size x1 x2 _ h) (cwV 2 hts gX2_waysToDance_X2_areCousinsOfOneFigure rfl rfl rfl (by decide +kernel) ⟨Nat.le_of_ble_eq_true rfl, Nat.le_of_ble_eq_true rfl⟩) (gv_preV hK hnw hP hD (ci := 2) rfl 0 rfl) rfl rfl hl.1 rfl (lv_room (Nat.le_of_ble_eq_true rfl)) dX2_waysToDance_21 ⟨Nat.zero_le _, Nat.zero_le _⟩) hS hFc (fun r_6 u_7 H locs h hP1 hD1 hk1 hS => ?_)
    have hP := hP1
    have hD := hD1.weaken (fun _ _ _ z => hFc _ z)
    refine lv_if_eq (tgt := 33) hx hb dX2_waysToDance_24 (by decide) (fun c_8 => ?_) (fun c_8 => ?_)
    · have h := h.1 c_8
      refine lv_aload_n hx hb dX2_waysToDance_33 rfl (lv_at hl 1 rfl) ?_
      refine va_get (D := D) (ci := 2) (v := .int (u_7.1 1)) (C := RX2) (T := TX2) (N := 6) hx hb hts in_Fl hown hK hP 0 rfl rfl 1 (by decide) ln_15 (fun _ h9 => h9) rfl dX2_waysToDance_34 ?_
      refine lv_iconst (v := (1 : Int32)) hx hb dX2_waysToDance_37 (by decide) ?_
      refine lv_icmp_ne (tgt := 45) hx hb dX2_waysToDance_38 (by decide) (fun c_9 => ?_) (fun c_9 => ?_)
      · have h := h.1 c_9
        refine lv_iconst (v := (1 : Int32)) hx hb dX2_waysToDance_45 (by decide) ?_
        exact L_46 u_7 r_4 (1 : Int32) H locs ls hP hD hS (lv_sub hl [0] rfl) h
      · have h := h.2 c_9
        refine lv_iconst (v := (2 : Int32)) hx hb dX2_waysToDance_41 (by decide) ?_
        refine lv_goto (tgt := 46) hx hb dX2_waysToDance_42 (by decide) ?_
        exact L_46 u_7 r_4 (2 : Int32) H locs ls hP hD hS (lv_sub hl [0] rfl) h
    · have h := h.2 c_8
      refine lv_iload_n hx hb dX2_waysToDance_27 rfl (lv_at hl 0 rfl) ?_
      refine lv_sipush (v := (512 : Int32)) hx hb dX2_waysToDance_28 (by decide) ?_
      refine lv_ior hx hb dX2_waysToDance_31 ?_
      exact W.iret (v := (r_4 ||| (512 : Int32))) hx hb hr (fun t ht hW => ⟨⟨(r_4 ||| (512 : Int32)), u_7, rfl, h, by rw [ht]; exact hP, va_K.moved hW.alike hK, hD⟩, hS.F ht⟩) hS.2.2 dX2_waysToDance_32
  · have h := h.2 c_3
    refine lv_iconst (v := (0 : Int32)) hx hb dX2_waysToDance_9 (by decide) ?_
    exact W.iret (v := (0 : Int32)) hx hb hr (fun t ht hW => ⟨⟨(0 : Int32), u_2, rfl, h, by rw [ht]; exact hP, va_K.moved hW.alike hK, hD⟩, hS.F ht⟩) hS.2.2 dX2_waysToDance_10
/-! X6_leastOf -/
def wp_X6_leastOf_2 (x0 : Int32) (Q : Int32 → Prop) : Nat → Int32 → Prop
  | 0, _ => False
  | n + 1, x1 => (((8 : Int32) ≤ x1) → (Q (9 : Int32))) ∧ ((¬ (8 : Int32) ≤ x1) → (wp_X6_hasBit x0 x1 (fun r_2 => ((r_2 = 0) → (wp_X6_leastOf_2 x0 Q n (x1 + 1))) ∧ ((¬ r_2 = 0) → (Q x1)))))
def wp_X6_leastOf (x0 : Int32) (Q : Int32 → Prop) : Prop := ∃ i, wp_X6_leastOf_2 x0 Q i (0 : Int32)
abbrev rmX6_leastOf : Room := { frames := 1, cells := 0, slots := 0, locals := 21 }
set_option maxRecDepth 100000 in
set_option maxHeartbeats 4000000 in
theorem c_X6_leastOf (l : Launch) (x0 : Int32) (Q : Int32 → Prop) (h : wp_X6_leastOf x0 Q) : Met l yX6_leastOf wsX6_leastOf rmX6_leastOf (fun v _ => v = ([.int x0] : List Value).toArray) (vp_Si Q) 0 0 (fun _ => False) := by
  refine cs_entry (cc := cX6_leastOf) (maxL := 2) (ret := (some .int)) (Rn := RX6) (by decide) rfl rfl (Nat.le_of_ble_eq_true rfl) ?_
  intro p e s m below meth c hx hb hr hlocks hml hts hown ls hl
  have hl : lv_has ls 2 [(0, .int x0)] := hl
  have L_2 : ∀ (n : Nat), ∀ (x1 : Int32), ∀ (ls : Array Slot), lv_has ls 2 [(0, .int x0), (1, .int x1)] → wp_X6_leastOf_2 x0 Q n x1 → W p l e rmX6_leastOf s m ([.int x0] : List Value).toArray below meth c s.heap [] 0 0 (MQ below (vp_Si Q) ([.int x0] : List Value).toArray s 0 0 (fun _ => False)) (F0 m 2 ls []) := by
    intro n
    induction n with
    | zero => intro x1 ls hl h; exact absurd h (by unfold wp_X6_leastOf_2; exact id)
    | succ n ih =>
      intro x1 ls hl h
      unfold wp_X6_leastOf_2 at h
      refine lv_iload_n hx hb dX6_leastOf_2 rfl (lv_at hl 1 rfl) ?_
      refine lv_bipush (v := (8 : Int32)) hx hb dX6_leastOf_3 (by decide) ?_
      refine lv_icmp_ge (tgt := 24) hx hb dX6_leastOf_5 (by decide) (fun c_1 => ?_) (fun c_1 => ?_)
      · have h := h.1 c_1
        refine lv_bipush (v := (9 : Int32)) hx hb dX6_leastOf_24 (by decide) ?_
        exact W.iret (v := (9 : Int32)) hx hb hr (fun t ht hW => ⟨(9 : Int32), rfl, h, ht⟩) (fun q hq => by cases hq) dX6_leastOf_26
      · have h := h.2 c_1
        refine lv_iload_n hx hb dX6_leastOf_8 rfl (lv_at hl 0 rfl) ?_
        refine lv_iload_n hx hb dX6_leastOf_9 rfl (lv_at hl 1 rfl) ?_
        refine gs_i (va_runS (As := [.int x0, .int x1]) (rest := []) ⟨hx, hb, hml, hown, hts⟩ (c_X6_hasBit l x0 x1 _ h) (va_cwS 2 hts gX6_leastOf_X6_hasBit rfl rfl rfl (by decide +kernel) ⟨Nat.le_of_ble_eq_true rfl, Nat.le_of_ble_eq_true rfl⟩) preEq rfl rfl hl.1 rfl (lv_room (Nat.le_of_ble_eq_true rfl)) dX6_leastOf_10 ⟨Nat.zero_le _, Nat.zero_le _⟩) (fun r_2 h => ?_)
        refine lv_if_eq (tgt := 18) hx hb dX6_leastOf_13 (by decide) (fun c_3 => ?_) (fun c_3 => ?_)
        · have h := h.1 c_3
          refine lv_iinc (v := (x1 + 1)) (lv' := [(1, .int (x1 + 1)), (0, .int x0)]) hx hb dX6_leastOf_18 hl (k := 1) rfl rfl (by decide) rfl (fun ls hl => ?_)
          refine lv_goto (tgt := 2) hx hb dX6_leastOf_21 (by decide) ?_
          exact ih (x1 + 1) ls (lv_sub hl [1, 0] rfl) h
        · have h := h.2 c_3
          refine lv_iload_n hx hb dX6_leastOf_16 rfl (lv_at hl 1 rfl) ?_
          exact W.iret (v := x1) hx hb hr (fun t ht hW => ⟨x1, rfl, h, ht⟩) (fun q hq => by cases hq) dX6_leastOf_17
  unfold wp_X6_leastOf at h
  refine lv_iconst (v := (0 : Int32)) hx hb dX6_leastOf_0 (by decide) ?_
  refine lv_istore_n (lv' := [(1, .int (0 : Int32)), (0, .int x0)]) hx hb dX6_leastOf_1 rfl hl (by decide) rfl (fun ls hl => ?_)
  obtain ⟨n_4, h⟩ := h
  exact L_2 n_4 (0 : Int32) ls (lv_sub hl [1, 0] rfl) h
/-! X2_join -/
def wp_X2_join (S0 : St) (x1 : Int32) (x2 : Int32) (Q : Int32 → St → Prop) : Prop := wp_X2_areTwo S0 x1 x2 (fun r_1 u_2 => ((¬ r_1 = 0) → (vp_in x1 8 ∧ (vp_in x1 8 ∧ (∀ S_4, S_4 = (sA u_2 5 x1.toNatClampNeg ((u_2.2 5 x1.toNatClampNeg) ||| ((1 : Int32) <<< (x2 &&& 31)))) → (vp_in x2 8 ∧ (vp_in x2 8 ∧ (∀ S_6, S_6 = (sA S_4 5 x2.toNatClampNeg ((S_4.2 5 x2.toNatClampNeg) ||| ((1 : Int32) <<< (x1 &&& 31)))) → (Q (1 : Int32) S_6)))))))) ∧ ((r_1 = 0) → (Q (0 : Int32) u_2)))
abbrev rmX2_join : Room := { frames := 2, cells := 0, slots := 0, locals := 43 }
set_option maxRecDepth 100000 in
set_option maxHeartbeats 4000000 in
theorem c_X2_join (l : Launch) (D : va_G) (k : Nat → ClassId) (a : Nat → Nat) (S0 : St) (sz : Nat) (x1 : Int32) (x2 : Int32) (Q : Int32 → St → Prop) (h : wp_X2_join S0 x1 x2 Q) : Met l yX2_join wsX2_join rmX2_join (cPc D k (wFl k a S0) [.ref (a 0), .int x1, .int x2] sz) (va_Qi (fun (r : Int32) (u : St) => Q r u) (cB D k (va_A (wFl k a S0) sz) (fun u : St => wFl k a u)) (va_A (wFl k a S0) sz)) 0 0 (va_A (wFl k a S0) sz) := by
  refine ct_entry (cc := cX2_join) (maxL := 3) (ret := (some .boolean)) (Rn := RX2) (Qc := fun A => (va_Qi (fun (r : Int32) (u : St) => Q r u) (cB D k A (fun u : St => wFl k a u)) A)) (by decide) rfl rfl (Nat.le_of_ble_eq_true rfl) ?_
  intro p e s m below meth c hx hb hr hlocks hml hts hown hnw hK A hA H locs hP hD hS ls hl
  have hl : lv_has ls 3 [(0, .ref (a 0)), (1, .int x1), (2, .int x2)] := hl
  have ln_28 := hts (.fieldLink RX2 28 "WithTheSameOne$Floor" "partners" "[I") (by decide +kernel)
  have in_Fl : ∀ w ∈ wsX20, w ∈ wsX2_join := fun _ h => List.mem_cons_of_mem _ (List.mem_append_right _ h)
  unfold wp_X2_join at h
  refine lv_aload_n hx hb dX2_join_0 rfl (lv_at hl 0 rfl) ?_
  refine lv_iload_n hx hb dX2_join_1 rfl (lv_at hl 1 rfl) ?_
  refine lv_iload_n hx hb dX2_join_2 rfl (lv_at hl 2 rfl) ?_
  have hFc := fr_self hD hS hA
  refine gv_i (va_runV (As := [.int x1, .int x2]) (rest := []) ⟨hx, hb, hml, hown, hts⟩ (c_X2_areTwo l D k a S0 H.size x1 x2 _ h) (cwV 2 hts gX2_join_X2_areTwo rfl rfl rfl (by decide +kernel) ⟨Nat.le_of_ble_eq_true rfl, Nat.le_of_ble_eq_true rfl⟩) (gv_preV hK hnw hP hD (ci := 2) rfl 0 rfl) rfl rfl hl.1 rfl (lv_room (Nat.le_of_ble_eq_true rfl)) dX2_join_3 ⟨Nat.zero_le _, Nat.zero_le _⟩) hS hFc (fun r_1 u_2 H locs h hP1 hD1 hk1 hS => ?_)
  have hP := hP1
  have hD := hD1.weaken (fun _ _ _ z => hFc _ z)
  refine lv_if_ne (tgt := 11) hx hb dX2_join_6 (by decide) (fun c_3 => ?_) (fun c_3 => ?_)
  · have h := h.1 c_3
    refine lv_aload_n hx hb dX2_join_11 rfl (lv_at hl 0 rfl) ?_
    refine va_get (D := D) (ci := 2) (v := .ref (a 4)) (C := RX2) (T := TX2) (N := 6) hx hb hts in_Fl hown hK hP 0 rfl rfl 5 (by decide) ln_28 (fun _ h9 => h9) rfl dX2_join_12 ?_
    refine lv_iload_n hx hb dX2_join_15 rfl (lv_at hl 1 rfl) ?_
    refine lv_dup2_11 hx hb dX2_join_16 rfl rfl ?_
    refine va_iald hx hb hK hP 4 0 rfl rfl h.1 dX2_join_17 ?_
    have h := h.2
    refine lv_iconst (v := (1 : Int32)) hx hb dX2_join_18 (by decide) ?_
    refine lv_iload_n hx hb dX2_join_19 rfl (lv_at hl 2 rfl) ?_
    refine lv_ishl hx hb dX2_join_20 ?_
    refine lv_ior hx hb dX2_join_21 ?_
    refine va_iast hx hb hK hP hD hS 4 0 rfl rfl h.1 dX2_join_22 (fun H locs hP hD hS => ?_)
    have h := h.2
    obtain ⟨S_4, e_5⟩ : ∃ z : St, z = (sA u_2 5 x1.toNatClampNeg ((u_2.2 5 x1.toNatClampNeg) ||| ((1 : Int32) <<< (x2 &&& 31)))) := ⟨_, rfl⟩
    have h := h S_4 e_5
    have hP : va_P D vwCl (wFl k a S_4) H := by rw [e_5]; exact hP
    have hD : va_D A (wFl k a S_4) := by rw [e_5]; exact hD
    refine lv_aload_n hx hb dX2_join_23 rfl (lv_at hl 0 rfl) ?_
    refine va_get (D := D) (ci := 2) (v := .ref (a 4)) (C := RX2) (T := TX2) (N := 6) hx hb hts in_Fl hown hK hP 0 rfl rfl 5 (by decide) ln_28 (fun _ h9 => h9) rfl dX2_join_24 ?_
    refine lv_iload_n hx hb dX2_join_27 rfl (lv_at hl 2 rfl) ?_
    refine lv_dup2_11 hx hb dX2_join_28 rfl rfl ?_
    refine va_iald hx hb hK hP 4 0 rfl rfl h.1 dX2_join_29 ?_
    have h := h.2
    refine lv_iconst (v := (1 : Int32)) hx hb dX2_join_30 (by decide) ?_
    refine lv_iload_n hx hb dX2_join_31 rfl (lv_at hl 1 rfl) ?_
    refine lv_ishl hx hb dX2_join_32 ?_
    refine lv_ior hx hb dX2_join_33 ?_
    refine va_iast hx hb hK hP hD hS 4 0 rfl rfl h.1 dX2_join_34 (fun H locs hP hD hS => ?_)
    have h := h.2
    obtain ⟨S_6, e_7⟩ : ∃ z : St, z = (sA S_4 5 x2.toNatClampNeg ((S_4.2 5 x2.toNatClampNeg) ||| ((1 : Int32) <<< (x1 &&& 31)))) := ⟨_, rfl⟩
    have h := h S_6 e_7
    have hP : va_P D vwCl (wFl k a S_6) H := by rw [e_7]; exact hP
    have hD : va_D A (wFl k a S_6) := by rw [e_7]; exact hD
    refine lv_iconst (v := (1 : Int32)) hx hb dX2_join_35 (by decide) ?_
    exact W.zret (v := (1 : Int32)) hx hb hr rfl (fun t ht hW => ⟨⟨(1 : Int32), S_6, rfl, h, by rw [ht]; exact hP, va_K.moved hW.alike hK, hD⟩, hS.F ht⟩) hS.2.2 dX2_join_36
  · have h := h.2 c_3
    refine lv_iconst (v := (0 : Int32)) hx hb dX2_join_9 (by decide) ?_
    exact W.zret (v := (0 : Int32)) hx hb hr rfl (fun t ht hW => ⟨⟨(0 : Int32), u_2, rfl, h, by rw [ht]; exact hP, va_K.moved hW.alike hK, hD⟩, hS.F ht⟩) hS.2.2 dX2_join_10
/-! X2_step -/
def wp_X2_step_68 (x1 : Int32) (x2 : Int32) (x3 : Int32) (Q : St → Prop) (S0 : St) : Prop := wp_X2_join S0 x1 x2 (fun r_4 u_5 => Q u_5)
def wp_X2_step_36 (x1 : Int32) (x2 : Int32) (x3 : Int32) (Q : St → Prop) (S0 : St) (y0 : Int32) : Prop := vp_in x3 8 ∧ (vp_in x3 8 ∧ (∀ S_7, S_7 = (sA S0 4 x3.toNatClampNeg ((S0.2 4 x3.toNatClampNeg) + (1 : Int32))) → (wp_X2_isThere S_7 y0 (fun r_9 u_10 => ((r_9 = 0) → (wp_X2_step_68 x1 x2 x3 Q u_10)) ∧ ((¬ r_9 = 0) → (vp_in y0 8 ∧ (vp_in y0 8 ∧ (∀ S_12, S_12 = (sA u_10 4 y0.toNatClampNeg ((u_10.2 4 y0.toNatClampNeg) + (1 : Int32))) → (wp_X2_step_68 x1 x2 x3 Q S_12)))))))))
def wp_X2_step (S0 : St) (x1 : Int32) (x2 : Int32) (x3 : Int32) (Q : St → Prop) : Prop := wp_X2_isThere S0 x3 (fun r_1 u_2 => ((r_1 = 0) → (wp_X2_step_68 x1 x2 x3 Q u_2)) ∧ ((¬ r_1 = 0) → (((¬ (u_2.1 1) = (1 : Int32)) → (wp_X2_step_36 x1 x2 x3 Q u_2 (9 : Int32))) ∧ (((u_2.1 1) = (1 : Int32)) → (wp_X2_whoBring u_2 x1 x2 (fun r_14 u_15 => wp_X6_leastOf (r_14 &&& (((1 : Int32) <<< (x3 &&& 31)) ^^^ (-1 : Int32))) (fun r_16 => wp_X2_step_36 x1 x2 x3 Q u_15 r_16)))))))
abbrev rmX2_step : Room := { frames := 3, cells := 0, slots := 0, locals := 72 }
set_option maxRecDepth 100000 in
set_option maxHeartbeats 4000000 in
theorem c_X2_step (l : Launch) (D : va_G) (k : Nat → ClassId) (a : Nat → Nat) (S0 : St) (sz : Nat) (x1 : Int32) (x2 : Int32) (x3 : Int32) (Q : St → Prop) (h : wp_X2_step S0 x1 x2 x3 Q) : Met l yX2_step wsX2_step rmX2_step (cPc D k (wFl k a S0) [.ref (a 0), .int x1, .int x2, .int x3] sz) (va_Qv (fun (u : St) => Q u) (cB D k (va_A (wFl k a S0) sz) (fun u : St => wFl k a u)) (va_A (wFl k a S0) sz)) 0 0 (va_A (wFl k a S0) sz) := by
  refine ct_entry (cc := cX2_step) (maxL := 5) (ret := none) (Rn := RX2) (Qc := fun A => (va_Qv (fun (u : St) => Q u) (cB D k A (fun u : St => wFl k a u)) A)) (by decide) rfl rfl (Nat.le_of_ble_eq_true rfl) ?_
  intro p e s m below meth c hx hb hr hlocks hml hts hown hnw hK A hA H locs hP hD hS ls hl
  have hl : lv_has ls 5 [(0, .ref (a 0)), (1, .int x1), (2, .int x2), (3, .int x3)] := hl
  have ln_15 := hts (.fieldLink RX2 15 "WithTheSameOne$Floor" "law" "I") (by decide +kernel)
  have ln_25 := hts (.fieldLink RX2 25 "WithTheSameOne$Floor" "brought" "[I") (by decide +kernel)
  have ni_X6 := hts (.initialized RX6) (by decide +kernel)
  have ns_yX6_leastOf := hts (.static yX6_leastOf) (by decide +kernel)
  have in_Fl : ∀ w ∈ wsX20, w ∈ wsX2_step := fun _ h => List.mem_cons_of_mem _ (List.mem_append_right _ h)
  have L_68 : ∀ (S0 : St), ∀ (H : Heap) (locs : List Loc) (ls : Array Slot), va_P D vwCl (wFl k a S0) H → va_D A (wFl k a S0) → va_S A s.heap H locs → lv_has ls 5 [(0, .ref (a 0)), (1, .int x1), (2, .int x2)] → wp_X2_step_68 x1 x2 x3 Q S0 → W p l e rmX2_step s m ([.ref (a 0), .int x1, .int x2, .int x3] : List Value).toArray below meth c H locs 0 0 (MQ below (va_Qv (fun (u : St) => Q u) (cB D k A (fun u : St => wFl k a u)) A) ([.ref (a 0), .int x1, .int x2, .int x3] : List Value).toArray s 0 0 A) (F0 m 68 ls []) := by
    intro S0 H locs ls hP hD hS hl h
    unfold wp_X2_step_68 at h
    refine lv_aload_n hx hb dX2_step_68 rfl (lv_at hl 0 rfl) ?_
    refine lv_iload_n hx hb dX2_step_69 rfl (lv_at hl 1 rfl) ?_
    refine lv_iload_n hx hb dX2_step_70 rfl (lv_at hl 2 rfl) ?_
    have hFc := fr_self hD hS hA
    refine gv_i (va_runV (As := [.int x1, .int x2]) (rest := []) ⟨hx, hb, hml, hown, hts⟩ (c_X2_join l D k a S0 H.size x1 x2 _ h) (cwV 2 hts gX2_step_X2_join rfl rfl rfl (by decide +kernel) ⟨Nat.le_of_ble_eq_true rfl, Nat.le_of_ble_eq_true rfl⟩) (gv_preV hK hnw hP hD (ci := 2) rfl 0 rfl) rfl rfl hl.1 rfl (lv_room (Nat.le_of_ble_eq_true rfl)) dX2_step_71 ⟨Nat.zero_le _, Nat.zero_le _⟩) hS hFc (fun r_4 u_5 H locs h hP1 hD1 hk1 hS => ?_)
    have hP := hP1
    have hD := hD1.weaken (fun _ _ _ z => hFc _ z)
    refine lv_pop hx hb dX2_step_74 rfl ?_
    exact W.vret hx hb hr (fun t ht hW => ⟨⟨u_5, rfl, h, by rw [ht]; exact hP, va_K.moved hW.alike hK, hD⟩, hS.F ht⟩) hS.2.2 dX2_step_75
  have L_36 : ∀ (S0 : St) (y0 : Int32), ∀ (H : Heap) (locs : List Loc) (ls : Array Slot), va_P D vwCl (wFl k a S0) H → va_D A (wFl k a S0) → va_S A s.heap H locs → lv_has ls 5 [(0, .ref (a 0)), (1, .int x1), (2, .int x2), (3, .int x3)] → wp_X2_step_36 x1 x2 x3 Q S0 y0 → W p l e rmX2_step s m ([.ref (a 0), .int x1, .int x2, .int x3] : List Value).toArray below meth c H locs 0 0 (MQ below (va_Qv (fun (u : St) => Q u) (cB D k A (fun u : St => wFl k a u)) A) ([.ref (a 0), .int x1, .int x2, .int x3] : List Value).toArray s 0 0 A) (F0 m 36 ls [.int y0]) := by
    intro S0 y0 H locs ls hP hD hS hl h
    unfold wp_X2_step_36 at h
    refine lv_istore (lv' := [(4, .int y0), (0, .ref (a 0)), (1, .int x1), (2, .int x2), (3, .int x3)]) hx hb dX2_step_36 hl (by decide) rfl (fun ls hl => ?_)
    refine lv_aload_n hx hb dX2_step_38 rfl (lv_at hl 1 rfl) ?_
    refine va_get (D := D) (ci := 2) (v := .ref (a 3)) (C := RX2) (T := TX2) (N := 6) hx hb hts in_Fl hown hK hP 0 rfl rfl 4 (by decide) ln_25 (fun _ h9 => h9) rfl dX2_step_39 ?_
    refine lv_iload_n hx hb dX2_step_42 rfl (lv_at hl 4 rfl) ?_
    refine lv_dup2_11 hx hb dX2_step_43 rfl rfl ?_
    refine va_iald hx hb hK hP 3 0 rfl rfl h.1 dX2_step_44 ?_
    have h := h.2
    refine lv_iconst (v := (1 : Int32)) hx hb dX2_step_45 (by decide) ?_
    refine lv_iadd hx hb dX2_step_46 ?_
    refine va_iast hx hb hK hP hD hS 3 0 rfl rfl h.1 dX2_step_47 (fun H locs hP hD hS => ?_)
    have h := h.2
    obtain ⟨S_7, e_8⟩ : ∃ z : St, z = (sA S0 4 x3.toNatClampNeg ((S0.2 4 x3.toNatClampNeg) + (1 : Int32))) := ⟨_, rfl⟩
    have h := h S_7 e_8
    have hP : va_P D vwCl (wFl k a S_7) H := by rw [e_8]; exact hP
    have hD : va_D A (wFl k a S_7) := by rw [e_8]; exact hD
    refine lv_aload_n hx hb dX2_step_48 rfl (lv_at hl 1 rfl) ?_
    refine lv_iload hx hb dX2_step_49 (lv_at hl 0 rfl) ?_
    have hFc := fr_self hD hS hA
    refine gv_i (va_runV (As := [.int y0]) (rest := []) ⟨hx, hb, hml, hown, hts⟩ (c_X2_isThere l D k a S_7 H.size y0 _ h) (cwV 1 hts gX2_step_X2_isThere rfl rfl rfl (by decide +kernel) ⟨Nat.le_of_ble_eq_true rfl, Nat.le_of_ble_eq_true rfl⟩) (gv_preV hK hnw hP hD (ci := 2) rfl 0 rfl) rfl rfl hl.1 rfl (lv_room (Nat.le_of_ble_eq_true rfl)) dX2_step_51 ⟨Nat.zero_le _, Nat.zero_le _⟩) hS hFc (fun r_9 u_10 H locs h hP1 hD1 hk1 hS => ?_)
    have hP := hP1
    have hD := hD1.weaken (fun _ _ _ z => hFc _ z)
    refine lv_if_eq (tgt := 68) hx hb dX2_step_54 (by decide) (fun c_11 => ?_) (fun c_11 => ?_)
    · have h := h.1 c_11
      exact L_68 u_10 H locs ls hP hD hS (lv_sub hl [1, 2, 3] rfl) h
    · have h := h.2 c_11
      refine lv_aload_n hx hb dX2_step_57 rfl (lv_at hl 1 rfl) ?_
      refine va_get (D := D) (ci := 2) (v := .ref (a 3)) (C := RX2) (T := TX2) (N := 6) hx hb hts in_Fl hown hK hP 0 rfl rfl 4 (by decide) ln_25 (fun _ h9 => h9) rfl dX2_step_58 ?_
      refine lv_iload hx hb dX2_step_61 (lv_at hl 0 rfl) ?_
      refine lv_dup2_11 hx hb dX2_step_63 rfl rfl ?_
      refine va_iald hx hb hK hP 3 0 rfl rfl h.1 dX2_step_64 ?_
      have h := h.2
      refine lv_iconst (v := (1 : Int32)) hx hb dX2_step_65 (by decide) ?_
      refine lv_iadd hx hb dX2_step_66 ?_
      refine va_iast hx hb hK hP hD hS 3 0 rfl rfl h.1 dX2_step_67 (fun H locs hP hD hS => ?_)
      have h := h.2
      obtain ⟨S_12, e_13⟩ : ∃ z : St, z = (sA u_10 4 y0.toNatClampNeg ((u_10.2 4 y0.toNatClampNeg) + (1 : Int32))) := ⟨_, rfl⟩
      have h := h S_12 e_13
      have hP : va_P D vwCl (wFl k a S_12) H := by rw [e_13]; exact hP
      have hD : va_D A (wFl k a S_12) := by rw [e_13]; exact hD
      exact L_68 S_12 H locs ls hP hD hS (lv_sub hl [1, 2, 3] rfl) h
  unfold wp_X2_step at h
  refine lv_aload_n hx hb dX2_step_0 rfl (lv_at hl 0 rfl) ?_
  refine lv_iload_n hx hb dX2_step_1 rfl (lv_at hl 3 rfl) ?_
  have hFc := fr_self hD hS hA
  refine gv_i (va_runV (As := [.int x3]) (rest := []) ⟨hx, hb, hml, hown, hts⟩ (c_X2_isThere l D k a S0 H.size x3 _ h) (cwV 1 hts gX2_step_X2_isThere rfl rfl rfl (by decide +kernel) ⟨Nat.le_of_ble_eq_true rfl, Nat.le_of_ble_eq_true rfl⟩) (gv_preV hK hnw hP hD (ci := 2) rfl 0 rfl) rfl rfl hl.1 rfl (lv_room (Nat.le_of_ble_eq_true rfl)) dX2_step_2 ⟨Nat.zero_le _, Nat.zero_le _⟩) hS hFc (fun r_1 u_2 H locs h hP1 hD1 hk1 hS => ?_)
  have hP := hP1
  have hD := hD1.weaken (fun _ _ _ z => hFc _ z)
  refine lv_if_eq (tgt := 68) hx hb dX2_step_5 (by decide) (fun c_3 => ?_) (fun c_3 => ?_)
  · have h := h.1 c_3
    exact L_68 u_2 H locs ls hP hD hS (lv_sub hl [0, 1, 2] rfl) h
  · have h := h.2 c_3
    refine lv_aload_n hx hb dX2_step_8 rfl (lv_at hl 0 rfl) ?_
    refine va_get (D := D) (ci := 2) (v := .int (u_2.1 1)) (C := RX2) (T := TX2) (N := 6) hx hb hts in_Fl hown hK hP 0 rfl rfl 1 (by decide) ln_15 (fun _ h9 => h9) rfl dX2_step_9 ?_
    refine lv_iconst (v := (1 : Int32)) hx hb dX2_step_12 (by decide) ?_
    refine lv_icmp_ne (tgt := 34) hx hb dX2_step_13 (by decide) (fun c_6 => ?_) (fun c_6 => ?_)
    · have h := h.1 c_6
      refine lv_bipush (v := (9 : Int32)) hx hb dX2_step_34 (by decide) ?_
      exact L_36 u_2 (9 : Int32) H locs ls hP hD hS (lv_sub hl [0, 1, 2, 3] rfl) h
    · have h := h.2 c_6
      refine lv_aload_n hx hb dX2_step_16 rfl (lv_at hl 0 rfl) ?_
      refine lv_iload_n hx hb dX2_step_17 rfl (lv_at hl 1 rfl) ?_
      refine lv_iload_n hx hb dX2_step_18 rfl (lv_at hl 2 rfl) ?_
      have hFc := fr_self hD hS hA
      refine gv_i (va_runV (As := [.int x1, .int x2]) (rest := []) ⟨hx, hb, hml, hown, hts⟩ (c_X2_whoBring l D k a u_2 H.size x1 x2 _ h) (cwV 2 hts gX2_step_X2_whoBring rfl rfl rfl (by decide +kernel) ⟨Nat.le_of_ble_eq_true rfl, Nat.le_of_ble_eq_true rfl⟩) (gv_preV hK hnw hP hD (ci := 2) rfl 0 rfl) rfl rfl hl.1 rfl (lv_room (Nat.le_of_ble_eq_true rfl)) dX2_step_19 ⟨Nat.zero_le _, Nat.zero_le _⟩) hS hFc (fun r_14 u_15 H locs h hP1 hD1 hk1 hS => ?_)
      have hP := hP1
      have hD := hD1.weaken (fun _ _ _ z => hFc _ z)
      refine lv_iconst (v := (1 : Int32)) hx hb dX2_step_22 (by decide) ?_
      refine lv_iload_n hx hb dX2_step_23 rfl (lv_at hl 3 rfl) ?_
      refine lv_ishl hx hb dX2_step_24 ?_
      refine lv_iconst (v := (-1 : Int32)) hx hb dX2_step_25 (by decide) ?_
      refine lv_ixor hx hb dX2_step_26 ?_
      refine lv_iand hx hb dX2_step_27 ?_
      refine gs_i (va_runSN (As := [.int (r_14 &&& (((1 : Int32) <<< (x3 &&& 31)) ^^^ (-1 : Int32)))]) (rest := []) ⟨hx, hb, hml, hown, hts⟩ (c_X6_leastOf l (r_14 &&& (((1 : Int32) <<< (x3 &&& 31)) ^^^ (-1 : Int32))) _ h) ⟨va_cnB 1 hts gX2_step_X6_leastOf_n85 rfl rfl rfl (hnw.1 _ (List.mem_of_getElem? (i := 8) rfl)) ni_X6 (by decide +kernel) ⟨Nat.le_of_ble_eq_true rfl, Nat.le_of_ble_eq_true rfl⟩, ns_yX6_leastOf, trivial⟩ preEq rfl rfl hl.1 rfl (lv_room (Nat.le_of_ble_eq_true rfl)) dX2_step_28 ⟨Nat.zero_le _, Nat.zero_le _⟩) (fun r_16 h => ?_)
      refine lv_goto (tgt := 36) hx hb dX2_step_31 (by decide) ?_
      exact L_36 u_15 r_16 H locs ls hP hD hS (lv_sub hl [0, 1, 2, 3] rfl) h
/-! X2_stepByLeast -/
def wp_X2_stepByLeast (S0 : St) (x1 : Int32) (x2 : Int32) (Q : Int32 → St → Prop) : Prop := wp_X2_areTwo S0 x1 x2 (fun r_1 u_2 => ((¬ r_1 = 0) → (wp_X2_waysToDance u_2 x1 x2 (fun r_4 u_5 => ((¬ r_4 = 0) → (wp_X6_leastOf r_4 (fun r_7 => wp_X2_step u_5 x1 x2 r_7 (fun u_9 => Q (1 : Int32) u_9)))) ∧ ((r_4 = 0) → (Q (0 : Int32) u_5))))) ∧ ((r_1 = 0) → (Q (0 : Int32) u_2)))
abbrev rmX2_stepByLeast : Room := { frames := 4, cells := 0, slots := 0, locals := 96 }
set_option maxRecDepth 100000 in
set_option maxHeartbeats 4000000 in
theorem c_X2_stepByLeast (l : Launch) (D : va_G) (k : Nat → ClassId) (a : Nat → Nat) (S0 : St) (sz : Nat) (x1 : Int32) (x2 : Int32) (Q : Int32 → St → Prop) (h : wp_X2_stepByLeast S0 x1 x2 Q) : Met l yX2_stepByLeast wsX2_stepByLeast rmX2_stepByLeast (cPc D k (wFl k a S0) [.ref (a 0), .int x1, .int x2] sz) (va_Qi (fun (r : Int32) (u : St) => Q r u) (cB D k (va_A (wFl k a S0) sz) (fun u : St => wFl k a u)) (va_A (wFl k a S0) sz)) 0 0 (va_A (wFl k a S0) sz) := by
  refine ct_entry (cc := cX2_stepByLeast) (maxL := 4) (ret := (some .boolean)) (Rn := RX2) (Qc := fun A => (va_Qi (fun (r : Int32) (u : St) => Q r u) (cB D k A (fun u : St => wFl k a u)) A)) (by decide) rfl rfl (Nat.le_of_ble_eq_true rfl) ?_
  intro p e s m below meth c hx hb hr hlocks hml hts hown hnw hK A hA H locs hP hD hS ls hl
  have hl : lv_has ls 4 [(0, .ref (a 0)), (1, .int x1), (2, .int x2)] := hl
  have ni_X6 := hts (.initialized RX6) (by decide +kernel)
  have ns_yX6_leastOf := hts (.static yX6_leastOf) (by decide +kernel)
  unfold wp_X2_stepByLeast at h
  refine lv_aload_n hx hb dX2_stepByLeast_0 rfl (lv_at hl 0 rfl) ?_
  refine lv_iload_n hx hb dX2_stepByLeast_1 rfl (lv_at hl 1 rfl) ?_
  refine lv_iload_n hx hb dX2_stepByLeast_2 rfl (lv_at hl 2 rfl) ?_
  have hFc := fr_self hD hS hA
  refine gv_i (va_runV (As := [.int x1, .int x2]) (rest := []) ⟨hx, hb, hml, hown, hts⟩ (c_X2_areTwo l D k a S0 H.size x1 x2 _ h) (cwV 2 hts gX2_stepByLeast_X2_areTwo rfl rfl rfl (by decide +kernel) ⟨Nat.le_of_ble_eq_true rfl, Nat.le_of_ble_eq_true rfl⟩) (gv_preV hK hnw hP hD (ci := 2) rfl 0 rfl) rfl rfl hl.1 rfl (lv_room (Nat.le_of_ble_eq_true rfl)) dX2_stepByLeast_3 ⟨Nat.zero_le _, Nat.zero_le _⟩) hS hFc (fun r_1 u_2 H locs h hP1 hD1 hk1 hS => ?_)
  have hP := hP1
  have hD := hD1.weaken (fun _ _ _ z => hFc _ z)
  refine lv_if_ne (tgt := 11) hx hb dX2_stepByLeast_6 (by decide) (fun c_3 => ?_) (fun c_3 => ?_)
  · have h := h.1 c_3
    refine lv_aload_n hx hb dX2_stepByLeast_11 rfl (lv_at hl 0 rfl) ?_
    refine lv_iload_n hx hb dX2_stepByLeast_12 rfl (lv_at hl 1 rfl) ?_
    refine lv_iload_n hx hb dX2_stepByLeast_13 rfl (lv_at hl 2 rfl) ?_
    have hFc := fr_self hD hS hA
    refine gv_i (va_runV (As := [.int x1, .int x2]) (rest := []) ⟨hx, hb, hml, hown, hts⟩ (c_X2_waysToDance l D k a u_2 H.size x1 x2 _ h) (cwV 2 hts gX2_stepByLeast_X2_waysToDance rfl rfl rfl (by decide +kernel) ⟨Nat.le_of_ble_eq_true rfl, Nat.le_of_ble_eq_true rfl⟩) (gv_preV hK hnw hP hD (ci := 2) rfl 0 rfl) rfl rfl hl.1 rfl (lv_room (Nat.le_of_ble_eq_true rfl)) dX2_stepByLeast_14 ⟨Nat.zero_le _, Nat.zero_le _⟩) hS hFc (fun r_4 u_5 H locs h hP1 hD1 hk1 hS => ?_)
    have hP := hP1
    have hD := hD1.weaken (fun _ _ _ z => hFc _ z)
    refine lv_istore_n (lv' := [(3, .int r_4), (0, .ref (a 0)), (1, .int x1), (2, .int x2)]) hx hb dX2_stepByLeast_17 rfl hl (by decide) rfl (fun ls hl => ?_)
    refine lv_iload_n hx hb dX2_stepByLeast_18 rfl (lv_at hl 0 rfl) ?_
    refine lv_if_ne (tgt := 24) hx hb dX2_stepByLeast_19 (by decide) (fun c_6 => ?_) (fun c_6 => ?_)
    · have h := h.1 c_6
      refine lv_aload_n hx hb dX2_stepByLeast_24 rfl (lv_at hl 1 rfl) ?_
      refine lv_iload_n hx hb dX2_stepByLeast_25 rfl (lv_at hl 2 rfl) ?_
      refine lv_iload_n hx hb dX2_stepByLeast_26 rfl (lv_at hl 3 rfl) ?_
      refine lv_iload_n hx hb dX2_stepByLeast_27 rfl (lv_at hl 0 rfl) ?_
      refine gs_i (va_runSN (As := [.int r_4]) (rest := [.int x2, .int x1, .ref (a 0)]) ⟨hx, hb, hml, hown, hts⟩ (c_X6_leastOf l r_4 _ h) ⟨va_cnB 1 hts gX2_stepByLeast_X6_leastOf_n85 rfl rfl rfl (hnw.1 _ (List.mem_of_getElem? (i := 8) rfl)) ni_X6 (by decide +kernel) ⟨Nat.le_of_ble_eq_true rfl, Nat.le_of_ble_eq_true rfl⟩, ns_yX6_leastOf, trivial⟩ preEq rfl rfl hl.1 rfl (lv_room (Nat.le_of_ble_eq_true rfl)) dX2_stepByLeast_28 ⟨Nat.zero_le _, Nat.zero_le _⟩) (fun r_7 h => ?_)
      have hFc := fr_self hD hS hA
      refine gv_v (va_runV (As := [.int x1, .int x2, .int r_7]) (rest := []) ⟨hx, hb, hml, hown, hts⟩ (c_X2_step l D k a u_5 H.size x1 x2 r_7 _ h) (cwV 3 hts gX2_stepByLeast_X2_step rfl rfl rfl (by decide +kernel) ⟨Nat.le_of_ble_eq_true rfl, Nat.le_of_ble_eq_true rfl⟩) (gv_preV hK hnw hP hD (ci := 2) rfl 0 rfl) rfl rfl hl.1 rfl (lv_room (Nat.le_of_ble_eq_true rfl)) dX2_stepByLeast_31 ⟨Nat.zero_le _, Nat.zero_le _⟩) hS hFc (fun u_9 H locs h hP1 hD1 hk1 hS => ?_)
      have hP := hP1
      have hD := hD1.weaken (fun _ _ _ z => hFc _ z)
      refine lv_iconst (v := (1 : Int32)) hx hb dX2_stepByLeast_34 (by decide) ?_
      exact W.zret (v := (1 : Int32)) hx hb hr rfl (fun t ht hW => ⟨⟨(1 : Int32), u_9, rfl, h, by rw [ht]; exact hP, va_K.moved hW.alike hK, hD⟩, hS.F ht⟩) hS.2.2 dX2_stepByLeast_35
    · have h := h.2 c_6
      refine lv_iconst (v := (0 : Int32)) hx hb dX2_stepByLeast_22 (by decide) ?_
      exact W.zret (v := (0 : Int32)) hx hb hr rfl (fun t ht hW => ⟨⟨(0 : Int32), u_5, rfl, h, by rw [ht]; exact hP, va_K.moved hW.alike hK, hD⟩, hS.F ht⟩) hS.2.2 dX2_stepByLeast_23
  · have h := h.2 c_3
    refine lv_iconst (v := (0 : Int32)) hx hb dX2_stepByLeast_9 (by decide) ?_
    exact W.zret (v := (0 : Int32)) hx hb hr rfl (fun t ht hW => ⟨⟨(0 : Int32), u_2, rfl, h, by rw [ht]; exact hP, va_K.moved hW.alike hK, hD⟩, hS.F ht⟩) hS.2.2 dX2_stepByLeast_10
/-! X1_firstWrong -/
def wp_X1_firstWrong_14 (Q : Int32 → (St × (Nat → St)) → St → Prop) : Nat → (St × (Nat → St)) → St → Int32 → Prop
  | 0, _, _, _ => False
  | n + 1, S0, S1, x3 => (((S0.1.1 0) ≤ x3) → (Q (-9 : Int32) S0 S1)) ∧ ((¬ (S0.1.1 0) ≤ x3) → (vp_in x3 6 ∧ (vp_in x3 6 ∧ (wp_X2_stepByLeast (S0.2 0) ((S0.1.2 1 x3.toNatClampNeg) / (10 : Int32)) ((S0.1.2 1 x3.toNatClampNeg) - (S0.1.2 1 x3.toNatClampNeg) / (10 : Int32) * (10 : Int32)) (fun r_8 u_9 => ∀ S_10, S_10 = (S0.1, va_up S0.2 0 u_9) → (((¬ r_8 = 0) → (wp_X1_firstWrong_14 Q n S_10 S1 (x3 + 1))) ∧ ((r_8 = 0) → (Q x3 S_10 S1))))))))
def wp_X1_firstWrong (S0 : St × (Nat → St)) (S1 : St) (Q : Int32 → (St × (Nat → St)) → St → Prop) : Prop := wp_X2_copyFrom (S0.2 0) S1 (fun u_2 u_3 => ∀ S_5, S_5 = (S0.1, va_up S0.2 0 u_2) → (∃ i, wp_X1_firstWrong_14 Q i S_5 u_3 (0 : Int32)))
abbrev rmX1_firstWrong : Room := { frames := 5, cells := 0, slots := 0, locals := 119 }
set_option maxRecDepth 100000 in
set_option maxHeartbeats 4000000 in
theorem c_X1_firstWrong (l : Launch) (D : va_G) (k : Nat → ClassId) (a : Nat → Nat) (b : Nat → Nat) (S0 : St × (Nat → St)) (S1 : St) (sz : Nat) (Q : Int32 → (St × (Nat → St)) → St → Prop) (h : wp_X1_firstWrong S0 S1 Q) : Met l yX1_firstWrong wsX1_firstWrong rmX1_firstWrong (cPc D k (wEv k a S0 ++ wFl k b S1) [.ref (a 0), .ref (b 0)] sz) (va_Qi (fun (r : Int32) (u : (St × (Nat → St)) × St) => Q r u.1 u.2) (cB D k (va_A (wEv k a S0 ++ wFl k b S1) sz) (fun u : (St × (Nat → St)) × St => wEv k a u.1 ++ wFl k b u.2)) (va_A (wEv k a S0 ++ wFl k b S1) sz)) 0 0 (va_A (wEv k a S0 ++ wFl k b S1) sz) := by
  refine ct_entry (cc := cX1_firstWrong) (maxL := 4) (ret := (some .int)) (Rn := RX1) (Qc := fun A => (va_Qi (fun (r : Int32) (u : (St × (Nat → St)) × St) => Q r u.1 u.2) (cB D k A (fun u : (St × (Nat → St)) × St => wEv k a u.1 ++ wFl k b u.2)) A)) (by decide) rfl rfl (Nat.le_of_ble_eq_true rfl) ?_
  intro p e s m below meth c hx hb hr hlocks hml hts hown hnw hK A hA H locs hP hD hS ls hl
  have hl : lv_has ls 4 [(0, .ref (a 0)), (1, .ref (b 0))] := hl
  have ln_15 := hts (.fieldLink RX1 15 "WithTheSameOne$Evening" "pairs" "[I") (by decide +kernel)
  have ln_21 := hts (.fieldLink RX1 21 "WithTheSameOne$Evening" "minds" "[LWithTheSameOne$Floor;") (by decide +kernel)
  have ln_9 := hts (.fieldLink RX1 9 "WithTheSameOne$Evening" "size" "I") (by decide +kernel)
  have in_Ev : ∀ w ∈ wsX10, w ∈ wsX1_firstWrong := fun _ h => List.mem_cons_of_mem _ (List.mem_append_left _ (List.mem_append_right _ h))
  have L_14 : ∀ (n : Nat), ∀ (S0 : St × (Nat → St)) (S1 : St) (x3 : Int32), ∀ (H : Heap) (locs : List Loc) (ls : Array Slot), va_P D vwCl (wEv k a S0 ++ wFl k b S1) H → va_D A (wEv k a S0 ++ wFl k b S1) → va_S A s.heap H locs → lv_has ls 4 [(0, .ref (a 0)), (2, .ref (a 3)), (3, .int x3)] → wp_X1_firstWrong_14 Q n S0 S1 x3 → W p l e rmX1_firstWrong s m ([.ref (a 0), .ref (b 0)] : List Value).toArray below meth c H locs 0 0 (MQ below (va_Qi (fun (r : Int32) (u : (St × (Nat → St)) × St) => Q r u.1 u.2) (cB D k A (fun u : (St × (Nat → St)) × St => wEv k a u.1 ++ wFl k b u.2)) A) ([.ref (a 0), .ref (b 0)] : List Value).toArray s 0 0 A) (F0 m 14 ls []) := by
    intro n
    induction n with
    | zero => intro S0 S1 x3 H locs ls hP hD hS hl h; exact absurd h (by unfold wp_X1_firstWrong_14; exact id)
    | succ n ih =>
      intro S0 S1 x3 H locs ls hP hD hS hl h
      unfold wp_X1_firstWrong_14 at h
      refine lv_iload_n hx hb dX1_firstWrong_14 rfl (lv_at hl 2 rfl) ?_
      refine lv_aload_n hx hb dX1_firstWrong_15 rfl (lv_at hl 0 rfl) ?_
      refine va_get (D := D) (ci := 1) (v := .int (S0.1.1 0)) (C := RX1) (T := TX1) (N := 3) hx hb hts in_Ev hown hK hP 0 rfl rfl 0 (by decide) ln_9 (fun _ h9 => h9) rfl dX1_firstWrong_16 ?_
      refine lv_icmp_ge (tgt := 55) hx hb dX1_firstWrong_19 (by decide) (fun c_7 => ?_) (fun c_7 => ?_)
      · have h := h.1 c_7
        refine lv_bipush (v := (-9 : Int32)) hx hb dX1_firstWrong_55 (by decide) ?_
        exact W.iret (v := (-9 : Int32)) hx hb hr (fun t ht hW => ⟨⟨(-9 : Int32), (S0, S1), rfl, h, by rw [ht]; exact hP, va_K.moved hW.alike hK, hD⟩, hS.F ht⟩) hS.2.2 dX1_firstWrong_57
      · have h := h.2 c_7
        refine lv_aload_n hx hb dX1_firstWrong_22 rfl (lv_at hl 1 rfl) ?_
        refine lv_aload_n hx hb dX1_firstWrong_23 rfl (lv_at hl 0 rfl) ?_
        refine va_get (D := D) (ci := 1) (v := .ref (a 1)) (C := RX1) (T := TX1) (N := 3) hx hb hts in_Ev hown hK hP 0 rfl rfl 1 (by decide) ln_15 (fun _ h9 => h9) rfl dX1_firstWrong_24 ?_
        refine lv_iload_n hx hb dX1_firstWrong_27 rfl (lv_at hl 2 rfl) ?_
        refine va_iald hx hb hK hP 1 0 rfl rfl h.1 dX1_firstWrong_28 ?_
        have h := h.2
        refine lv_bipush (v := (10 : Int32)) hx hb dX1_firstWrong_29 (by decide) ?_
        refine lv_idiv hx hb dX1_firstWrong_31 (by decide) ?_
        refine lv_aload_n hx hb dX1_firstWrong_32 rfl (lv_at hl 0 rfl) ?_
        refine va_get (D := D) (ci := 1) (v := .ref (a 1)) (C := RX1) (T := TX1) (N := 3) hx hb hts in_Ev hown hK hP 0 rfl rfl 1 (by decide) ln_15 (fun _ h9 => h9) rfl dX1_firstWrong_33 ?_
        refine lv_iload_n hx hb dX1_firstWrong_36 rfl (lv_at hl 2 rfl) ?_
        refine va_iald hx hb hK hP 1 0 rfl rfl h.1 dX1_firstWrong_37 ?_
        have h := h.2
        refine lv_bipush (v := (10 : Int32)) hx hb dX1_firstWrong_38 (by decide) ?_
        refine lv_irem hx hb dX1_firstWrong_40 (by decide) ?_
        have hPc := fc2_P hP
        have hDc := fc2_D hD
        have hFc := fr_self hDc hS hA
        refine gv_i (va_runV (As := [.int ((S0.1.2 1 x3.toNatClampNeg) / (10 : Int32)), .int ((S0.1.2 1 x3.toNatClampNeg) - (S0.1.2 1 x3.toNatClampNeg) / (10 : Int32) * (10 : Int32))]) (rest := []) ⟨hx, hb, hml, hown, hts⟩ (c_X2_stepByLeast l D k (sh a 3) (S0.2 0) H.size ((S0.1.2 1 x3.toNatClampNeg) / (10 : Int32)) ((S0.1.2 1 x3.toNatClampNeg) - (S0.1.2 1 x3.toNatClampNeg) / (10 : Int32) * (10 : Int32)) _ h) (cwV 2 hts gX1_firstWrong_X2_stepByLeast rfl rfl rfl (by decide +kernel) ⟨Nat.le_of_ble_eq_true rfl, Nat.le_of_ble_eq_true rfl⟩) (gv_preV hK hnw hPc hDc (ci := 2) rfl 0 rfl) rfl rfl hl.1 rfl (lv_room (Nat.le_of_ble_eq_true rfl)) dX1_firstWrong_41 ⟨Nat.zero_le _, Nat.zero_le _⟩) hS hFc (fun r_8 u_9 H locs h hP1 hD1 hk1 hS => ?_)
        obtain ⟨hP, hD⟩ := fc2_J hP hD hk1 hFc hP1 hD1
        obtain ⟨S_10, e_11⟩ : ∃ z : St × (Nat → St), z = (S0.1, va_up S0.2 0 u_9) := ⟨_, rfl⟩
        have h := h S_10 e_11
        have hP : va_P D vwCl (wEv k a S_10 ++ wFl k b S1) H := by rw [e_11]; exact hP
        have hD : va_D A (wEv k a S_10 ++ wFl k b S1) := by rw [e_11]; exact hD
        refine lv_if_ne (tgt := 49) hx hb dX1_firstWrong_44 (by decide) (fun c_12 => ?_) (fun c_12 => ?_)
        · have h := h.1 c_12
          refine lv_iinc (v := (x3 + 1)) (lv' := [(3, .int (x3 + 1)), (0, .ref (a 0)), (2, .ref (a 3))]) hx hb dX1_firstWrong_49 hl (k := 2) rfl rfl (by decide) rfl (fun ls hl => ?_)
          refine lv_goto (tgt := 14) hx hb dX1_firstWrong_52 (by decide) ?_
          exact ih S_10 S1 (x3 + 1) H locs ls hP hD hS (lv_sub hl [1, 2, 0] rfl) h
        · have h := h.2 c_12
          refine lv_iload_n hx hb dX1_firstWrong_47 rfl (lv_at hl 2 rfl) ?_
          exact W.iret (v := x3) hx hb hr (fun t ht hW => ⟨⟨x3, (S_10, S1), rfl, h, by rw [ht]; exact hP, va_K.moved hW.alike hK, hD⟩, hS.F ht⟩) hS.2.2 dX1_firstWrong_48
  unfold wp_X1_firstWrong at h
  refine lv_aload_n hx hb dX1_firstWrong_0 rfl (lv_at hl 0 rfl) ?_
  refine va_get (D := D) (ci := 1) (v := .ref (a 2)) (C := RX1) (T := TX1) (N := 3) hx hb hts in_Ev hown hK hP 0 rfl rfl 2 (by decide) ln_21 (fun _ h9 => h9) rfl dX1_firstWrong_1 ?_
  refine lv_iconst (v := (0 : Int32)) hx hb dX1_firstWrong_4 (by decide) ?_
  refine va_aldq (C := RX2) hx hb hK hP 2 1 rfl rfl (vp0 (by decide)) dX1_firstWrong_5 ?_
  refine W.eq (g2 := F0 m 6 ls [.ref (a 3)]) rfl ?_
  refine lv_astore_n (lv' := [(2, .ref (a 3)), (0, .ref (a 0)), (1, .ref (b 0))]) hx hb dX1_firstWrong_6 rfl hl (by decide) rfl (fun ls hl => ?_)
  refine lv_aload_n hx hb dX1_firstWrong_7 rfl (lv_at hl 0 rfl) ?_
  refine lv_aload_n hx hb dX1_firstWrong_8 rfl (lv_at hl 2 rfl) ?_
  have hPc := fc1_P hP
  have hDc := fc1_D hD
  have hFc := fr_self hDc hS hA
  refine gv_v (va_runV (As := [.ref (b 0)]) (rest := []) ⟨hx, hb, hml, hown, hts⟩ (c_X2_copyFrom l D k (sh a 3) b (S0.2 0) S1 H.size _ h) (cwV 1 hts gX1_firstWrong_X2_copyFrom rfl rfl rfl (by decide +kernel) ⟨Nat.le_of_ble_eq_true rfl, Nat.le_of_ble_eq_true rfl⟩) (gv_preV hK hnw hPc hDc (ci := 2) rfl 0 rfl) rfl rfl hl.1 rfl (lv_room (Nat.le_of_ble_eq_true rfl)) dX1_firstWrong_9 ⟨Nat.zero_le _, Nat.zero_le _⟩) hS hFc (fun w_4 H locs h hP1 hD1 hk1 hS => ?_)
  obtain ⟨u_2, u_3⟩ := w_4
  obtain ⟨hP, hD⟩ := fc1_J hP hD hk1 hFc hP1 hD1
  obtain ⟨S_5, e_6⟩ : ∃ z : St × (Nat → St), z = (S0.1, va_up S0.2 0 u_2) := ⟨_, rfl⟩
  have h := h S_5 e_6
  have hP : va_P D vwCl (wEv k a S_5 ++ wFl k b u_3) H := by rw [e_6]; exact hP
  have hD : va_D A (wEv k a S_5 ++ wFl k b u_3) := by rw [e_6]; exact hD
  refine lv_iconst (v := (0 : Int32)) hx hb dX1_firstWrong_12 (by decide) ?_
  refine lv_istore_n (lv' := [(3, .int (0 : Int32)), (2, .ref (a 3)), (0, .ref (a 0)), (1, .ref (b 0))]) hx hb dX1_firstWrong_13 rfl hl (by decide) rfl (fun ls hl => ?_)
  obtain ⟨n_13, h⟩ := h
  exact L_14 n_13 S_5 u_3 (0 : Int32) H locs ls hP hD hS (lv_sub hl [2, 1, 0] rfl) h
/-! X1_broughtTonight -/
def wp_X1_broughtTonight (S0 : St × (Nat → St)) (j : Nat) (x2 : Int32) (Q : Int32 → (St × (Nat → St)) → Prop) : Prop := wp_X2_isThere (S0.2 j) x2 (fun r_1 u_2 => ∀ S_3, S_3 = (S0.1, va_up S0.2 j u_2) → (((r_1 = 0) → (Q (0 : Int32) S_3)) ∧ ((¬ r_1 = 0) → (vp_in x2 8 ∧ (vp_in x2 8 ∧ (Q (((S_3.2 j).2 4 x2.toNatClampNeg) - ((S_3.2 0).2 4 x2.toNatClampNeg)) S_3))))))
abbrev rmX1_broughtTonight : Room := { frames := 1, cells := 0, slots := 0, locals := 21 }
set_option maxRecDepth 100000 in
set_option maxHeartbeats 4000000 in
theorem c_X1_broughtTonight (l : Launch) (D : va_G) (k : Nat → ClassId) (a : Nat → Nat) (S0 : St × (Nat → St)) (sz : Nat) (j : Nat) (hj : j < 7) (x2 : Int32) (Q : Int32 → (St × (Nat → St)) → Prop) (h : wp_X1_broughtTonight S0 j x2 Q) : Met l yX1_broughtTonight wsX1_broughtTonight rmX1_broughtTonight (cPc D k (wEv k a S0) [.ref (a 0), .ref (a (3 + 5 * j)), .int x2] sz) (va_Qi (fun (r : Int32) (u : (St × (Nat → St))) => Q r u) (cB D k (va_A (wEv k a S0) sz) (fun u : (St × (Nat → St)) => wEv k a u)) (va_A (wEv k a S0) sz)) 0 0 (va_A (wEv k a S0) sz) := by
  refine ct_entry (cc := cX1_broughtTonight) (maxL := 3) (ret := (some .int)) (Rn := RX1) (Qc := fun A => (va_Qi (fun (r : Int32) (u : (St × (Nat → St))) => Q r u) (cB D k A (fun u : (St × (Nat → St)) => wEv k a u)) A)) (by decide) rfl rfl (Nat.le_of_ble_eq_true rfl) ?_
  intro p e s m below meth c hx hb hr hlocks hml hts hown hnw hK A hA H locs hP hD hS ls hl
  have hl : lv_has ls 3 [(0, .ref (a 0)), (1, .ref (a (3 + 5 * j))), (2, .int x2)] := hl
  have ln_21 := hts (.fieldLink RX1 21 "WithTheSameOne$Evening" "minds" "[LWithTheSameOne$Floor;") (by decide +kernel)
  have ln_65 := hts (.fieldLink RX1 65 "WithTheSameOne$Floor" "brought" "[I") (by decide +kernel)
  have in_Fl : ∀ w ∈ wsX20, w ∈ wsX1_broughtTonight := fun _ h => List.mem_cons_of_mem _ (List.mem_append_left _ (List.mem_append_right _ h))
  have in_Ev : ∀ w ∈ wsX10, w ∈ wsX1_broughtTonight := fun _ h => List.mem_cons_of_mem _ (List.mem_append_right _ h)
  unfold wp_X1_broughtTonight at h
  refine lv_aload_n hx hb dX1_broughtTonight_0 rfl (lv_at hl 1 rfl) ?_
  refine lv_iload_n hx hb dX1_broughtTonight_1 rfl (lv_at hl 2 rfl) ?_
  have hPc := fc3_P hj hP
  have hDc := fc3_D hj hD
  have hFc := fr_self hDc hS hA
  refine gv_i (va_runV (As := [.int x2]) (rest := []) ⟨hx, hb, hml, hown, hts⟩ (c_X2_isThere l D k (sh a (3 + 5 * j)) (S0.2 j) H.size x2 _ h) (cwV 1 hts gX1_broughtTonight_X2_isThere rfl rfl rfl (by decide +kernel) ⟨Nat.le_of_ble_eq_true rfl, Nat.le_of_ble_eq_true rfl⟩) (gv_preV hK hnw hPc hDc (ci := 2) rfl 0 rfl) rfl rfl hl.1 rfl (lv_room (Nat.le_of_ble_eq_true rfl)) dX1_broughtTonight_2 ⟨Nat.zero_le _, Nat.zero_le _⟩) hS hFc (fun r_1 u_2 H locs h hP1 hD1 hk1 hS => ?_)
  obtain ⟨hP, hD⟩ := fc3_J hj hP hD hk1 hFc hP1 hD1
  obtain ⟨S_3, e_4⟩ : ∃ z : St × (Nat → St), z = (S0.1, va_up S0.2 j u_2) := ⟨_, rfl⟩
  have h := h S_3 e_4
  have hP : va_P D vwCl (wEv k a S_3) H := by rw [e_4]; exact hP
  have hD : va_D A (wEv k a S_3) := by rw [e_4]; exact hD
  refine lv_if_eq (tgt := 29) hx hb dX1_broughtTonight_5 (by decide) (fun c_5 => ?_) (fun c_5 => ?_)
  · have h := h.1 c_5
    refine lv_iconst (v := (0 : Int32)) hx hb dX1_broughtTonight_29 (by decide) ?_
    exact W.iret (v := (0 : Int32)) hx hb hr (fun t ht hW => ⟨⟨(0 : Int32), S_3, rfl, h, by rw [ht]; exact hP, va_K.moved hW.alike hK, hD⟩, hS.F ht⟩) hS.2.2 dX1_broughtTonight_30
  · have h := h.2 c_5
    refine lv_aload_n hx hb dX1_broughtTonight_8 rfl (lv_at hl 1 rfl) ?_
    refine va_get (D := D) (ci := 2) (v := .ref (a (3 + 5 * j + 3))) (C := RX2) (T := TX2) (N := 6) hx hb hts in_Fl hown hK hP (3 + 5 * j + 0) (fm_Ev_0 hj) rfl 4 (by decide) ln_65 (fun _ h9 => h9) rfl dX1_broughtTonight_9 ?_
    refine lv_iload_n hx hb dX1_broughtTonight_12 rfl (lv_at hl 2 rfl) ?_
    refine va_iald hx hb hK hP (3 + 5 * j + 3) 0 (fm_Ev_3 hj) rfl h.1 dX1_broughtTonight_13 ?_
    have h := h.2
    refine lv_aload_n hx hb dX1_broughtTonight_14 rfl (lv_at hl 0 rfl) ?_
    refine va_get (D := D) (ci := 1) (v := .ref (a 2)) (C := RX1) (T := TX1) (N := 3) hx hb hts in_Ev hown hK hP 0 rfl rfl 2 (by decide) ln_21 (fun _ h9 => h9) rfl dX1_broughtTonight_15 ?_
    refine lv_iconst (v := (0 : Int32)) hx hb dX1_broughtTonight_18 (by decide) ?_
    refine va_aldq (C := RX2) hx hb hK hP 2 1 rfl rfl (vp0 (by decide)) dX1_broughtTonight_19 ?_
    refine W.eq (g2 := F0 m 20 ls [.ref (a 3), .int ((S_3.2 j).2 4 x2.toNatClampNeg)]) rfl ?_
    refine va_get (D := D) (ci := 2) (v := .ref (a 6)) (C := RX2) (T := TX2) (N := 6) hx hb hts in_Fl hown hK hP 3 rfl rfl 4 (by decide) ln_65 (fun _ h9 => h9) rfl dX1_broughtTonight_20 ?_
    refine lv_iload_n hx hb dX1_broughtTonight_23 rfl (lv_at hl 2 rfl) ?_
    refine va_iald hx hb hK hP 6 0 rfl rfl h.1 dX1_broughtTonight_24 ?_
    have h := h.2
    refine lv_isub hx hb dX1_broughtTonight_25 ?_
    refine lv_goto (tgt := 30) hx hb dX1_broughtTonight_26 (by decide) ?_
    exact W.iret (v := (((S_3.2 j).2 4 x2.toNatClampNeg) - ((S_3.2 0).2 4 x2.toNatClampNeg))) hx hb hr (fun t ht hW => ⟨⟨(((S_3.2 j).2 4 x2.toNatClampNeg) - ((S_3.2 0).2 4 x2.toNatClampNeg)), S_3, rfl, h, by rw [ht]; exact hP, va_K.moved hW.alike hK, hD⟩, hS.F ht⟩) hS.2.2 dX1_broughtTonight_30
