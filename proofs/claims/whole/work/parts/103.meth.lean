/-! X2_forgetBrought -/
def wp_X2_forgetBrought_24 (K4 : St → Int32 → Int32 → Prop) (Q : Int32 → St → Prop) (S0 : St) (x1 : Int32) (x2 : Int32) : Prop := vp_in x2 8 ∧ (∀ S_3, S_3 = (sA S0 4 x2.toNatClampNeg (0 : Int32)) → (K4 S_3 x1 (x2 + 1)))
def wp_X2_forgetBrought_4 (Q : Int32 → St → Prop) : Nat → St → Int32 → Int32 → Prop
  | 0, _, _, _ => False
  | n + 1, S0, x1, x2 => (((S0.1 0) ≤ x2) → (Q x1 S0)) ∧ ((¬ (S0.1 0) ≤ x2) → (vp_in x2 8 ∧ ((((S0.2 4 x2.toNatClampNeg) ≤ 0) → (wp_X2_forgetBrought_24 (fun s0 v0 v1 => wp_X2_forgetBrought_4 Q n s0 v0 v1) Q S0 x1 x2)) ∧ ((¬ (S0.2 4 x2.toNatClampNeg) ≤ 0) → (wp_X2_forgetBrought_24 (fun s0 v0 v1 => wp_X2_forgetBrought_4 Q n s0 v0 v1) Q S0 (x1 + 1) x2)))))
def wp_X2_forgetBrought (S0 : St) (Q : Int32 → St → Prop) : Prop := ∃ i, wp_X2_forgetBrought_4 Q i S0 (0 : Int32) (0 : Int32)
abbrev rmX2_forgetBrought : Room := { frames := 0, cells := 0, slots := 0, locals := 0 }
set_option maxRecDepth 100000 in
set_option maxHeartbeats 4000000 in
theorem c_X2_forgetBrought (l : Launch) (D : va_G) (k : Nat → ClassId) (a : Nat → Nat) (S0 : St) (sz : Nat) (Q : Int32 → St → Prop) (h : wp_X2_forgetBrought S0 Q) : Met l yX2_forgetBrought wsX2_forgetBrought rmX2_forgetBrought (cPc D k (wFl k a S0) [.ref (a 0)] sz) (va_Qi (fun (r : Int32) (u : St) => Q r u) (cB D k (va_A (wFl k a S0) sz) (fun u : St => wFl k a u)) (va_A (wFl k a S0) sz)) 0 0 (va_A (wFl k a S0) sz) := by
  refine ct_entry (cc := cX2_forgetBrought) (maxL := 3) (ret := (some .int)) (Rn := RX2) (Qc := fun A => (va_Qi (fun (r : Int32) (u : St) => Q r u) (cB D k A (fun u : St => wFl k a u)) A)) (by decide) rfl rfl (Nat.le_of_ble_eq_true rfl) ?_
  intro p e s m below meth c hx hb hr hlocks hml hts hown hnw hK A hA H locs hP hD hS ls hl
  have hl : lv_has ls 3 [(0, .ref (a 0))] := hl
  have ln_25 := hts (.fieldLink RX2 25 "WithTheSameOne$Floor" "brought" "[I") (by decide +kernel)
  have ln_9 := hts (.fieldLink RX2 9 "WithTheSameOne$Floor" "size" "I") (by decide +kernel)
  have in_Fl : ∀ w ∈ wsX20, w ∈ wsX2_forgetBrought := fun _ h => List.mem_cons_of_mem _ (List.mem_append_right _ h)
  have L_24 : ∀ (K4 : St → Int32 → Int32 → Prop), (∀ (S0 : St) (x1 : Int32) (x2 : Int32), ∀ (H : Heap) (locs : List Loc) (ls : Array Slot), va_P D vwCl (wFl k a S0) H → va_D A (wFl k a S0) → va_S A s.heap H locs → lv_has ls 3 [(0, .ref (a 0)), (1, .int x1), (2, .int x2)] → K4 S0 x1 x2 → W p l e rmX2_forgetBrought s m ([.ref (a 0)] : List Value).toArray below meth c H locs 0 0 (MQ below (va_Qi (fun (r : Int32) (u : St) => Q r u) (cB D k A (fun u : St => wFl k a u)) A) ([.ref (a 0)] : List Value).toArray s 0 0 A) (F0 m 4 ls [])) → ∀ (S0 : St) (x1 : Int32) (x2 : Int32), ∀ (H : Heap) (locs : List Loc) (ls : Array Slot), va_P D vwCl (wFl k a S0) H → va_D A (wFl k a S0) → va_S A s.heap H locs → lv_has ls 3 [(0, .ref (a 0)), (1, .int x1), (2, .int x2)] → wp_X2_forgetBrought_24 K4 Q S0 x1 x2 → W p l e rmX2_forgetBrought s m ([.ref (a 0)] : List Value).toArray below meth c H locs 0 0 (MQ below (va_Qi (fun (r : Int32) (u : St) => Q r u) (cB D k A (fun u : St => wFl k a u)) A) ([.ref (a 0)] : List Value).toArray s 0 0 A) (F0 m 24 ls []) := by
    intro K4 hK4 S0 x1 x2 H locs ls hP hD hS hl h
    unfold wp_X2_forgetBrought_24 at h
    refine lv_aload_n hx hb dX2_forgetBrought_24 rfl (lv_at hl 0 rfl) ?_
    refine va_get (D := D) (ci := 2) (v := .ref (a 3)) (C := RX2) (T := TX2) (N := 6) hx hb hts in_Fl hown hK hP 0 rfl rfl 4 (by decide) ln_25 (fun _ h9 => h9) rfl dX2_forgetBrought_25 ?_
    refine lv_iload_n hx hb dX2_forgetBrought_28 rfl (lv_at hl 2 rfl) ?_
    refine lv_iconst (v := (0 : Int32)) hx hb dX2_forgetBrought_29 (by decide) ?_
    refine va_iast hx hb hK hP hD hS 3 0 rfl rfl h.1 dX2_forgetBrought_30 (fun H locs hP hD hS => ?_)
    have h := h.2
    obtain ⟨S_3, e_4⟩ : ∃ z : St, z = (sA S0 4 x2.toNatClampNeg (0 : Int32)) := ⟨_, rfl⟩
    have h := h S_3 e_4
    have hP : va_P D vwCl (wFl k a S_3) H := by rw [e_4]; exact hP
    have hD : va_D A (wFl k a S_3) := by rw [e_4]; exact hD
    refine lv_iinc (v := (x2 + 1)) (lv' := [(2, .int (x2 + 1)), (0, .ref (a 0)), (1, .int x1)]) hx hb dX2_forgetBrought_31 hl (k := 2) rfl rfl (by decide) rfl (fun ls hl => ?_)
    refine lv_goto (tgt := 4) hx hb dX2_forgetBrought_34 (by decide) ?_
    exact hK4 S_3 x1 (x2 + 1) H locs ls hP hD hS (lv_sub hl [1, 2, 0] rfl) h
  have L_4 : ∀ (n : Nat), ∀ (S0 : St) (x1 : Int32) (x2 : Int32), ∀ (H : Heap) (locs : List Loc) (ls : Array Slot), va_P D vwCl (wFl k a S0) H → va_D A (wFl k a S0) → va_S A s.heap H locs → lv_has ls 3 [(0, .ref (a 0)), (1, .int x1), (2, .int x2)] → wp_X2_forgetBrought_4 Q n S0 x1 x2 → W p l e rmX2_forgetBrought s m ([.ref (a 0)] : List Value).toArray below meth c H locs 0 0 (MQ below (va_Qi (fun (r : Int32) (u : St) => Q r u) (cB D k A (fun u : St => wFl k a u)) A) ([.ref (a 0)] : List Value).toArray s 0 0 A) (F0 m 4 ls []) := by
    intro n
    induction n with
    | zero => intro S0 x1 x2 H locs ls hP hD hS hl h; exact absurd h (by unfold wp_X2_forgetBrought_4; exact id)
    | succ n ih =>
      intro S0 x1 x2 H locs ls hP hD hS hl h
      unfold wp_X2_forgetBrought_4 at h
      refine lv_iload_n hx hb dX2_forgetBrought_4 rfl (lv_at hl 2 rfl) ?_
      refine lv_aload_n hx hb dX2_forgetBrought_5 rfl (lv_at hl 0 rfl) ?_
      refine va_get (D := D) (ci := 2) (v := .int (S0.1 0)) (C := RX2) (T := TX2) (N := 6) hx hb hts in_Fl hown hK hP 0 rfl rfl 0 (by decide) ln_9 (fun _ h9 => h9) rfl dX2_forgetBrought_6 ?_
      refine lv_icmp_ge (tgt := 37) hx hb dX2_forgetBrought_9 (by decide) (fun c_1 => ?_) (fun c_1 => ?_)
      · have h := h.1 c_1
        refine lv_iload_n hx hb dX2_forgetBrought_37 rfl (lv_at hl 1 rfl) ?_
        exact W.iret (v := x1) hx hb hr (fun t ht hW => ⟨⟨x1, S0, rfl, h, by rw [ht]; exact hP, va_K.moved hW.alike hK, hD⟩, hS.F ht⟩) hS.2.2 dX2_forgetBrought_38
      · have h := h.2 c_1
        refine lv_aload_n hx hb dX2_forgetBrought_12 rfl (lv_at hl 0 rfl) ?_
        refine va_get (D := D) (ci := 2) (v := .ref (a 3)) (C := RX2) (T := TX2) (N := 6) hx hb hts in_Fl hown hK hP 0 rfl rfl 4 (by decide) ln_25 (fun _ h9 => h9) rfl dX2_forgetBrought_13 ?_
        refine lv_iload_n hx hb dX2_forgetBrought_16 rfl (lv_at hl 2 rfl) ?_
        refine va_iald hx hb hK hP 3 0 rfl rfl h.1 dX2_forgetBrought_17 ?_
        have h := h.2
        refine lv_if_le (tgt := 24) hx hb dX2_forgetBrought_18 (by decide) (fun c_2 => ?_) (fun c_2 => ?_)
        · have h := h.1 c_2
          exact L_24 (fun s0 v0 v1 => wp_X2_forgetBrought_4 Q n s0 v0 v1) ih S0 x1 x2 H locs ls hP hD hS (lv_sub hl [0, 1, 2] rfl) h
        · have h := h.2 c_2
          refine lv_iinc (v := (x1 + 1)) (lv' := [(1, .int (x1 + 1)), (0, .ref (a 0)), (2, .int x2)]) hx hb dX2_forgetBrought_21 hl (k := 1) rfl rfl (by decide) rfl (fun ls hl => ?_)
          exact L_24 (fun s0 v0 v1 => wp_X2_forgetBrought_4 Q n s0 v0 v1) ih S0 (x1 + 1) x2 H locs ls hP hD hS (lv_sub hl [1, 0, 2] rfl) h
  unfold wp_X2_forgetBrought at h
  refine lv_iconst (v := (0 : Int32)) hx hb dX2_forgetBrought_0 (by decide) ?_
  refine lv_istore_n (lv' := [(1, .int (0 : Int32)), (0, .ref (a 0))]) hx hb dX2_forgetBrought_1 rfl hl (by decide) rfl (fun ls hl => ?_)
  refine lv_iconst (v := (0 : Int32)) hx hb dX2_forgetBrought_2 (by decide) ?_
  refine lv_istore_n (lv' := [(2, .int (0 : Int32)), (1, .int (0 : Int32)), (0, .ref (a 0))]) hx hb dX2_forgetBrought_3 rfl hl (by decide) rfl (fun ls hl => ?_)
  obtain ⟨n_5, h⟩ := h
  exact L_4 n_5 S0 (0 : Int32) (0 : Int32) H locs ls hP hD hS (lv_sub hl [2, 1, 0] rfl) h
/-! X2_allBrought -/
def wp_X2_allBrought_4 (Q : Int32 → St → Prop) : Nat → St → Int32 → Int32 → Prop
  | 0, _, _, _ => False
  | n + 1, S0, x1, x2 => (((S0.1 0) ≤ x2) → (Q x1 S0)) ∧ ((¬ (S0.1 0) ≤ x2) → (vp_in x2 8 ∧ (wp_X2_allBrought_4 Q n S0 (x1 + (S0.2 4 x2.toNatClampNeg)) (x2 + 1))))
def wp_X2_allBrought (S0 : St) (Q : Int32 → St → Prop) : Prop := ∃ i, wp_X2_allBrought_4 Q i S0 (0 : Int32) (0 : Int32)
abbrev rmX2_allBrought : Room := { frames := 0, cells := 0, slots := 0, locals := 0 }
set_option maxRecDepth 100000 in
set_option maxHeartbeats 4000000 in
theorem c_X2_allBrought (l : Launch) (D : va_G) (k : Nat → ClassId) (a : Nat → Nat) (S0 : St) (sz : Nat) (Q : Int32 → St → Prop) (h : wp_X2_allBrought S0 Q) : Met l yX2_allBrought wsX2_allBrought rmX2_allBrought (cPc D k (wFl k a S0) [.ref (a 0)] sz) (va_Qi (fun (r : Int32) (u : St) => Q r u) (cB D k (va_A (wFl k a S0) sz) (fun u : St => wFl k a u)) (va_A (wFl k a S0) sz)) 0 0 (va_A (wFl k a S0) sz) := by
  refine ct_entry (cc := cX2_allBrought) (maxL := 3) (ret := (some .int)) (Rn := RX2) (Qc := fun A => (va_Qi (fun (r : Int32) (u : St) => Q r u) (cB D k A (fun u : St => wFl k a u)) A)) (by decide) rfl rfl (Nat.le_of_ble_eq_true rfl) ?_
  intro p e s m below meth c hx hb hr hlocks hml hts hown hnw hK A hA H locs hP hD hS ls hl
  have hl : lv_has ls 3 [(0, .ref (a 0))] := hl
  have ln_25 := hts (.fieldLink RX2 25 "WithTheSameOne$Floor" "brought" "[I") (by decide +kernel)
  have ln_9 := hts (.fieldLink RX2 9 "WithTheSameOne$Floor" "size" "I") (by decide +kernel)
  have in_Fl : ∀ w ∈ wsX20, w ∈ wsX2_allBrought := fun _ h => List.mem_cons_of_mem _ (List.mem_append_right _ h)
  have L_4 : ∀ (n : Nat), ∀ (S0 : St) (x1 : Int32) (x2 : Int32), ∀ (H : Heap) (locs : List Loc) (ls : Array Slot), va_P D vwCl (wFl k a S0) H → va_D A (wFl k a S0) → va_S A s.heap H locs → lv_has ls 3 [(0, .ref (a 0)), (1, .int x1), (2, .int x2)] → wp_X2_allBrought_4 Q n S0 x1 x2 → W p l e rmX2_allBrought s m ([.ref (a 0)] : List Value).toArray below meth c H locs 0 0 (MQ below (va_Qi (fun (r : Int32) (u : St) => Q r u) (cB D k A (fun u : St => wFl k a u)) A) ([.ref (a 0)] : List Value).toArray s 0 0 A) (F0 m 4 ls []) := by
    intro n
    induction n with
    | zero => intro S0 x1 x2 H locs ls hP hD hS hl h; exact absurd h (by unfold wp_X2_allBrought_4; exact id)
    | succ n ih =>
      intro S0 x1 x2 H locs ls hP hD hS hl h
      unfold wp_X2_allBrought_4 at h
      refine lv_iload_n hx hb dX2_allBrought_4 rfl (lv_at hl 2 rfl) ?_
      refine lv_aload_n hx hb dX2_allBrought_5 rfl (lv_at hl 0 rfl) ?_
      refine va_get (D := D) (ci := 2) (v := .int (S0.1 0)) (C := RX2) (T := TX2) (N := 6) hx hb hts in_Fl hown hK hP 0 rfl rfl 0 (by decide) ln_9 (fun _ h9 => h9) rfl dX2_allBrought_6 ?_
      refine lv_icmp_ge (tgt := 27) hx hb dX2_allBrought_9 (by decide) (fun c_1 => ?_) (fun c_1 => ?_)
      · have h := h.1 c_1
        refine lv_iload_n hx hb dX2_allBrought_27 rfl (lv_at hl 1 rfl) ?_
        exact W.iret (v := x1) hx hb hr (fun t ht hW => ⟨⟨x1, S0, rfl, h, by rw [ht]; exact hP, va_K.moved hW.alike hK, hD⟩, hS.F ht⟩) hS.2.2 dX2_allBrought_28
      · have h := h.2 c_1
        refine lv_iload_n hx hb dX2_allBrought_12 rfl (lv_at hl 1 rfl) ?_
        refine lv_aload_n hx hb dX2_allBrought_13 rfl (lv_at hl 0 rfl) ?_
        refine va_get (D := D) (ci := 2) (v := .ref (a 3)) (C := RX2) (T := TX2) (N := 6) hx hb hts in_Fl hown hK hP 0 rfl rfl 4 (by decide) ln_25 (fun _ h9 => h9) rfl dX2_allBrought_14 ?_
        refine lv_iload_n hx hb dX2_allBrought_17 rfl (lv_at hl 2 rfl) ?_
        refine va_iald hx hb hK hP 3 0 rfl rfl h.1 dX2_allBrought_18 ?_
        have h := h.2
        refine lv_iadd hx hb dX2_allBrought_19 ?_
        refine lv_istore_n (lv' := [(1, .int (x1 + (S0.2 4 x2.toNatClampNeg))), (0, .ref (a 0)), (2, .int x2)]) hx hb dX2_allBrought_20 rfl hl (by decide) rfl (fun ls hl => ?_)
        refine lv_iinc (v := (x2 + 1)) (lv' := [(2, .int (x2 + 1)), (1, .int (x1 + (S0.2 4 x2.toNatClampNeg))), (0, .ref (a 0))]) hx hb dX2_allBrought_21 hl (k := 2) rfl rfl (by decide) rfl (fun ls hl => ?_)
        refine lv_goto (tgt := 4) hx hb dX2_allBrought_24 (by decide) ?_
        exact ih S0 (x1 + (S0.2 4 x2.toNatClampNeg)) (x2 + 1) H locs ls hP hD hS (lv_sub hl [2, 1, 0] rfl) h
  unfold wp_X2_allBrought at h
  refine lv_iconst (v := (0 : Int32)) hx hb dX2_allBrought_0 (by decide) ?_
  refine lv_istore_n (lv' := [(1, .int (0 : Int32)), (0, .ref (a 0))]) hx hb dX2_allBrought_1 rfl hl (by decide) rfl (fun ls hl => ?_)
  refine lv_iconst (v := (0 : Int32)) hx hb dX2_allBrought_2 (by decide) ?_
  refine lv_istore_n (lv' := [(2, .int (0 : Int32)), (1, .int (0 : Int32)), (0, .ref (a 0))]) hx hb dX2_allBrought_3 rfl hl (by decide) rfl (fun ls hl => ?_)
  obtain ⟨n_2, h⟩ := h
  exact L_4 n_2 S0 (0 : Int32) (0 : Int32) H locs ls hP hD hS (lv_sub hl [2, 1, 0] rfl) h
/-! X2_pairsAllowed -/
def wp_X2_pairsAllowed_16 (K4 : St → Int32 → Int32 → Prop) (Q : Int32 → St → Prop) : Nat → St → Int32 → Int32 → Int32 → Prop
  | 0, _, _, _, _ => False
  | n + 1, S0, x1, x2, x3 => (((S0.1 0) ≤ x3) → (K4 S0 x1 (x2 + 1))) ∧ ((¬ (S0.1 0) ≤ x3) → (wp_X2_isAllowed S0 x2 x3 (fun r_3 u_4 => ((r_3 = 0) → (wp_X2_pairsAllowed_16 K4 Q n u_4 x1 x2 (x3 + 1))) ∧ ((¬ r_3 = 0) → (wp_X2_pairsAllowed_16 K4 Q n u_4 (x1 + 1) x2 (x3 + 1))))))
def wp_X2_pairsAllowed_4 (Q : Int32 → St → Prop) : Nat → St → Int32 → Int32 → Prop
  | 0, _, _, _ => False
  | n + 1, S0, x1, x2 => (((S0.1 0) ≤ x2) → (Q x1 S0)) ∧ ((¬ (S0.1 0) ≤ x2) → (∃ i, wp_X2_pairsAllowed_16 (fun s0 v0 v1 => wp_X2_pairsAllowed_4 Q n s0 v0 v1) Q i S0 x1 x2 (x2 + (1 : Int32))))
def wp_X2_pairsAllowed (S0 : St) (Q : Int32 → St → Prop) : Prop := ∃ i, wp_X2_pairsAllowed_4 Q i S0 (0 : Int32) (0 : Int32)
abbrev rmX2_pairsAllowed : Room := { frames := 5, cells := 0, slots := 0, locals := 118 }
set_option maxRecDepth 100000 in
set_option maxHeartbeats 4000000 in
theorem c_X2_pairsAllowed (l : Launch) (D : va_G) (k : Nat → ClassId) (a : Nat → Nat) (S0 : St) (sz : Nat) (Q : Int32 → St → Prop) (h : wp_X2_pairsAllowed S0 Q) : Met l yX2_pairsAllowed wsX2_pairsAllowed rmX2_pairsAllowed (cPc D k (wFl k a S0) [.ref (a 0)] sz) (va_Qi (fun (r : Int32) (u : St) => Q r u) (cB D k (va_A (wFl k a S0) sz) (fun u : St => wFl k a u)) (va_A (wFl k a S0) sz)) 0 0 (va_A (wFl k a S0) sz) := by
  refine ct_entry (cc := cX2_pairsAllowed) (maxL := 4) (ret := (some .int)) (Rn := RX2) (Qc := fun A => (va_Qi (fun (r : Int32) (u : St) => Q r u) (cB D k A (fun u : St => wFl k a u)) A)) (by decide) rfl rfl (Nat.le_of_ble_eq_true rfl) ?_
  intro p e s m below meth c hx hb hr hlocks hml hts hown hnw hK A hA H locs hP hD hS ls hl
  have hl : lv_has ls 4 [(0, .ref (a 0))] := hl
  have ln_9 := hts (.fieldLink RX2 9 "WithTheSameOne$Floor" "size" "I") (by decide +kernel)
  have in_Fl : ∀ w ∈ wsX20, w ∈ wsX2_pairsAllowed := fun _ h => List.mem_cons_of_mem _ (List.mem_append_right _ h)
  have L_16 : ∀ (K4 : St → Int32 → Int32 → Prop), (∀ (S0 : St) (x1 : Int32) (x2 : Int32), ∀ (H : Heap) (locs : List Loc) (ls : Array Slot), va_P D vwCl (wFl k a S0) H → va_D A (wFl k a S0) → va_S A s.heap H locs → lv_has ls 4 [(0, .ref (a 0)), (1, .int x1), (2, .int x2)] → K4 S0 x1 x2 → W p l e rmX2_pairsAllowed s m ([.ref (a 0)] : List Value).toArray below meth c H locs 0 0 (MQ below (va_Qi (fun (r : Int32) (u : St) => Q r u) (cB D k A (fun u : St => wFl k a u)) A) ([.ref (a 0)] : List Value).toArray s 0 0 A) (F0 m 4 ls [])) → ∀ (n : Nat), ∀ (S0 : St) (x1 : Int32) (x2 : Int32) (x3 : Int32), ∀ (H : Heap) (locs : List Loc) (ls : Array Slot), va_P D vwCl (wFl k a S0) H → va_D A (wFl k a S0) → va_S A s.heap H locs → lv_has ls 4 [(0, .ref (a 0)), (1, .int x1), (2, .int x2), (3, .int x3)] → wp_X2_pairsAllowed_16 K4 Q n S0 x1 x2 x3 → W p l e rmX2_pairsAllowed s m ([.ref (a 0)] : List Value).toArray below meth c H locs 0 0 (MQ below (va_Qi (fun (r : Int32) (u : St) => Q r u) (cB D k A (fun u : St => wFl k a u)) A) ([.ref (a 0)] : List Value).toArray s 0 0 A) (F0 m 16 ls []) := by
    intro K4 hK4
    intro n
    induction n with
    | zero => intro S0 x1 x2 x3 H locs ls hP hD hS hl h; exact absurd h (by unfold wp_X2_pairsAllowed_16; exact id)
    | succ n ih =>
      intro S0 x1 x2 x3 H locs ls hP hD hS hl h
      unfold wp_X2_pairsAllowed_16 at h
      refine lv_iload_n hx hb dX2_pairsAllowed_16 rfl (lv_at hl 3 rfl) ?_
      refine lv_aload_n hx hb dX2_pairsAllowed_17 rfl (lv_at hl 0 rfl) ?_
      refine va_get (D := D) (ci := 2) (v := .int (S0.1 0)) (C := RX2) (T := TX2) (N := 6) hx hb hts in_Fl hown hK hP 0 rfl rfl 0 (by decide) ln_9 (fun _ h9 => h9) rfl dX2_pairsAllowed_18 ?_
      refine lv_icmp_ge (tgt := 42) hx hb dX2_pairsAllowed_21 (by decide) (fun c_2 => ?_) (fun c_2 => ?_)
      · have h := h.1 c_2
        refine lv_iinc (v := (x2 + 1)) (lv' := [(2, .int (x2 + 1)), (0, .ref (a 0)), (1, .int x1), (3, .int x3)]) hx hb dX2_pairsAllowed_42 hl (k := 2) rfl rfl (by decide) rfl (fun ls hl => ?_)
        refine lv_goto (tgt := 4) hx hb dX2_pairsAllowed_45 (by decide) ?_
        exact hK4 S0 x1 (x2 + 1) H locs ls hP hD hS (lv_sub hl [1, 2, 0] rfl) h
      · have h := h.2 c_2
        refine lv_aload_n hx hb dX2_pairsAllowed_24 rfl (lv_at hl 0 rfl) ?_
        refine lv_iload_n hx hb dX2_pairsAllowed_25 rfl (lv_at hl 2 rfl) ?_
        refine lv_iload_n hx hb dX2_pairsAllowed_26 rfl (lv_at hl 3 rfl) ?_
        have hFc := fr_self hD hS hA
        refine gv_i (va_runV (As := [.int x2, .int x3]) (rest := []) ⟨hx, hb, hml, hown, hts⟩ (c_X2_isAllowed l D k a S0 H.size x2 x3 _ h) (cwV 2 hts gX2_pairsAllowed_X2_isAllowed rfl rfl rfl (by decide +kernel) ⟨Nat.le_of_ble_eq_true rfl, Nat.le_of_ble_eq_true rfl⟩) (gv_preV hK hnw hP hD (ci := 2) rfl 0 rfl) rfl rfl hl.1 rfl (lv_room (Nat.le_of_ble_eq_true rfl)) dX2_pairsAllowed_27 ⟨Nat.zero_le _, Nat.zero_le _⟩) hS hFc (fun r_3 u_4 H locs h hP1 hD1 hk1 hS => ?_)
        have hP := hP1
        have hD := hD1.weaken (fun _ _ _ z => hFc _ z)
        refine lv_if_eq (tgt := 36) hx hb dX2_pairsAllowed_30 (by decide) (fun c_5 => ?_) (fun c_5 => ?_)
        · have h := h.1 c_5
          refine lv_iinc (v := (x3 + 1)) (lv' := [(3, .int (x3 + 1)), (0, .ref (a 0)), (1, .int x1), (2, .int x2)]) hx hb dX2_pairsAllowed_36 hl (k := 3) rfl rfl (by decide) rfl (fun ls hl => ?_)
          refine lv_goto (tgt := 16) hx hb dX2_pairsAllowed_39 (by decide) ?_
          exact ih u_4 x1 x2 (x3 + 1) H locs ls hP hD hS (lv_sub hl [1, 2, 3, 0] rfl) h
        · have h := h.2 c_5
          refine lv_iinc (v := (x1 + 1)) (lv' := [(1, .int (x1 + 1)), (0, .ref (a 0)), (2, .int x2), (3, .int x3)]) hx hb dX2_pairsAllowed_33 hl (k := 1) rfl rfl (by decide) rfl (fun ls hl => ?_)
          refine lv_iinc (v := (x3 + 1)) (lv' := [(3, .int (x3 + 1)), (1, .int (x1 + 1)), (0, .ref (a 0)), (2, .int x2)]) hx hb dX2_pairsAllowed_36 hl (k := 3) rfl rfl (by decide) rfl (fun ls hl => ?_)
          refine lv_goto (tgt := 16) hx hb dX2_pairsAllowed_39 (by decide) ?_
          exact ih u_4 (x1 + 1) x2 (x3 + 1) H locs ls hP hD hS (lv_sub hl [2, 1, 3, 0] rfl) h
  have L_4 : ∀ (n : Nat), ∀ (S0 : St) (x1 : Int32) (x2 : Int32), ∀ (H : Heap) (locs : List Loc) (ls : Array Slot), va_P D vwCl (wFl k a S0) H → va_D A (wFl k a S0) → va_S A s.heap H locs → lv_has ls 4 [(0, .ref (a 0)), (1, .int x1), (2, .int x2)] → wp_X2_pairsAllowed_4 Q n S0 x1 x2 → W p l e rmX2_pairsAllowed s m ([.ref (a 0)] : List Value).toArray below meth c H locs 0 0 (MQ below (va_Qi (fun (r : Int32) (u : St) => Q r u) (cB D k A (fun u : St => wFl k a u)) A) ([.ref (a 0)] : List Value).toArray s 0 0 A) (F0 m 4 ls []) := by
    intro n
    induction n with
    | zero => intro S0 x1 x2 H locs ls hP hD hS hl h; exact absurd h (by unfold wp_X2_pairsAllowed_4; exact id)
    | succ n ih =>
      intro S0 x1 x2 H locs ls hP hD hS hl h
      unfold wp_X2_pairsAllowed_4 at h
      refine lv_iload_n hx hb dX2_pairsAllowed_4 rfl (lv_at hl 2 rfl) ?_
      refine lv_aload_n hx hb dX2_pairsAllowed_5 rfl (lv_at hl 0 rfl) ?_
      refine va_get (D := D) (ci := 2) (v := .int (S0.1 0)) (C := RX2) (T := TX2) (N := 6) hx hb hts in_Fl hown hK hP 0 rfl rfl 0 (by decide) ln_9 (fun _ h9 => h9) rfl dX2_pairsAllowed_6 ?_
      refine lv_icmp_ge (tgt := 48) hx hb dX2_pairsAllowed_9 (by decide) (fun c_1 => ?_) (fun c_1 => ?_)
      · have h := h.1 c_1
        refine lv_iload_n hx hb dX2_pairsAllowed_48 rfl (lv_at hl 1 rfl) ?_
        exact W.iret (v := x1) hx hb hr (fun t ht hW => ⟨⟨x1, S0, rfl, h, by rw [ht]; exact hP, va_K.moved hW.alike hK, hD⟩, hS.F ht⟩) hS.2.2 dX2_pairsAllowed_49
      · have h := h.2 c_1
        refine lv_iload_n hx hb dX2_pairsAllowed_12 rfl (lv_at hl 2 rfl) ?_
        refine lv_iconst (v := (1 : Int32)) hx hb dX2_pairsAllowed_13 (by decide) ?_
        refine lv_iadd hx hb dX2_pairsAllowed_14 ?_
        refine lv_istore_n (lv' := [(3, .int (x2 + (1 : Int32))), (0, .ref (a 0)), (1, .int x1), (2, .int x2)]) hx hb dX2_pairsAllowed_15 rfl hl (by decide) rfl (fun ls hl => ?_)
        obtain ⟨n_6, h⟩ := h
        exact L_16 (fun s0 v0 v1 => wp_X2_pairsAllowed_4 Q n s0 v0 v1) ih n_6 S0 x1 x2 (x2 + (1 : Int32)) H locs ls hP hD hS (lv_sub hl [1, 2, 3, 0] rfl) h
  unfold wp_X2_pairsAllowed at h
  refine lv_iconst (v := (0 : Int32)) hx hb dX2_pairsAllowed_0 (by decide) ?_
  refine lv_istore_n (lv' := [(1, .int (0 : Int32)), (0, .ref (a 0))]) hx hb dX2_pairsAllowed_1 rfl hl (by decide) rfl (fun ls hl => ?_)
  refine lv_iconst (v := (0 : Int32)) hx hb dX2_pairsAllowed_2 (by decide) ?_
  refine lv_istore_n (lv' := [(2, .int (0 : Int32)), (1, .int (0 : Int32)), (0, .ref (a 0))]) hx hb dX2_pairsAllowed_3 rfl hl (by decide) rfl (fun ls hl => ?_)
  obtain ⟨n_7, h⟩ := h
  exact L_4 n_7 S0 (0 : Int32) (0 : Int32) H locs ls hP hD hS (lv_sub hl [2, 1, 0] rfl) h
/-! X2_heapOf -/
def wp_X2_heapOf_20 (K6 : St → Int32 → Int32 → Prop) (x1 : Int32) (Q : Int32 → St → Prop) : Nat → St → Int32 → Int32 → Int32 → Int32 → Prop
  | 0, _, _, _, _, _ => False
  | n + 1, S0, x2, x3, x4, x5 => (((S0.1 0) ≤ x5) → (K6 S0 x4 (x3 + 1))) ∧ ((¬ (S0.1 0) ≤ x5) → (wp_X6_hasBit x2 x5 (fun r_3 => ((r_3 = 0) → (wp_X2_heapOf_20 K6 x1 Q n S0 x2 x3 x4 (x5 + 1))) ∧ ((¬ r_3 = 0) → (vp_in x5 8 ∧ (wp_X2_heapOf_20 K6 x1 Q n S0 x2 x3 (x4 ||| (S0.2 5 x5.toNatClampNeg)) (x5 + 1)))))))
def wp_X2_heapOf_6 (x1 : Int32) (Q : Int32 → St → Prop) : Nat → St → Int32 → Int32 → Prop
  | 0, _, _, _ => False
  | n + 1, S0, x2, x3 => (((S0.1 0) ≤ x3) → (Q x2 S0)) ∧ ((¬ (S0.1 0) ≤ x3) → (∃ i, wp_X2_heapOf_20 (fun s0 v0 v1 => wp_X2_heapOf_6 x1 Q n s0 v0 v1) x1 Q i S0 x2 x3 x2 (0 : Int32)))
def wp_X2_heapOf (S0 : St) (x1 : Int32) (Q : Int32 → St → Prop) : Prop := ∃ i, wp_X2_heapOf_6 x1 Q i S0 ((1 : Int32) <<< (x1 &&& 31)) (1 : Int32)
abbrev rmX2_heapOf : Room := { frames := 1, cells := 0, slots := 0, locals := 21 }
set_option maxRecDepth 100000 in
set_option maxHeartbeats 4000000 in
theorem c_X2_heapOf (l : Launch) (D : va_G) (k : Nat → ClassId) (a : Nat → Nat) (S0 : St) (sz : Nat) (x1 : Int32) (Q : Int32 → St → Prop) (h : wp_X2_heapOf S0 x1 Q) : Met l yX2_heapOf wsX2_heapOf rmX2_heapOf (cPc D k (wFl k a S0) [.ref (a 0), .int x1] sz) (va_Qi (fun (r : Int32) (u : St) => Q r u) (cB D k (va_A (wFl k a S0) sz) (fun u : St => wFl k a u)) (va_A (wFl k a S0) sz)) 0 0 (va_A (wFl k a S0) sz) := by
  refine ct_entry (cc := cX2_heapOf) (maxL := 6) (ret := (some .int)) (Rn := RX2) (Qc := fun A => (va_Qi (fun (r : Int32) (u : St) => Q r u) (cB D k A (fun u : St => wFl k a u)) A)) (by decide) rfl rfl (Nat.le_of_ble_eq_true rfl) ?_
  intro p e s m below meth c hx hb hr hlocks hml hts hown hnw hK A hA H locs hP hD hS ls hl
  have hl : lv_has ls 6 [(0, .ref (a 0)), (1, .int x1)] := hl
  have ln_28 := hts (.fieldLink RX2 28 "WithTheSameOne$Floor" "partners" "[I") (by decide +kernel)
  have ln_9 := hts (.fieldLink RX2 9 "WithTheSameOne$Floor" "size" "I") (by decide +kernel)
  have ni_X6 := hts (.initialized RX6) (by decide +kernel)
  have ns_yX6_hasBit := hts (.static yX6_hasBit) (by decide +kernel)
  have in_Fl : ∀ w ∈ wsX20, w ∈ wsX2_heapOf := fun _ h => List.mem_cons_of_mem _ (List.mem_append_right _ h)
  have L_20 : ∀ (K6 : St → Int32 → Int32 → Prop), (∀ (S0 : St) (x2 : Int32) (x3 : Int32), ∀ (H : Heap) (locs : List Loc) (ls : Array Slot), va_P D vwCl (wFl k a S0) H → va_D A (wFl k a S0) → va_S A s.heap H locs → lv_has ls 6 [(0, .ref (a 0)), (2, .int x2), (3, .int x3)] → K6 S0 x2 x3 → W p l e rmX2_heapOf s m ([.ref (a 0), .int x1] : List Value).toArray below meth c H locs 0 0 (MQ below (va_Qi (fun (r : Int32) (u : St) => Q r u) (cB D k A (fun u : St => wFl k a u)) A) ([.ref (a 0), .int x1] : List Value).toArray s 0 0 A) (F0 m 6 ls [])) → ∀ (n : Nat), ∀ (S0 : St) (x2 : Int32) (x3 : Int32) (x4 : Int32) (x5 : Int32), ∀ (H : Heap) (locs : List Loc) (ls : Array Slot), va_P D vwCl (wFl k a S0) H → va_D A (wFl k a S0) → va_S A s.heap H locs → lv_has ls 6 [(0, .ref (a 0)), (2, .int x2), (3, .int x3), (4, .int x4), (5, .int x5)] → wp_X2_heapOf_20 K6 x1 Q n S0 x2 x3 x4 x5 → W p l e rmX2_heapOf s m ([.ref (a 0), .int x1] : List Value).toArray below meth c H locs 0 0 (MQ below (va_Qi (fun (r : Int32) (u : St) => Q r u) (cB D k A (fun u : St => wFl k a u)) A) ([.ref (a 0), .int x1] : List Value).toArray s 0 0 A) (F0 m 20 ls []) := by
    intro K6 hK6
    intro n
    induction n with
    | zero => intro S0 x2 x3 x4 x5 H locs ls hP hD hS hl h; exact absurd h (by unfold wp_X2_heapOf_20; exact id)
    | succ n ih =>
      intro S0 x2 x3 x4 x5 H locs ls hP hD hS hl h
      unfold wp_X2_heapOf_20 at h
      refine lv_iload hx hb dX2_heapOf_20 (lv_at hl 4 rfl) ?_
      refine lv_aload_n hx hb dX2_heapOf_22 rfl (lv_at hl 0 rfl) ?_
      refine va_get (D := D) (ci := 2) (v := .int (S0.1 0)) (C := RX2) (T := TX2) (N := 6) hx hb hts in_Fl hown hK hP 0 rfl rfl 0 (by decide) ln_9 (fun _ h9 => h9) rfl dX2_heapOf_23 ?_
      refine lv_icmp_ge (tgt := 56) hx hb dX2_heapOf_26 (by decide) (fun c_2 => ?_) (fun c_2 => ?_)
      · have h := h.1 c_2
        refine lv_iload hx hb dX2_heapOf_56 (lv_at hl 3 rfl) ?_
        refine lv_istore_n (lv' := [(2, .int x4), (0, .ref (a 0)), (3, .int x3), (4, .int x4), (5, .int x5)]) hx hb dX2_heapOf_58 rfl hl (by decide) rfl (fun ls hl => ?_)
        refine lv_iinc (v := (x3 + 1)) (lv' := [(3, .int (x3 + 1)), (2, .int x4), (0, .ref (a 0)), (4, .int x4), (5, .int x5)]) hx hb dX2_heapOf_59 hl (k := 2) rfl rfl (by decide) rfl (fun ls hl => ?_)
        refine lv_goto (tgt := 6) hx hb dX2_heapOf_62 (by decide) ?_
        exact hK6 S0 x4 (x3 + 1) H locs ls hP hD hS (lv_sub hl [2, 1, 0] rfl) h
      · have h := h.2 c_2
        refine lv_iload_n hx hb dX2_heapOf_29 rfl (lv_at hl 1 rfl) ?_
        refine lv_iload hx hb dX2_heapOf_30 (lv_at hl 4 rfl) ?_
        refine gs_i (va_runSN (As := [.int x2, .int x5]) (rest := []) ⟨hx, hb, hml, hown, hts⟩ (c_X6_hasBit l x2 x5 _ h) ⟨va_cnB 2 hts gX2_heapOf_X6_hasBit_n46 rfl rfl rfl (hnw.1 _ (List.mem_of_getElem? (i := 6) rfl)) ni_X6 (by decide +kernel) ⟨Nat.le_of_ble_eq_true rfl, Nat.le_of_ble_eq_true rfl⟩, ns_yX6_hasBit, trivial⟩ preEq rfl rfl hl.1 rfl (lv_room (Nat.le_of_ble_eq_true rfl)) dX2_heapOf_32 ⟨Nat.zero_le _, Nat.zero_le _⟩) (fun r_3 h => ?_)
        refine lv_if_eq (tgt := 50) hx hb dX2_heapOf_35 (by decide) (fun c_4 => ?_) (fun c_4 => ?_)
        · have h := h.1 c_4
          refine lv_iinc (v := (x5 + 1)) (lv' := [(5, .int (x5 + 1)), (0, .ref (a 0)), (2, .int x2), (3, .int x3), (4, .int x4)]) hx hb dX2_heapOf_50 hl (k := 4) rfl rfl (by decide) rfl (fun ls hl => ?_)
          refine lv_goto (tgt := 20) hx hb dX2_heapOf_53 (by decide) ?_
          exact ih S0 x2 x3 x4 (x5 + 1) H locs ls hP hD hS (lv_sub hl [1, 2, 3, 4, 0] rfl) h
        · have h := h.2 c_4
          refine lv_iload hx hb dX2_heapOf_38 (lv_at hl 3 rfl) ?_
          refine lv_aload_n hx hb dX2_heapOf_40 rfl (lv_at hl 0 rfl) ?_
          refine va_get (D := D) (ci := 2) (v := .ref (a 4)) (C := RX2) (T := TX2) (N := 6) hx hb hts in_Fl hown hK hP 0 rfl rfl 5 (by decide) ln_28 (fun _ h9 => h9) rfl dX2_heapOf_41 ?_
          refine lv_iload hx hb dX2_heapOf_44 (lv_at hl 4 rfl) ?_
          refine va_iald hx hb hK hP 4 0 rfl rfl h.1 dX2_heapOf_46 ?_
          have h := h.2
          refine lv_ior hx hb dX2_heapOf_47 ?_
          refine lv_istore (lv' := [(4, .int (x4 ||| (S0.2 5 x5.toNatClampNeg))), (0, .ref (a 0)), (2, .int x2), (3, .int x3), (5, .int x5)]) hx hb dX2_heapOf_48 hl (by decide) rfl (fun ls hl => ?_)
          refine lv_iinc (v := (x5 + 1)) (lv' := [(5, .int (x5 + 1)), (4, .int (x4 ||| (S0.2 5 x5.toNatClampNeg))), (0, .ref (a 0)), (2, .int x2), (3, .int x3)]) hx hb dX2_heapOf_50 hl (k := 4) rfl rfl (by decide) rfl (fun ls hl => ?_)
          refine lv_goto (tgt := 20) hx hb dX2_heapOf_53 (by decide) ?_
          exact ih S0 x2 x3 (x4 ||| (S0.2 5 x5.toNatClampNeg)) (x5 + 1) H locs ls hP hD hS (lv_sub hl [2, 3, 4, 1, 0] rfl) h
  have L_6 : ∀ (n : Nat), ∀ (S0 : St) (x2 : Int32) (x3 : Int32), ∀ (H : Heap) (locs : List Loc) (ls : Array Slot), va_P D vwCl (wFl k a S0) H → va_D A (wFl k a S0) → va_S A s.heap H locs → lv_has ls 6 [(0, .ref (a 0)), (2, .int x2), (3, .int x3)] → wp_X2_heapOf_6 x1 Q n S0 x2 x3 → W p l e rmX2_heapOf s m ([.ref (a 0), .int x1] : List Value).toArray below meth c H locs 0 0 (MQ below (va_Qi (fun (r : Int32) (u : St) => Q r u) (cB D k A (fun u : St => wFl k a u)) A) ([.ref (a 0), .int x1] : List Value).toArray s 0 0 A) (F0 m 6 ls []) := by
    intro n
    induction n with
    | zero => intro S0 x2 x3 H locs ls hP hD hS hl h; exact absurd h (by unfold wp_X2_heapOf_6; exact id)
    | succ n ih =>
      intro S0 x2 x3 H locs ls hP hD hS hl h
      unfold wp_X2_heapOf_6 at h
      refine lv_iload_n hx hb dX2_heapOf_6 rfl (lv_at hl 2 rfl) ?_
      refine lv_aload_n hx hb dX2_heapOf_7 rfl (lv_at hl 0 rfl) ?_
      refine va_get (D := D) (ci := 2) (v := .int (S0.1 0)) (C := RX2) (T := TX2) (N := 6) hx hb hts in_Fl hown hK hP 0 rfl rfl 0 (by decide) ln_9 (fun _ h9 => h9) rfl dX2_heapOf_8 ?_
      refine lv_icmp_ge (tgt := 65) hx hb dX2_heapOf_11 (by decide) (fun c_1 => ?_) (fun c_1 => ?_)
      · have h := h.1 c_1
        refine lv_iload_n hx hb dX2_heapOf_65 rfl (lv_at hl 1 rfl) ?_
        exact W.iret (v := x2) hx hb hr (fun t ht hW => ⟨⟨x2, S0, rfl, h, by rw [ht]; exact hP, va_K.moved hW.alike hK, hD⟩, hS.F ht⟩) hS.2.2 dX2_heapOf_66
      · have h := h.2 c_1
        refine lv_iload_n hx hb dX2_heapOf_14 rfl (lv_at hl 1 rfl) ?_
        refine lv_istore (lv' := [(4, .int x2), (0, .ref (a 0)), (2, .int x2), (3, .int x3)]) hx hb dX2_heapOf_15 hl (by decide) rfl (fun ls hl => ?_)
        refine lv_iconst (v := (0 : Int32)) hx hb dX2_heapOf_17 (by decide) ?_
        refine lv_istore (lv' := [(5, .int (0 : Int32)), (4, .int x2), (0, .ref (a 0)), (2, .int x2), (3, .int x3)]) hx hb dX2_heapOf_18 hl (by decide) rfl (fun ls hl => ?_)
        obtain ⟨n_5, h⟩ := h
        exact L_20 (fun s0 v0 v1 => wp_X2_heapOf_6 x1 Q n s0 v0 v1) ih n_5 S0 x2 x3 x2 (0 : Int32) H locs ls hP hD hS (lv_sub hl [2, 3, 4, 1, 0] rfl) h
  unfold wp_X2_heapOf at h
  refine lv_iconst (v := (1 : Int32)) hx hb dX2_heapOf_0 (by decide) ?_
  refine lv_iload_n hx hb dX2_heapOf_1 rfl (lv_at hl 1 rfl) ?_
  refine lv_ishl hx hb dX2_heapOf_2 ?_
  refine lv_istore_n (lv' := [(2, .int ((1 : Int32) <<< (x1 &&& 31))), (0, .ref (a 0)), (1, .int x1)]) hx hb dX2_heapOf_3 rfl hl (by decide) rfl (fun ls hl => ?_)
  refine lv_iconst (v := (1 : Int32)) hx hb dX2_heapOf_4 (by decide) ?_
  refine lv_istore_n (lv' := [(3, .int (1 : Int32)), (2, .int ((1 : Int32) <<< (x1 &&& 31))), (0, .ref (a 0)), (1, .int x1)]) hx hb dX2_heapOf_5 rfl hl (by decide) rfl (fun ls hl => ?_)
  obtain ⟨n_6, h⟩ := h
  exact L_6 n_6 S0 ((1 : Int32) <<< (x1 &&& 31)) (1 : Int32) H locs ls hP hD hS (lv_sub hl [2, 1, 0] rfl) h
/-! X2_heaps -/
def wp_X2_heaps_6 (Q : Int32 → St → Prop) : Nat → St → Int32 → Int32 → Int32 → Prop
  | 0, _, _, _, _ => False
  | n + 1, S0, x1, x2, x3 => (((S0.1 0) ≤ x3) → (Q x2 S0)) ∧ ((¬ (S0.1 0) ≤ x3) → (wp_X6_hasBit x1 x3 (fun r_2 => ((¬ r_2 = 0) → (wp_X2_heaps_6 Q n S0 x1 x2 (x3 + 1))) ∧ ((r_2 = 0) → (wp_X2_heapOf S0 x3 (fun r_4 u_5 => wp_X2_heaps_6 Q n u_5 (x1 ||| r_4) (x2 + 1) (x3 + 1)))))))
def wp_X2_heaps (S0 : St) (Q : Int32 → St → Prop) : Prop := ∃ i, wp_X2_heaps_6 Q i S0 (0 : Int32) (0 : Int32) (0 : Int32)
abbrev rmX2_heaps : Room := { frames := 2, cells := 0, slots := 0, locals := 46 }
set_option maxRecDepth 100000 in
set_option maxHeartbeats 4000000 in
theorem c_X2_heaps (l : Launch) (D : va_G) (k : Nat → ClassId) (a : Nat → Nat) (S0 : St) (sz : Nat) (Q : Int32 → St → Prop) (h : wp_X2_heaps S0 Q) : Met l yX2_heaps wsX2_heaps rmX2_heaps (cPc D k (wFl k a S0) [.ref (a 0)] sz) (va_Qi (fun (r : Int32) (u : St) => Q r u) (cB D k (va_A (wFl k a S0) sz) (fun u : St => wFl k a u)) (va_A (wFl k a S0) sz)) 0 0 (va_A (wFl k a S0) sz) := by
  refine ct_entry (cc := cX2_heaps) (maxL := 4) (ret := (some .int)) (Rn := RX2) (Qc := fun A => (va_Qi (fun (r : Int32) (u : St) => Q r u) (cB D k A (fun u : St => wFl k a u)) A)) (by decide) rfl rfl (Nat.le_of_ble_eq_true rfl) ?_
  intro p e s m below meth c hx hb hr hlocks hml hts hown hnw hK A hA H locs hP hD hS ls hl
  have hl : lv_has ls 4 [(0, .ref (a 0))] := hl
  have ln_9 := hts (.fieldLink RX2 9 "WithTheSameOne$Floor" "size" "I") (by decide +kernel)
  have ni_X6 := hts (.initialized RX6) (by decide +kernel)
  have ns_yX6_hasBit := hts (.static yX6_hasBit) (by decide +kernel)
  have in_Fl : ∀ w ∈ wsX20, w ∈ wsX2_heaps := fun _ h => List.mem_cons_of_mem _ (List.mem_append_right _ h)
  have L_6 : ∀ (n : Nat), ∀ (S0 : St) (x1 : Int32) (x2 : Int32) (x3 : Int32), ∀ (H : Heap) (locs : List Loc) (ls : Array Slot), va_P D vwCl (wFl k a S0) H → va_D A (wFl k a S0) → va_S A s.heap H locs → lv_has ls 4 [(0, .ref (a 0)), (1, .int x1), (2, .int x2), (3, .int x3)] → wp_X2_heaps_6 Q n S0 x1 x2 x3 → W p l e rmX2_heaps s m ([.ref (a 0)] : List Value).toArray below meth c H locs 0 0 (MQ below (va_Qi (fun (r : Int32) (u : St) => Q r u) (cB D k A (fun u : St => wFl k a u)) A) ([.ref (a 0)] : List Value).toArray s 0 0 A) (F0 m 6 ls []) := by
    intro n
    induction n with
    | zero => intro S0 x1 x2 x3 H locs ls hP hD hS hl h; exact absurd h (by unfold wp_X2_heaps_6; exact id)
    | succ n ih =>
      intro S0 x1 x2 x3 H locs ls hP hD hS hl h
      unfold wp_X2_heaps_6 at h
      refine lv_iload_n hx hb dX2_heaps_6 rfl (lv_at hl 3 rfl) ?_
      refine lv_aload_n hx hb dX2_heaps_7 rfl (lv_at hl 0 rfl) ?_
      refine va_get (D := D) (ci := 2) (v := .int (S0.1 0)) (C := RX2) (T := TX2) (N := 6) hx hb hts in_Fl hown hK hP 0 rfl rfl 0 (by decide) ln_9 (fun _ h9 => h9) rfl dX2_heaps_8 ?_
      refine lv_icmp_ge (tgt := 39) hx hb dX2_heaps_11 (by decide) (fun c_1 => ?_) (fun c_1 => ?_)
      · have h := h.1 c_1
        refine lv_iload_n hx hb dX2_heaps_39 rfl (lv_at hl 2 rfl) ?_
        exact W.iret (v := x2) hx hb hr (fun t ht hW => ⟨⟨x2, S0, rfl, h, by rw [ht]; exact hP, va_K.moved hW.alike hK, hD⟩, hS.F ht⟩) hS.2.2 dX2_heaps_40
      · have h := h.2 c_1
        refine lv_iload_n hx hb dX2_heaps_14 rfl (lv_at hl 1 rfl) ?_
        refine lv_iload_n hx hb dX2_heaps_15 rfl (lv_at hl 3 rfl) ?_
        refine gs_i (va_runSN (As := [.int x1, .int x3]) (rest := []) ⟨hx, hb, hml, hown, hts⟩ (c_X6_hasBit l x1 x3 _ h) ⟨va_cnB 2 hts gX2_heaps_X6_hasBit_n46 rfl rfl rfl (hnw.1 _ (List.mem_of_getElem? (i := 6) rfl)) ni_X6 (by decide +kernel) ⟨Nat.le_of_ble_eq_true rfl, Nat.le_of_ble_eq_true rfl⟩, ns_yX6_hasBit, trivial⟩ preEq rfl rfl hl.1 rfl (lv_room (Nat.le_of_ble_eq_true rfl)) dX2_heaps_16 ⟨Nat.zero_le _, Nat.zero_le _⟩) (fun r_2 h => ?_)
        refine lv_if_ne (tgt := 33) hx hb dX2_heaps_19 (by decide) (fun c_3 => ?_) (fun c_3 => ?_)
        · have h := h.1 c_3
          refine lv_iinc (v := (x3 + 1)) (lv' := [(3, .int (x3 + 1)), (0, .ref (a 0)), (1, .int x1), (2, .int x2)]) hx hb dX2_heaps_33 hl (k := 3) rfl rfl (by decide) rfl (fun ls hl => ?_)
          refine lv_goto (tgt := 6) hx hb dX2_heaps_36 (by decide) ?_
          exact ih S0 x1 x2 (x3 + 1) H locs ls hP hD hS (lv_sub hl [1, 2, 3, 0] rfl) h
        · have h := h.2 c_3
          refine lv_iinc (v := (x2 + 1)) (lv' := [(2, .int (x2 + 1)), (0, .ref (a 0)), (1, .int x1), (3, .int x3)]) hx hb dX2_heaps_22 hl (k := 2) rfl rfl (by decide) rfl (fun ls hl => ?_)
          refine lv_iload_n hx hb dX2_heaps_25 rfl (lv_at hl 2 rfl) ?_
          refine lv_aload_n hx hb dX2_heaps_26 rfl (lv_at hl 1 rfl) ?_
          refine lv_iload_n hx hb dX2_heaps_27 rfl (lv_at hl 3 rfl) ?_
          have hFc := fr_self hD hS hA
          refine gv_i (va_runV (As := [.int x3]) (rest := [.int x1]) ⟨hx, hb, hml, hown, hts⟩ (c_X2_heapOf l D k a S0 H.size x3 _ h) (cwV 1 hts gX2_heaps_X2_heapOf rfl rfl rfl (by decide +kernel) ⟨Nat.le_of_ble_eq_true rfl, Nat.le_of_ble_eq_true rfl⟩) (gv_preV hK hnw hP hD (ci := 2) rfl 0 rfl) rfl rfl hl.1 rfl (lv_room (Nat.le_of_ble_eq_true rfl)) dX2_heaps_28 ⟨Nat.zero_le _, Nat.zero_le _⟩) hS hFc (fun r_4 u_5 H locs h hP1 hD1 hk1 hS => ?_)
          have hP := hP1
          have hD := hD1.weaken (fun _ _ _ z => hFc _ z)
          refine lv_ior hx hb dX2_heaps_31 ?_
          refine lv_istore_n (lv' := [(1, .int (x1 ||| r_4)), (2, .int (x2 + 1)), (0, .ref (a 0)), (3, .int x3)]) hx hb dX2_heaps_32 rfl hl (by decide) rfl (fun ls hl => ?_)
          refine lv_iinc (v := (x3 + 1)) (lv' := [(3, .int (x3 + 1)), (1, .int (x1 ||| r_4)), (2, .int (x2 + 1)), (0, .ref (a 0))]) hx hb dX2_heaps_33 hl (k := 3) rfl rfl (by decide) rfl (fun ls hl => ?_)
          refine lv_goto (tgt := 6) hx hb dX2_heaps_36 (by decide) ?_
          exact ih u_5 (x1 ||| r_4) (x2 + 1) (x3 + 1) H locs ls hP hD hS (lv_sub hl [3, 1, 2, 0] rfl) h
  unfold wp_X2_heaps at h
  refine lv_iconst (v := (0 : Int32)) hx hb dX2_heaps_0 (by decide) ?_
  refine lv_istore_n (lv' := [(1, .int (0 : Int32)), (0, .ref (a 0))]) hx hb dX2_heaps_1 rfl hl (by decide) rfl (fun ls hl => ?_)
  refine lv_iconst (v := (0 : Int32)) hx hb dX2_heaps_2 (by decide) ?_
  refine lv_istore_n (lv' := [(2, .int (0 : Int32)), (1, .int (0 : Int32)), (0, .ref (a 0))]) hx hb dX2_heaps_3 rfl hl (by decide) rfl (fun ls hl => ?_)
  refine lv_iconst (v := (0 : Int32)) hx hb dX2_heaps_4 (by decide) ?_
  refine lv_istore_n (lv' := [(3, .int (0 : Int32)), (2, .int (0 : Int32)), (1, .int (0 : Int32)), (0, .ref (a 0))]) hx hb dX2_heaps_5 rfl hl (by decide) rfl (fun ls hl => ?_)
  obtain ⟨n_6, h⟩ := h
  exact L_6 n_6 S0 (0 : Int32) (0 : Int32) (0 : Int32) H locs ls hP hD hS (lv_sub hl [3, 2, 1, 0] rfl) h
/-! X3_settled -/
def wp_X3_settled (S0 : Nat → St) (S1 : St) (Q : (Nat → St) → St → Prop) : Prop := wp_X0_begin (S0 0) S1 (fun u_2 u_3 => ∀ S_5, S_5 = (va_up S0 0 u_2) → (wp_X0_settle (S_5 0) (fun u_8 => ∀ S_9, S_9 = (va_up S_5 0 u_8) → (Q S_9 u_3))))
abbrev rmX3_settled : Room := { frames := 4, cells := 0, slots := 0, locals := 88 }
set_option maxRecDepth 100000 in
set_option maxHeartbeats 4000000 in
theorem c_X3_settled (l : Launch) (D : va_G) (k : Nat → ClassId) (a : Nat → Nat) (b : Nat → Nat) (S0 : Nat → St) (S1 : St) (sz : Nat) (Q : (Nat → St) → St → Prop) (h : wp_X3_settled S0 S1 Q) : Met l yX3_settled wsX3_settled rmX3_settled (cPc D k (wHo k a S0 ++ wFl k b S1) [.ref (a 0), .ref (b 0)] sz) (va_Qr (fun (u : (Nat → St) × St) => Q u.1 u.2) (fun (u : (Nat → St) × St) (ad : Nat) (t : State) => ad = (a 2) ∧ cB D k (va_A (wHo k a S0 ++ wFl k b S1) sz) (fun u : (Nat → St) × St => wHo k a u.1 ++ wFl k b u.2) u t) (va_A (wHo k a S0 ++ wFl k b S1) sz)) 0 0 (va_A (wHo k a S0 ++ wFl k b S1) sz) := by
  refine ct_entry (cc := cX3_settled) (maxL := 3) (ret := (some (.object "WithTheSameOne$Ending"))) (Rn := RX3) (Qc := fun A => (va_Qr (fun (u : (Nat → St) × St) => Q u.1 u.2) (fun (u : (Nat → St) × St) (ad : Nat) (t : State) => ad = (a 2) ∧ cB D k A (fun u : (Nat → St) × St => wHo k a u.1 ++ wFl k b u.2) u t) A)) (by decide) rfl rfl (Nat.le_of_ble_eq_true rfl) ?_
  intro p e s m below meth c hx hb hr hlocks hml hts hown hnw hK A hA H locs hP hD hS ls hl
  have hl : lv_has ls 3 [(0, .ref (a 0)), (1, .ref (b 0))] := hl
  have ln_11 := hts (.fieldLink RX3 11 "WithTheSameOne$Hopes" "ends" "[LWithTheSameOne$Ending;") (by decide +kernel)
  have in_Ho : ∀ w ∈ wsX30, w ∈ wsX3_settled := fun _ h => List.mem_cons_of_mem _ (List.mem_append_left _ (List.mem_append_left _ (List.mem_append_right _ h)))
  unfold wp_X3_settled at h
  refine lv_aload_n hx hb dX3_settled_0 rfl (lv_at hl 0 rfl) ?_
  refine va_get (D := D) (ci := 3) (v := .ref (a 1)) (C := RX3) (T := TX3) (N := 1) hx hb hts in_Ho hown hK hP 0 rfl rfl 0 (by decide) ln_11 (fun _ h9 => h9) rfl dX3_settled_1 ?_
  refine lv_iconst (v := (0 : Int32)) hx hb dX3_settled_4 (by decide) ?_
  refine va_aldq (C := RX0) hx hb hK hP 1 2 rfl rfl (vp0 (by decide)) dX3_settled_5 ?_
  refine W.eq (g2 := F0 m 6 ls [.ref (a 2)]) rfl ?_
  refine lv_astore_n (lv' := [(2, .ref (a 2)), (0, .ref (a 0)), (1, .ref (b 0))]) hx hb dX3_settled_6 rfl hl (by decide) rfl (fun ls hl => ?_)
  refine lv_aload_n hx hb dX3_settled_7 rfl (lv_at hl 0 rfl) ?_
  refine lv_aload_n hx hb dX3_settled_8 rfl (lv_at hl 2 rfl) ?_
  have hPc := fc6_P hP
  have hDc := fc6_D hD
  have hFc := fr_self hDc hS hA
  refine gv_v (va_runV (As := [.ref (b 0)]) (rest := []) ⟨hx, hb, hml, hown, hts⟩ (c_X0_begin l D k (sh a 2) b (S0 0) S1 H.size _ h) (cwV 1 hts gX3_settled_X0_begin rfl rfl rfl (by decide +kernel) ⟨Nat.le_of_ble_eq_true rfl, Nat.le_of_ble_eq_true rfl⟩) (gv_preV hK hnw hPc hDc (ci := 0) rfl 0 rfl) rfl rfl hl.1 rfl (lv_room (Nat.le_of_ble_eq_true rfl)) dX3_settled_9 ⟨Nat.zero_le _, Nat.zero_le _⟩) hS hFc (fun w_4 H locs h hP1 hD1 hk1 hS => ?_)
  obtain ⟨u_2, u_3⟩ := w_4
  obtain ⟨hP, hD⟩ := fc6_J hP hD hk1 hFc hP1 hD1
  obtain ⟨S_5, e_6⟩ : ∃ z : Nat → St, z = (va_up S0 0 u_2) := ⟨_, rfl⟩
  have h := h S_5 e_6
  have hP : va_P D vwCl (wHo k a S_5 ++ wFl k b u_3) H := by rw [e_6]; exact hP
  have hD : va_D A (wHo k a S_5 ++ wFl k b u_3) := by rw [e_6]; exact hD
  refine lv_aload_n hx hb dX3_settled_12 rfl (lv_at hl 0 rfl) ?_
  have hPc := fc7_P hP
  have hDc := fc7_D hD
  have hFc := fr_self hDc hS hA
  refine gv_v (va_runV (As := []) (rest := []) ⟨hx, hb, hml, hown, hts⟩ (c_X0_settle l D k (sh a 2) (S_5 0) H.size _ h) (cwV 0 hts gX3_settled_X0_settle rfl rfl rfl (by decide +kernel) ⟨Nat.le_of_ble_eq_true rfl, Nat.le_of_ble_eq_true rfl⟩) (gv_preV hK hnw hPc hDc (ci := 0) rfl 0 rfl) rfl rfl hl.1 rfl (lv_room (Nat.le_of_ble_eq_true rfl)) dX3_settled_13 ⟨Nat.zero_le _, Nat.zero_le _⟩) hS hFc (fun u_8 H locs h hP1 hD1 hk1 hS => ?_)
  obtain ⟨hP, hD⟩ := fc7_J hP hD hk1 hFc hP1 hD1
  obtain ⟨S_9, e_10⟩ : ∃ z : Nat → St, z = (va_up S_5 0 u_8) := ⟨_, rfl⟩
  have h := h S_9 e_10
  have hP : va_P D vwCl (wHo k a S_9 ++ wFl k b u_3) H := by rw [e_10]; exact hP
  have hD : va_D A (wHo k a S_9 ++ wFl k b u_3) := by rw [e_10]; exact hD
  refine lv_aload_n hx hb dX3_settled_16 rfl (lv_at hl 0 rfl) ?_
  exact W.aret (v := .ref (a 2)) hx hb hr (Or.inl ⟨_, rfl⟩) (Or.inr ⟨_, rfl⟩) (fun t ht hW => ⟨⟨(S_9, u_3), _, rfl, h, rfl, by rw [ht]; exact hP, va_K.moved hW.alike hK, hD⟩, hS.F ht⟩) hS.2.2 dX3_settled_17
/-! X3_isEver -/
def wp_X3_isEver (S0 : Nat → St) (S1 : St) (x2 : Int32) (x3 : Int32) (Q : Int32 → (Nat → St) → St → Prop) : Prop := wp_X3_settled S0 S1 (fun u_2 u_3 => wp_X0_haveDanced (u_2 0) x2 x3 (fun r_5 u_6 => ∀ S_7, S_7 = (va_up u_2 0 u_6) → (bz r_5 ∧ Q r_5 S_7 u_3)))
abbrev rmX3_isEver : Room := { frames := 5, cells := 0, slots := 0, locals := 110 }
set_option maxRecDepth 100000 in
set_option maxHeartbeats 4000000 in
theorem c_X3_isEver (l : Launch) (D : va_G) (k : Nat → ClassId) (a : Nat → Nat) (b : Nat → Nat) (S0 : Nat → St) (S1 : St) (sz : Nat) (x2 : Int32) (x3 : Int32) (Q : Int32 → (Nat → St) → St → Prop) (h : wp_X3_isEver S0 S1 x2 x3 Q) : Met l yX3_isEver wsX3_isEver rmX3_isEver (cPc D k (wHo k a S0 ++ wFl k b S1) [.ref (a 0), .ref (b 0), .int x2, .int x3] sz) (va_Qi (fun (r : Int32) (u : (Nat → St) × St) => Q r u.1 u.2) (cB D k (va_A (wHo k a S0 ++ wFl k b S1) sz) (fun u : (Nat → St) × St => wHo k a u.1 ++ wFl k b u.2)) (va_A (wHo k a S0 ++ wFl k b S1) sz)) 0 0 (va_A (wHo k a S0 ++ wFl k b S1) sz) := by
  refine ct_entry (cc := cX3_isEver) (maxL := 4) (ret := (some .boolean)) (Rn := RX3) (Qc := fun A => (va_Qi (fun (r : Int32) (u : (Nat → St) × St) => Q r u.1 u.2) (cB D k A (fun u : (Nat → St) × St => wHo k a u.1 ++ wFl k b u.2)) A)) (by decide) rfl rfl (Nat.le_of_ble_eq_true rfl) ?_
  intro p e s m below meth c hx hb hr hlocks hml hts hown hnw hK A hA H locs hP hD hS ls hl
  have hl : lv_has ls 4 [(0, .ref (a 0)), (1, .ref (b 0)), (2, .int x2), (3, .int x3)] := hl
  unfold wp_X3_isEver at h
  refine lv_aload_n hx hb dX3_isEver_0 rfl (lv_at hl 0 rfl) ?_
  refine lv_aload_n hx hb dX3_isEver_1 rfl (lv_at hl 1 rfl) ?_
  have hFc := fr_self hD hS hA
  refine gv_r (va_runV (As := [.ref (b 0)]) (rest := []) ⟨hx, hb, hml, hown, hts⟩ (c_X3_settled l D k a b S0 S1 H.size _ h) (cwV 1 hts gX3_isEver_X3_settled rfl rfl rfl (by decide +kernel) ⟨Nat.le_of_ble_eq_true rfl, Nat.le_of_ble_eq_true rfl⟩) (gv_preV hK hnw hP hD (ci := 3) rfl 0 rfl) rfl rfl hl.1 rfl (lv_room (Nat.le_of_ble_eq_true rfl)) dX3_isEver_2 ⟨Nat.zero_le _, Nat.zero_le _⟩) hS hFc (fun w_4 H locs h hP1 hD1 hk1 hS => ?_)
  obtain ⟨u_2, u_3⟩ := w_4
  have hP := hP1
  have hD := hD1.weaken (fun _ _ _ z => hFc _ z)
  refine W.eq (g2 := F0 m 5 ls [.ref (a 2)]) rfl ?_
  refine lv_iload_n hx hb dX3_isEver_5 rfl (lv_at hl 2 rfl) ?_
  refine lv_iload_n hx hb dX3_isEver_6 rfl (lv_at hl 3 rfl) ?_
  have hPc := fc7_P hP
  have hDc := fc7_D hD
  have hFc := fr_self hDc hS hA
  refine gv_i (va_runV (As := [.int x2, .int x3]) (rest := []) ⟨hx, hb, hml, hown, hts⟩ (c_X0_haveDanced l D k (sh a 2) (u_2 0) H.size x2 x3 _ h) (cwV 2 hts gX3_isEver_X0_haveDanced rfl rfl rfl (by decide +kernel) ⟨Nat.le_of_ble_eq_true rfl, Nat.le_of_ble_eq_true rfl⟩) (gv_preV hK hnw hPc hDc (ci := 0) rfl 0 rfl) rfl rfl hl.1 rfl (lv_room (Nat.le_of_ble_eq_true rfl)) dX3_isEver_7 ⟨Nat.zero_le _, Nat.zero_le _⟩) hS hFc (fun r_5 u_6 H locs h hP1 hD1 hk1 hS => ?_)
  obtain ⟨hP, hD⟩ := fc7_J hP hD hk1 hFc hP1 hD1
  obtain ⟨S_7, e_8⟩ : ∃ z : Nat → St, z = (va_up u_2 0 u_6) := ⟨_, rfl⟩
  have h := h S_7 e_8
  have hP : va_P D vwCl (wHo k a S_7 ++ wFl k b u_3) H := by rw [e_8]; exact hP
  have hD : va_D A (wHo k a S_7 ++ wFl k b u_3) := by rw [e_8]; exact hD
  exact W.zret (v := r_5) hx hb hr (bz_narrow h.1) (fun t ht hW => ⟨⟨r_5, (S_7, u_3), rfl, h.2, by rw [ht]; exact hP, va_K.moved hW.alike hK, hD⟩, hS.F ht⟩) hS.2.2 dX3_isEver_10
/-! X3_roundOf -/
def wp_X3_roundOf_17 (x2 : Int32) (x3 : Int32) (Q : Int32 → (Nat → St) → St → Prop) : Nat → (Nat → St) → St → Int32 → Prop
  | 0, _, _, _ => False
  | n + 1, S0, S1, x5 => (((28 : Int32) < x5) → (Q (-9 : Int32) S0 S1)) ∧ ((¬ (28 : Int32) < x5) → (wp_X0_haveDanced (S0 0) x2 x3 (fun r_8 u_9 => ∀ S_10, S_10 = (va_up S0 0 u_9) → (((r_8 = 0) → (wp_X0_playRound (S_10 0) (fun r_13 u_14 => ∀ S_15, S_15 = (va_up S_10 0 u_14) → (((¬ r_13 = 0) → (wp_X3_roundOf_17 x2 x3 Q n S_15 S1 (x5 + 1))) ∧ ((r_13 = 0) → (Q (-9 : Int32) S_15 S1)))))) ∧ ((¬ r_8 = 0) → (Q x5 S_10 S1))))))
def wp_X3_roundOf (S0 : Nat → St) (S1 : St) (x2 : Int32) (x3 : Int32) (Q : Int32 → (Nat → St) → St → Prop) : Prop := wp_X0_begin (S0 0) S1 (fun u_2 u_3 => ∀ S_5, S_5 = (va_up S0 0 u_2) → (∃ i, wp_X3_roundOf_17 x2 x3 Q i S_5 u_3 (0 : Int32)))
abbrev rmX3_roundOf : Room := { frames := 3, cells := 0, slots := 0, locals := 67 }
set_option maxRecDepth 100000 in
set_option maxHeartbeats 4000000 in
theorem c_X3_roundOf (l : Launch) (D : va_G) (k : Nat → ClassId) (a : Nat → Nat) (b : Nat → Nat) (S0 : Nat → St) (S1 : St) (sz : Nat) (x2 : Int32) (x3 : Int32) (Q : Int32 → (Nat → St) → St → Prop) (h : wp_X3_roundOf S0 S1 x2 x3 Q) : Met l yX3_roundOf wsX3_roundOf rmX3_roundOf (cPc D k (wHo k a S0 ++ wFl k b S1) [.ref (a 0), .ref (b 0), .int x2, .int x3] sz) (va_Qi (fun (r : Int32) (u : (Nat → St) × St) => Q r u.1 u.2) (cB D k (va_A (wHo k a S0 ++ wFl k b S1) sz) (fun u : (Nat → St) × St => wHo k a u.1 ++ wFl k b u.2)) (va_A (wHo k a S0 ++ wFl k b S1) sz)) 0 0 (va_A (wHo k a S0 ++ wFl k b S1) sz) := by
  refine ct_entry (cc := cX3_roundOf) (maxL := 6) (ret := (some .int)) (Rn := RX3) (Qc := fun A => (va_Qi (fun (r : Int32) (u : (Nat → St) × St) => Q r u.1 u.2) (cB D k A (fun u : (Nat → St) × St => wHo k a u.1 ++ wFl k b u.2)) A)) (by decide) rfl rfl (Nat.le_of_ble_eq_true rfl) ?_
  intro p e s m below meth c hx hb hr hlocks hml hts hown hnw hK A hA H locs hP hD hS ls hl
  have hl : lv_has ls 6 [(0, .ref (a 0)), (1, .ref (b 0)), (2, .int x2), (3, .int x3)] := hl
  have ln_11 := hts (.fieldLink RX3 11 "WithTheSameOne$Hopes" "ends" "[LWithTheSameOne$Ending;") (by decide +kernel)
  have in_Ho : ∀ w ∈ wsX30, w ∈ wsX3_roundOf := fun _ h => List.mem_cons_of_mem _ (List.mem_append_left _ (List.mem_append_left _ (List.mem_append_right _ h)))
  have L_17 : ∀ (n : Nat), ∀ (S0 : Nat → St) (S1 : St) (x5 : Int32), ∀ (H : Heap) (locs : List Loc) (ls : Array Slot), va_P D vwCl (wHo k a S0 ++ wFl k b S1) H → va_D A (wHo k a S0 ++ wFl k b S1) → va_S A s.heap H locs → lv_has ls 6 [(2, .int x2), (3, .int x3), (4, .ref (a 2)), (5, .int x5)] → wp_X3_roundOf_17 x2 x3 Q n S0 S1 x5 → W p l e rmX3_roundOf s m ([.ref (a 0), .ref (b 0), .int x2, .int x3] : List Value).toArray below meth c H locs 0 0 (MQ below (va_Qi (fun (r : Int32) (u : (Nat → St) × St) => Q r u.1 u.2) (cB D k A (fun u : (Nat → St) × St => wHo k a u.1 ++ wFl k b u.2)) A) ([.ref (a 0), .ref (b 0), .int x2, .int x3] : List Value).toArray s 0 0 A) (F0 m 17 ls []) := by
    intro n
    induction n with
    | zero => intro S0 S1 x5 H locs ls hP hD hS hl h; exact absurd h (by unfold wp_X3_roundOf_17; exact id)
    | succ n ih =>
      intro S0 S1 x5 H locs ls hP hD hS hl h
      unfold wp_X3_roundOf_17 at h
      refine lv_iload hx hb dX3_roundOf_17 (lv_at hl 3 rfl) ?_
      refine lv_bipush (v := (28 : Int32)) hx hb dX3_roundOf_19 (by decide) ?_
      refine lv_icmp_gt (tgt := 54) hx hb dX3_roundOf_21 (by decide) (fun c_7 => ?_) (fun c_7 => ?_)
      · have h := h.1 c_7
        refine lv_bipush (v := (-9 : Int32)) hx hb dX3_roundOf_54 (by decide) ?_
        exact W.iret (v := (-9 : Int32)) hx hb hr (fun t ht hW => ⟨⟨(-9 : Int32), (S0, S1), rfl, h, by rw [ht]; exact hP, va_K.moved hW.alike hK, hD⟩, hS.F ht⟩) hS.2.2 dX3_roundOf_56
      · have h := h.2 c_7
        refine lv_aload hx hb dX3_roundOf_24 (lv_at hl 2 rfl) ?_
        refine lv_iload_n hx hb dX3_roundOf_26 rfl (lv_at hl 0 rfl) ?_
        refine lv_iload_n hx hb dX3_roundOf_27 rfl (lv_at hl 1 rfl) ?_
        have hPc := fc7_P hP
        have hDc := fc7_D hD
        have hFc := fr_self hDc hS hA
        refine gv_i (va_runV (As := [.int x2, .int x3]) (rest := []) ⟨hx, hb, hml, hown, hts⟩ (c_X0_haveDanced l D k (sh a 2) (S0 0) H.size x2 x3 _ h) (cwV 2 hts gX3_roundOf_X0_haveDanced rfl rfl rfl (by decide +kernel) ⟨Nat.le_of_ble_eq_true rfl, Nat.le_of_ble_eq_true rfl⟩) (gv_preV hK hnw hPc hDc (ci := 0) rfl 0 rfl) rfl rfl hl.1 rfl (lv_room (Nat.le_of_ble_eq_true rfl)) dX3_roundOf_28 ⟨Nat.zero_le _, Nat.zero_le _⟩) hS hFc (fun r_8 u_9 H locs h hP1 hD1 hk1 hS => ?_)
        obtain ⟨hP, hD⟩ := fc7_J hP hD hk1 hFc hP1 hD1
        obtain ⟨S_10, e_11⟩ : ∃ z : Nat → St, z = (va_up S0 0 u_9) := ⟨_, rfl⟩
        have h := h S_10 e_11
        have hP : va_P D vwCl (wHo k a S_10 ++ wFl k b S1) H := by rw [e_11]; exact hP
        have hD : va_D A (wHo k a S_10 ++ wFl k b S1) := by rw [e_11]; exact hD
        refine lv_if_eq (tgt := 37) hx hb dX3_roundOf_31 (by decide) (fun c_12 => ?_) (fun c_12 => ?_)
        · have h := h.1 c_12
          refine lv_aload hx hb dX3_roundOf_37 (lv_at hl 2 rfl) ?_
          have hPc := fc7_P hP
          have hDc := fc7_D hD
          have hFc := fr_self hDc hS hA
          refine gv_i (va_runV (As := []) (rest := []) ⟨hx, hb, hml, hown, hts⟩ (c_X0_playRound l D k (sh a 2) (S_10 0) H.size _ h) (cwV 0 hts gX3_roundOf_X0_playRound rfl rfl rfl (by decide +kernel) ⟨Nat.le_of_ble_eq_true rfl, Nat.le_of_ble_eq_true rfl⟩) (gv_preV hK hnw hPc hDc (ci := 0) rfl 0 rfl) rfl rfl hl.1 rfl (lv_room (Nat.le_of_ble_eq_true rfl)) dX3_roundOf_39 ⟨Nat.zero_le _, Nat.zero_le _⟩) hS hFc (fun r_13 u_14 H locs h hP1 hD1 hk1 hS => ?_)
          obtain ⟨hP, hD⟩ := fc7_J hP hD hk1 hFc hP1 hD1
          obtain ⟨S_15, e_16⟩ : ∃ z : Nat → St, z = (va_up S_10 0 u_14) := ⟨_, rfl⟩
          have h := h S_15 e_16
          have hP : va_P D vwCl (wHo k a S_15 ++ wFl k b S1) H := by rw [e_16]; exact hP
          have hD : va_D A (wHo k a S_15 ++ wFl k b S1) := by rw [e_16]; exact hD
          refine lv_if_ne (tgt := 48) hx hb dX3_roundOf_42 (by decide) (fun c_17 => ?_) (fun c_17 => ?_)
          · have h := h.1 c_17
            refine lv_iinc (v := (x5 + 1)) (lv' := [(5, .int (x5 + 1)), (2, .int x2), (3, .int x3), (4, .ref (a 2))]) hx hb dX3_roundOf_48 hl (k := 3) rfl rfl (by decide) rfl (fun ls hl => ?_)
            refine lv_goto (tgt := 17) hx hb dX3_roundOf_51 (by decide) ?_
            exact ih S_15 S1 (x5 + 1) H locs ls hP hD hS (lv_sub hl [1, 2, 3, 0] rfl) h
          · have h := h.2 c_17
            refine lv_bipush (v := (-9 : Int32)) hx hb dX3_roundOf_45 (by decide) ?_
            exact W.iret (v := (-9 : Int32)) hx hb hr (fun t ht hW => ⟨⟨(-9 : Int32), (S_15, S1), rfl, h, by rw [ht]; exact hP, va_K.moved hW.alike hK, hD⟩, hS.F ht⟩) hS.2.2 dX3_roundOf_47
        · have h := h.2 c_12
          refine lv_iload hx hb dX3_roundOf_34 (lv_at hl 3 rfl) ?_
          exact W.iret (v := x5) hx hb hr (fun t ht hW => ⟨⟨x5, (S_10, S1), rfl, h, by rw [ht]; exact hP, va_K.moved hW.alike hK, hD⟩, hS.F ht⟩) hS.2.2 dX3_roundOf_36
  unfold wp_X3_roundOf at h
  refine lv_aload_n hx hb dX3_roundOf_0 rfl (lv_at hl 0 rfl) ?_
  refine va_get (D := D) (ci := 3) (v := .ref (a 1)) (C := RX3) (T := TX3) (N := 1) hx hb hts in_Ho hown hK hP 0 rfl rfl 0 (by decide) ln_11 (fun _ h9 => h9) rfl dX3_roundOf_1 ?_
  refine lv_iconst (v := (0 : Int32)) hx hb dX3_roundOf_4 (by decide) ?_
  refine va_aldq (C := RX0) hx hb hK hP 1 2 rfl rfl (vp0 (by decide)) dX3_roundOf_5 ?_
  refine W.eq (g2 := F0 m 6 ls [.ref (a 2)]) rfl ?_
  refine lv_astore (lv' := [(4, .ref (a 2)), (0, .ref (a 0)), (1, .ref (b 0)), (2, .int x2), (3, .int x3)]) hx hb dX3_roundOf_6 hl (by decide) rfl (fun ls hl => ?_)
  refine lv_aload hx hb dX3_roundOf_8 (lv_at hl 0 rfl) ?_
  refine lv_aload_n hx hb dX3_roundOf_10 rfl (lv_at hl 2 rfl) ?_
  have hPc := fc6_P hP
  have hDc := fc6_D hD
  have hFc := fr_self hDc hS hA
  refine gv_v (va_runV (As := [.ref (b 0)]) (rest := []) ⟨hx, hb, hml, hown, hts⟩ (c_X0_begin l D k (sh a 2) b (S0 0) S1 H.size _ h) (cwV 1 hts gX3_roundOf_X0_begin rfl rfl rfl (by decide +kernel) ⟨Nat.le_of_ble_eq_true rfl, Nat.le_of_ble_eq_true rfl⟩) (gv_preV hK hnw hPc hDc (ci := 0) rfl 0 rfl) rfl rfl hl.1 rfl (lv_room (Nat.le_of_ble_eq_true rfl)) dX3_roundOf_11 ⟨Nat.zero_le _, Nat.zero_le _⟩) hS hFc (fun w_4 H locs h hP1 hD1 hk1 hS => ?_)
  obtain ⟨u_2, u_3⟩ := w_4
  obtain ⟨hP, hD⟩ := fc6_J hP hD hk1 hFc hP1 hD1
  obtain ⟨S_5, e_6⟩ : ∃ z : Nat → St, z = (va_up S0 0 u_2) := ⟨_, rfl⟩
  have h := h S_5 e_6
  have hP : va_P D vwCl (wHo k a S_5 ++ wFl k b u_3) H := by rw [e_6]; exact hP
  have hD : va_D A (wHo k a S_5 ++ wFl k b u_3) := by rw [e_6]; exact hD
  refine lv_iconst (v := (0 : Int32)) hx hb dX3_roundOf_14 (by decide) ?_
  refine lv_istore (lv' := [(5, .int (0 : Int32)), (4, .ref (a 2)), (0, .ref (a 0)), (1, .ref (b 0)), (2, .int x2), (3, .int x3)]) hx hb dX3_roundOf_15 hl (by decide) rfl (fun ls hl => ?_)
  obtain ⟨n_18, h⟩ := h
  exact L_17 n_18 S_5 u_3 (0 : Int32) H locs ls hP hD hS (lv_sub hl [4, 5, 1, 0] rfl) h
/-! X3_pairsInTheEnd -/
def wp_X3_pairsInTheEnd (S0 : Nat → St) (S1 : St) (x2 : Int32) (Q : Int32 → (Nat → St) → St → Prop) : Prop := wp_X0_begin (S0 0) S1 (fun u_2 u_3 => ∀ S_5, S_5 = (va_up S0 0 u_2) → (∀ S_7, S_7 = (va_up S_5 0 (sI (S_5 0) 1 x2)) → (wp_X0_settle (S_7 0) (fun u_10 => ∀ S_11, S_11 = (va_up S_7 0 u_10) → (wp_X0_pairs (S_11 0) (fun r_13 u_14 => ∀ S_15, S_15 = (va_up S_11 0 u_14) → (Q r_13 S_15 u_3)))))))
abbrev rmX3_pairsInTheEnd : Room := { frames := 4, cells := 0, slots := 0, locals := 88 }
set_option maxRecDepth 100000 in
set_option maxHeartbeats 4000000 in
theorem c_X3_pairsInTheEnd (l : Launch) (D : va_G) (k : Nat → ClassId) (a : Nat → Nat) (b : Nat → Nat) (S0 : Nat → St) (S1 : St) (sz : Nat) (x2 : Int32) (Q : Int32 → (Nat → St) → St → Prop) (h : wp_X3_pairsInTheEnd S0 S1 x2 Q) : Met l yX3_pairsInTheEnd wsX3_pairsInTheEnd rmX3_pairsInTheEnd (cPc D k (wHo k a S0 ++ wFl k b S1) [.ref (a 0), .ref (b 0), .int x2] sz) (va_Qi (fun (r : Int32) (u : (Nat → St) × St) => Q r u.1 u.2) (cB D k (va_A (wHo k a S0 ++ wFl k b S1) sz) (fun u : (Nat → St) × St => wHo k a u.1 ++ wFl k b u.2)) (va_A (wHo k a S0 ++ wFl k b S1) sz)) 0 0 (va_A (wHo k a S0 ++ wFl k b S1) sz) := by
  refine ct_entry (cc := cX3_pairsInTheEnd) (maxL := 4) (ret := (some .int)) (Rn := RX3) (Qc := fun A => (va_Qi (fun (r : Int32) (u : (Nat → St) × St) => Q r u.1 u.2) (cB D k A (fun u : (Nat → St) × St => wHo k a u.1 ++ wFl k b u.2)) A)) (by decide) rfl rfl (Nat.le_of_ble_eq_true rfl) ?_
  intro p e s m below meth c hx hb hr hlocks hml hts hown hnw hK A hA H locs hP hD hS ls hl
  have hl : lv_has ls 4 [(0, .ref (a 0)), (1, .ref (b 0)), (2, .int x2)] := hl
  have ln_11 := hts (.fieldLink RX3 11 "WithTheSameOne$Hopes" "ends" "[LWithTheSameOne$Ending;") (by decide +kernel)
  have ln_37 := hts (.fieldLink RX3 37 "WithTheSameOne$Ending" "law" "I") (by decide +kernel)
  have in_Ho : ∀ w ∈ wsX30, w ∈ wsX3_pairsInTheEnd := fun _ h => List.mem_cons_of_mem _ (List.mem_append_left _ (List.mem_append_left _ (List.mem_append_right _ h)))
  have in_En : ∀ w ∈ wsX00, w ∈ wsX3_pairsInTheEnd := fun _ h => List.mem_cons_of_mem _ (List.mem_append_left _ (List.mem_append_right _ h))
  unfold wp_X3_pairsInTheEnd at h
  refine lv_aload_n hx hb dX3_pairsInTheEnd_0 rfl (lv_at hl 0 rfl) ?_
  refine va_get (D := D) (ci := 3) (v := .ref (a 1)) (C := RX3) (T := TX3) (N := 1) hx hb hts in_Ho hown hK hP 0 rfl rfl 0 (by decide) ln_11 (fun _ h9 => h9) rfl dX3_pairsInTheEnd_1 ?_
  refine lv_iconst (v := (0 : Int32)) hx hb dX3_pairsInTheEnd_4 (by decide) ?_
  refine va_aldq (C := RX0) hx hb hK hP 1 2 rfl rfl (vp0 (by decide)) dX3_pairsInTheEnd_5 ?_
  refine W.eq (g2 := F0 m 6 ls [.ref (a 2)]) rfl ?_
  refine lv_astore_n (lv' := [(3, .ref (a 2)), (0, .ref (a 0)), (1, .ref (b 0)), (2, .int x2)]) hx hb dX3_pairsInTheEnd_6 rfl hl (by decide) rfl (fun ls hl => ?_)
  refine lv_aload_n hx hb dX3_pairsInTheEnd_7 rfl (lv_at hl 0 rfl) ?_
  refine lv_aload_n hx hb dX3_pairsInTheEnd_8 rfl (lv_at hl 2 rfl) ?_
  have hPc := fc6_P hP
  have hDc := fc6_D hD
  have hFc := fr_self hDc hS hA
  refine gv_v (va_runV (As := [.ref (b 0)]) (rest := []) ⟨hx, hb, hml, hown, hts⟩ (c_X0_begin l D k (sh a 2) b (S0 0) S1 H.size _ h) (cwV 1 hts gX3_pairsInTheEnd_X0_begin rfl rfl rfl (by decide +kernel) ⟨Nat.le_of_ble_eq_true rfl, Nat.le_of_ble_eq_true rfl⟩) (gv_preV hK hnw hPc hDc (ci := 0) rfl 0 rfl) rfl rfl hl.1 rfl (lv_room (Nat.le_of_ble_eq_true rfl)) dX3_pairsInTheEnd_9 ⟨Nat.zero_le _, Nat.zero_le _⟩) hS hFc (fun w_4 H locs h hP1 hD1 hk1 hS => ?_)
  obtain ⟨u_2, u_3⟩ := w_4
  obtain ⟨hP, hD⟩ := fc6_J hP hD hk1 hFc hP1 hD1
  obtain ⟨S_5, e_6⟩ : ∃ z : Nat → St, z = (va_up S0 0 u_2) := ⟨_, rfl⟩
  have h := h S_5 e_6
  have hP : va_P D vwCl (wHo k a S_5 ++ wFl k b u_3) H := by rw [e_6]; exact hP
  have hD : va_D A (wHo k a S_5 ++ wFl k b u_3) := by rw [e_6]; exact hD
  refine lv_aload_n hx hb dX3_pairsInTheEnd_12 rfl (lv_at hl 0 rfl) ?_
  refine lv_iload_n hx hb dX3_pairsInTheEnd_13 rfl (lv_at hl 3 rfl) ?_
  refine va_put (D := D) (ci := 0) (v := .int x2) (ty := .int) (C := RX0) (T := TX0) (N := 7) hx hb hts in_En tyX0 tyX0_ok nmX0 hown hK hP hD hS 2 rfl rfl 1 (by decide) ln_37 (fun _ h9 => h9) rfl (by decide +kernel) rfl rfl (Nat.le_of_ble_eq_true rfl) dX3_pairsInTheEnd_14 (fun H locs hP hD hS => ?_)
  obtain ⟨S_7, e_8⟩ : ∃ z : Nat → St, z = (va_up S_5 0 (sI (S_5 0) 1 x2)) := ⟨_, rfl⟩
  have h := h S_7 e_8
  have hP : va_P D vwCl (wHo k a S_7 ++ wFl k b u_3) H := by rw [e_8]; exact hP
  have hD : va_D A (wHo k a S_7 ++ wFl k b u_3) := by rw [e_8]; exact hD
  refine lv_aload_n hx hb dX3_pairsInTheEnd_17 rfl (lv_at hl 0 rfl) ?_
  have hPc := fc7_P hP
  have hDc := fc7_D hD
  have hFc := fr_self hDc hS hA
  refine gv_v (va_runV (As := []) (rest := []) ⟨hx, hb, hml, hown, hts⟩ (c_X0_settle l D k (sh a 2) (S_7 0) H.size _ h) (cwV 0 hts gX3_pairsInTheEnd_X0_settle rfl rfl rfl (by decide +kernel) ⟨Nat.le_of_ble_eq_true rfl, Nat.le_of_ble_eq_true rfl⟩) (gv_preV hK hnw hPc hDc (ci := 0) rfl 0 rfl) rfl rfl hl.1 rfl (lv_room (Nat.le_of_ble_eq_true rfl)) dX3_pairsInTheEnd_18 ⟨Nat.zero_le _, Nat.zero_le _⟩) hS hFc (fun u_10 H locs h hP1 hD1 hk1 hS => ?_)
  obtain ⟨hP, hD⟩ := fc7_J hP hD hk1 hFc hP1 hD1
  obtain ⟨S_11, e_12⟩ : ∃ z : Nat → St, z = (va_up S_7 0 u_10) := ⟨_, rfl⟩
  have h := h S_11 e_12
  have hP : va_P D vwCl (wHo k a S_11 ++ wFl k b u_3) H := by rw [e_12]; exact hP
  have hD : va_D A (wHo k a S_11 ++ wFl k b u_3) := by rw [e_12]; exact hD
  refine lv_aload_n hx hb dX3_pairsInTheEnd_21 rfl (lv_at hl 0 rfl) ?_
  have hPc := fc7_P hP
  have hDc := fc7_D hD
  have hFc := fr_self hDc hS hA
  refine gv_i (va_runV (As := []) (rest := []) ⟨hx, hb, hml, hown, hts⟩ (c_X0_pairs l D k (sh a 2) (S_11 0) H.size _ h) (cwV 0 hts gX3_pairsInTheEnd_X0_pairs rfl rfl rfl (by decide +kernel) ⟨Nat.le_of_ble_eq_true rfl, Nat.le_of_ble_eq_true rfl⟩) (gv_preV hK hnw hPc hDc (ci := 0) rfl 0 rfl) rfl rfl hl.1 rfl (lv_room (Nat.le_of_ble_eq_true rfl)) dX3_pairsInTheEnd_22 ⟨Nat.zero_le _, Nat.zero_le _⟩) hS hFc (fun r_13 u_14 H locs h hP1 hD1 hk1 hS => ?_)
  obtain ⟨hP, hD⟩ := fc7_J hP hD hk1 hFc hP1 hD1
  obtain ⟨S_15, e_16⟩ : ∃ z : Nat → St, z = (va_up S_11 0 u_14) := ⟨_, rfl⟩
  have h := h S_15 e_16
  have hP : va_P D vwCl (wHo k a S_15 ++ wFl k b u_3) H := by rw [e_16]; exact hP
  have hD : va_D A (wHo k a S_15 ++ wFl k b u_3) := by rw [e_16]; exact hD
  exact W.iret (v := r_13) hx hb hr (fun t ht hW => ⟨⟨r_13, (S_15, u_3), rfl, h, by rw [ht]; exact hP, va_K.moved hW.alike hK, hD⟩, hS.F ht⟩) hS.2.2 dX3_pairsInTheEnd_25
/-! X3_roundsTillTheEnd -/
def wp_X3_roundsTillTheEnd (S0 : Nat → St) (S1 : St) (Q : Int32 → (Nat → St) → St → Prop) : Prop := wp_X3_settled S0 S1 (fun u_2 u_3 => Q ((u_2 0).1 3) u_2 u_3)
abbrev rmX3_roundsTillTheEnd : Room := { frames := 5, cells := 0, slots := 0, locals := 110 }
set_option maxRecDepth 100000 in
set_option maxHeartbeats 4000000 in
theorem c_X3_roundsTillTheEnd (l : Launch) (D : va_G) (k : Nat → ClassId) (a : Nat → Nat) (b : Nat → Nat) (S0 : Nat → St) (S1 : St) (sz : Nat) (Q : Int32 → (Nat → St) → St → Prop) (h : wp_X3_roundsTillTheEnd S0 S1 Q) : Met l yX3_roundsTillTheEnd wsX3_roundsTillTheEnd rmX3_roundsTillTheEnd (cPc D k (wHo k a S0 ++ wFl k b S1) [.ref (a 0), .ref (b 0)] sz) (va_Qi (fun (r : Int32) (u : (Nat → St) × St) => Q r u.1 u.2) (cB D k (va_A (wHo k a S0 ++ wFl k b S1) sz) (fun u : (Nat → St) × St => wHo k a u.1 ++ wFl k b u.2)) (va_A (wHo k a S0 ++ wFl k b S1) sz)) 0 0 (va_A (wHo k a S0 ++ wFl k b S1) sz) := by
  refine ct_entry (cc := cX3_roundsTillTheEnd) (maxL := 2) (ret := (some .int)) (Rn := RX3) (Qc := fun A => (va_Qi (fun (r : Int32) (u : (Nat → St) × St) => Q r u.1 u.2) (cB D k A (fun u : (Nat → St) × St => wHo k a u.1 ++ wFl k b u.2)) A)) (by decide) rfl rfl (Nat.le_of_ble_eq_true rfl) ?_
  intro p e s m below meth c hx hb hr hlocks hml hts hown hnw hK A hA H locs hP hD hS ls hl
  have hl : lv_has ls 2 [(0, .ref (a 0)), (1, .ref (b 0))] := hl
  have ln_45 := hts (.fieldLink RX3 45 "WithTheSameOne$Ending" "rounds" "I") (by decide +kernel)
  have in_En : ∀ w ∈ wsX00, w ∈ wsX3_roundsTillTheEnd := fun _ h => List.mem_cons_of_mem _ (List.mem_append_left _ (List.mem_append_left _ (List.mem_append_right _ h)))
  unfold wp_X3_roundsTillTheEnd at h
  refine lv_aload_n hx hb dX3_roundsTillTheEnd_0 rfl (lv_at hl 0 rfl) ?_
  refine lv_aload_n hx hb dX3_roundsTillTheEnd_1 rfl (lv_at hl 1 rfl) ?_
  have hFc := fr_self hD hS hA
  refine gv_r (va_runV (As := [.ref (b 0)]) (rest := []) ⟨hx, hb, hml, hown, hts⟩ (c_X3_settled l D k a b S0 S1 H.size _ h) (cwV 1 hts gX3_roundsTillTheEnd_X3_settled rfl rfl rfl (by decide +kernel) ⟨Nat.le_of_ble_eq_true rfl, Nat.le_of_ble_eq_true rfl⟩) (gv_preV hK hnw hP hD (ci := 3) rfl 0 rfl) rfl rfl hl.1 rfl (lv_room (Nat.le_of_ble_eq_true rfl)) dX3_roundsTillTheEnd_2 ⟨Nat.zero_le _, Nat.zero_le _⟩) hS hFc (fun w_4 H locs h hP1 hD1 hk1 hS => ?_)
  obtain ⟨u_2, u_3⟩ := w_4
  have hP := hP1
  have hD := hD1.weaken (fun _ _ _ z => hFc _ z)
  refine W.eq (g2 := F0 m 5 ls [.ref (a 2)]) rfl ?_
  refine va_get (D := D) (ci := 0) (v := .int ((u_2 0).1 3)) (C := RX0) (T := TX0) (N := 7) hx hb hts in_En hown hK hP 2 rfl rfl 3 (by decide) ln_45 (fun _ h9 => h9) rfl dX3_roundsTillTheEnd_5 ?_
  exact W.iret (v := ((u_2 0).1 3)) hx hb hr (fun t ht hW => ⟨⟨((u_2 0).1 3), (u_2, u_3), rfl, h, by rw [ht]; exact hP, va_K.moved hW.alike hK, hD⟩, hS.F ht⟩) hS.2.2 dX3_roundsTillTheEnd_8
/-! X6_pairOf -/
def wp_X6_pairOf (x0 : Int32) (x1 : Int32) (Q : Int32 → Prop) : Prop := Q (((10 : Int32) * (if x1 < x0 then x1 else x0)) + (if x0 < x1 then x1 else x0))
abbrev rmX6_pairOf : Room := { frames := 1, cells := 0, slots := 0, locals := 21 }
set_option maxRecDepth 100000 in
set_option maxHeartbeats 4000000 in
theorem c_X6_pairOf (l : Launch) (x0 : Int32) (x1 : Int32) (Q : Int32 → Prop) (h : wp_X6_pairOf x0 x1 Q) : Met l yX6_pairOf wsX6_pairOf rmX6_pairOf (fun v _ => v = ([.int x0, .int x1] : List Value).toArray) (vp_Si Q) 0 0 (fun _ => False) := by
  refine cs_entry (cc := cX6_pairOf) (maxL := 2) (ret := (some .int)) (Rn := RX6) (by decide) rfl rfl (Nat.le_of_ble_eq_true rfl) ?_
  intro p e s m below meth c hx hb hr hlocks hml hts hown ls hl
  have hl : lv_has ls 2 [(0, .int x0), (1, .int x1)] := hl
  have lm_202 := hts (.methodLink RX6 202 Lib.Math.min.name) (by decide +kernel)
  have lm_207 := hts (.methodLink RX6 207 Lib.Math.max.name) (by decide +kernel)
  have mc_max := hts (.code Lib.Math.max.name Lib.Math.max.code 2 (some .int)) (by decide +kernel)
  have mc_min := hts (.code Lib.Math.min.name Lib.Math.min.code 2 (some .int)) (by decide +kernel)
  have mi_max := hts (.initialized "java/lang/Math") (by decide +kernel)
  have mi_min := hts (.initialized "java/lang/Math") (by decide +kernel)
  have ms_max := hts (.static Lib.Math.max.name) (by decide +kernel)
  have ms_min := hts (.static Lib.Math.min.name) (by decide +kernel)
  unfold wp_X6_pairOf at h
  refine lv_bipush (v := (10 : Int32)) hx hb dX6_pairOf_0 (by decide) ?_
  refine lv_iload_n hx hb dX6_pairOf_2 rfl (lv_at hl 0 rfl) ?_
  refine lv_iload_n hx hb dX6_pairOf_3 rfl (lv_at hl 1 rfl) ?_
  refine va_mmin hx hb (hml.trans hl.1.symm) hown lm_202 ms_min mi_min mc_min (Nat.le_of_ble_eq_true rfl) (Nat.le_of_ble_eq_true rfl) (Nat.zero_le _) (Nat.zero_le _) dX6_pairOf_4 ?_
  refine lv_imul hx hb dX6_pairOf_7 ?_
  refine lv_iload_n hx hb dX6_pairOf_8 rfl (lv_at hl 0 rfl) ?_
  refine lv_iload_n hx hb dX6_pairOf_9 rfl (lv_at hl 1 rfl) ?_
  refine va_mmax hx hb (hml.trans hl.1.symm) hown lm_207 ms_max mi_max mc_max (Nat.le_of_ble_eq_true rfl) (Nat.le_of_ble_eq_true rfl) (Nat.zero_le _) (Nat.zero_le _) dX6_pairOf_10 ?_
  refine lv_iadd hx hb dX6_pairOf_13 ?_
  exact W.iret (v := (((10 : Int32) * (if x1 < x0 then x1 else x0)) + (if x0 < x1 then x1 else x0))) hx hb hr (fun t ht hW => ⟨(((10 : Int32) * (if x1 < x0 then x1 else x0)) + (if x0 < x1 then x1 else x0)), rfl, h, ht⟩) (fun q hq => by cases hq) dX6_pairOf_14
/-! X3_pairsWith -/
def wp_X3_pairsWith (S0 : Nat → St) (S1 : St) (x2 : Int32) (Q : Int32 → (Nat → St) → St → Prop) : Prop := wp_X0_begin (S0 0) S1 (fun u_2 u_3 => ∀ S_5, S_5 = (va_up S0 0 u_2) → (wp_X0_joinPair (S_5 0) x2 (fun u_8 => ∀ S_9, S_9 = (va_up S_5 0 u_8) → (wp_X0_settle (S_9 0) (fun u_12 => ∀ S_13, S_13 = (va_up S_9 0 u_12) → (wp_X0_pairs (S_13 0) (fun r_15 u_16 => ∀ S_17, S_17 = (va_up S_13 0 u_16) → (Q r_15 S_17 u_3))))))))
abbrev rmX3_pairsWith : Room := { frames := 4, cells := 0, slots := 0, locals := 88 }
set_option maxRecDepth 100000 in
set_option maxHeartbeats 4000000 in
theorem c_X3_pairsWith (l : Launch) (D : va_G) (k : Nat → ClassId) (a : Nat → Nat) (b : Nat → Nat) (S0 : Nat → St) (S1 : St) (sz : Nat) (x2 : Int32) (Q : Int32 → (Nat → St) → St → Prop) (h : wp_X3_pairsWith S0 S1 x2 Q) : Met l yX3_pairsWith wsX3_pairsWith rmX3_pairsWith (cPc D k (wHo k a S0 ++ wFl k b S1) [.ref (a 0), .ref (b 0), .int x2] sz) (va_Qi (fun (r : Int32) (u : (Nat → St) × St) => Q r u.1 u.2) (cB D k (va_A (wHo k a S0 ++ wFl k b S1) sz) (fun u : (Nat → St) × St => wHo k a u.1 ++ wFl k b u.2)) (va_A (wHo k a S0 ++ wFl k b S1) sz)) 0 0 (va_A (wHo k a S0 ++ wFl k b S1) sz) := by
  refine ct_entry (cc := cX3_pairsWith) (maxL := 4) (ret := (some .int)) (Rn := RX3) (Qc := fun A => (va_Qi (fun (r : Int32) (u : (Nat → St) × St) => Q r u.1 u.2) (cB D k A (fun u : (Nat → St) × St => wHo k a u.1 ++ wFl k b u.2)) A)) (by decide) rfl rfl (Nat.le_of_ble_eq_true rfl) ?_
  intro p e s m below meth c hx hb hr hlocks hml hts hown hnw hK A hA H locs hP hD hS ls hl
  have hl : lv_has ls 4 [(0, .ref (a 0)), (1, .ref (b 0)), (2, .int x2)] := hl
  have ln_11 := hts (.fieldLink RX3 11 "WithTheSameOne$Hopes" "ends" "[LWithTheSameOne$Ending;") (by decide +kernel)
  have in_Ho : ∀ w ∈ wsX30, w ∈ wsX3_pairsWith := fun _ h => List.mem_cons_of_mem _ (List.mem_append_left _ (List.mem_append_left _ (List.mem_append_right _ h)))
  unfold wp_X3_pairsWith at h
  refine lv_aload_n hx hb dX3_pairsWith_0 rfl (lv_at hl 0 rfl) ?_
  refine va_get (D := D) (ci := 3) (v := .ref (a 1)) (C := RX3) (T := TX3) (N := 1) hx hb hts in_Ho hown hK hP 0 rfl rfl 0 (by decide) ln_11 (fun _ h9 => h9) rfl dX3_pairsWith_1 ?_
  refine lv_iconst (v := (0 : Int32)) hx hb dX3_pairsWith_4 (by decide) ?_
  refine va_aldq (C := RX0) hx hb hK hP 1 2 rfl rfl (vp0 (by decide)) dX3_pairsWith_5 ?_
  refine W.eq (g2 := F0 m 6 ls [.ref (a 2)]) rfl ?_
  refine lv_astore_n (lv' := [(3, .ref (a 2)), (0, .ref (a 0)), (1, .ref (b 0)), (2, .int x2)]) hx hb dX3_pairsWith_6 rfl hl (by decide) rfl (fun ls hl => ?_)
  refine lv_aload_n hx hb dX3_pairsWith_7 rfl (lv_at hl 0 rfl) ?_
  refine lv_aload_n hx hb dX3_pairsWith_8 rfl (lv_at hl 2 rfl) ?_
  have hPc := fc6_P hP
  have hDc := fc6_D hD
  have hFc := fr_self hDc hS hA
  refine gv_v (va_runV (As := [.ref (b 0)]) (rest := []) ⟨hx, hb, hml, hown, hts⟩ (c_X0_begin l D k (sh a 2) b (S0 0) S1 H.size _ h) (cwV 1 hts gX3_pairsWith_X0_begin rfl rfl rfl (by decide +kernel) ⟨Nat.le_of_ble_eq_true rfl, Nat.le_of_ble_eq_true rfl⟩) (gv_preV hK hnw hPc hDc (ci := 0) rfl 0 rfl) rfl rfl hl.1 rfl (lv_room (Nat.le_of_ble_eq_true rfl)) dX3_pairsWith_9 ⟨Nat.zero_le _, Nat.zero_le _⟩) hS hFc (fun w_4 H locs h hP1 hD1 hk1 hS => ?_)
  obtain ⟨u_2, u_3⟩ := w_4
  obtain ⟨hP, hD⟩ := fc6_J hP hD hk1 hFc hP1 hD1
  obtain ⟨S_5, e_6⟩ : ∃ z : Nat → St, z = (va_up S0 0 u_2) := ⟨_, rfl⟩
  have h := h S_5 e_6
  have hP : va_P D vwCl (wHo k a S_5 ++ wFl k b u_3) H := by rw [e_6]; exact hP
  have hD : va_D A (wHo k a S_5 ++ wFl k b u_3) := by rw [e_6]; exact hD
  refine lv_aload_n hx hb dX3_pairsWith_12 rfl (lv_at hl 0 rfl) ?_
  refine lv_iload_n hx hb dX3_pairsWith_13 rfl (lv_at hl 3 rfl) ?_
  have hPc := fc7_P hP
  have hDc := fc7_D hD
  have hFc := fr_self hDc hS hA
  refine gv_v (va_runV (As := [.int x2]) (rest := []) ⟨hx, hb, hml, hown, hts⟩ (c_X0_joinPair l D k (sh a 2) (S_5 0) H.size x2 _ h) (cwV 1 hts gX3_pairsWith_X0_joinPair rfl rfl rfl (by decide +kernel) ⟨Nat.le_of_ble_eq_true rfl, Nat.le_of_ble_eq_true rfl⟩) (gv_preV hK hnw hPc hDc (ci := 0) rfl 0 rfl) rfl rfl hl.1 rfl (lv_room (Nat.le_of_ble_eq_true rfl)) dX3_pairsWith_14 ⟨Nat.zero_le _, Nat.zero_le _⟩) hS hFc (fun u_8 H locs h hP1 hD1 hk1 hS => ?_)
  obtain ⟨hP, hD⟩ := fc7_J hP hD hk1 hFc hP1 hD1
  obtain ⟨S_9, e_10⟩ : ∃ z : Nat → St, z = (va_up S_5 0 u_8) := ⟨_, rfl⟩
  have h := h S_9 e_10
  have hP : va_P D vwCl (wHo k a S_9 ++ wFl k b u_3) H := by rw [e_10]; exact hP
  have hD : va_D A (wHo k a S_9 ++ wFl k b u_3) := by rw [e_10]; exact hD
  refine lv_aload_n hx hb dX3_pairsWith_17 rfl (lv_at hl 0 rfl) ?_
  have hPc := fc7_P hP
  have hDc := fc7_D hD
  have hFc := fr_self hDc hS hA
  refine gv_v (va_runV (As := []) (rest := []) ⟨hx, hb, hml, hown, hts⟩ (c_X0_settle l D k (sh a 2) (S_9 0) H.size _ h) (cwV 0 hts gX3_pairsWith_X0_settle rfl rfl rfl (by decide +kernel) ⟨Nat.le_of_ble_eq_true rfl, Nat.le_of_ble_eq_true rfl⟩) (gv_preV hK hnw hPc hDc (ci := 0) rfl 0 rfl) rfl rfl hl.1 rfl (lv_room (Nat.le_of_ble_eq_true rfl)) dX3_pairsWith_18 ⟨Nat.zero_le _, Nat.zero_le _⟩) hS hFc (fun u_12 H locs h hP1 hD1 hk1 hS => ?_)
  obtain ⟨hP, hD⟩ := fc7_J hP hD hk1 hFc hP1 hD1
  obtain ⟨S_13, e_14⟩ : ∃ z : Nat → St, z = (va_up S_9 0 u_12) := ⟨_, rfl⟩
  have h := h S_13 e_14
  have hP : va_P D vwCl (wHo k a S_13 ++ wFl k b u_3) H := by rw [e_14]; exact hP
  have hD : va_D A (wHo k a S_13 ++ wFl k b u_3) := by rw [e_14]; exact hD
  refine lv_aload_n hx hb dX3_pairsWith_21 rfl (lv_at hl 0 rfl) ?_
  have hPc := fc7_P hP
  have hDc := fc7_D hD
  have hFc := fr_self hDc hS hA
  refine gv_i (va_runV (As := []) (rest := []) ⟨hx, hb, hml, hown, hts⟩ (c_X0_pairs l D k (sh a 2) (S_13 0) H.size _ h) (cwV 0 hts gX3_pairsWith_X0_pairs rfl rfl rfl (by decide +kernel) ⟨Nat.le_of_ble_eq_true rfl, Nat.le_of_ble_eq_true rfl⟩) (gv_preV hK hnw hPc hDc (ci := 0) rfl 0 rfl) rfl rfl hl.1 rfl (lv_room (Nat.le_of_ble_eq_true rfl)) dX3_pairsWith_22 ⟨Nat.zero_le _, Nat.zero_le _⟩) hS hFc (fun r_15 u_16 H locs h hP1 hD1 hk1 hS => ?_)
  obtain ⟨hP, hD⟩ := fc7_J hP hD hk1 hFc hP1 hD1
  obtain ⟨S_17, e_18⟩ : ∃ z : Nat → St, z = (va_up S_13 0 u_16) := ⟨_, rfl⟩
  have h := h S_17 e_18
  have hP : va_P D vwCl (wHo k a S_17 ++ wFl k b u_3) H := by rw [e_18]; exact hP
  have hD : va_D A (wHo k a S_17 ++ wFl k b u_3) := by rw [e_18]; exact hD
  exact W.iret (v := r_15) hx hb hr (fun t ht hW => ⟨⟨r_15, (S_17, u_3), rfl, h, by rw [ht]; exact hP, va_K.moved hW.alike hK, hD⟩, hS.F ht⟩) hS.2.2 dX3_pairsWith_25
/-! X3_opened -/
def wp_X3_opened (S0 : Nat → St) (S1 : St) (x2 : Int32) (x3 : Int32) (Q : Int32 → (Nat → St) → St → Prop) : Prop := wp_X3_settled S0 S1 (fun u_2 u_3 => wp_X0_pairs (u_2 0) (fun r_5 u_6 => ∀ S_7, S_7 = (va_up u_2 0 u_6) → (wp_X6_pairOf x2 x3 (fun r_9 => wp_X3_pairsWith S_7 u_3 r_9 (fun r_10 u_11 u_12 => Q (r_10 - r_5) u_11 u_12)))))
abbrev rmX3_opened : Room := { frames := 5, cells := 0, slots := 0, locals := 111 }
set_option maxRecDepth 100000 in
set_option maxHeartbeats 4000000 in
theorem c_X3_opened (l : Launch) (D : va_G) (k : Nat → ClassId) (a : Nat → Nat) (b : Nat → Nat) (S0 : Nat → St) (S1 : St) (sz : Nat) (x2 : Int32) (x3 : Int32) (Q : Int32 → (Nat → St) → St → Prop) (h : wp_X3_opened S0 S1 x2 x3 Q) : Met l yX3_opened wsX3_opened rmX3_opened (cPc D k (wHo k a S0 ++ wFl k b S1) [.ref (a 0), .ref (b 0), .int x2, .int x3] sz) (va_Qi (fun (r : Int32) (u : (Nat → St) × St) => Q r u.1 u.2) (cB D k (va_A (wHo k a S0 ++ wFl k b S1) sz) (fun u : (Nat → St) × St => wHo k a u.1 ++ wFl k b u.2)) (va_A (wHo k a S0 ++ wFl k b S1) sz)) 0 0 (va_A (wHo k a S0 ++ wFl k b S1) sz) := by
  refine ct_entry (cc := cX3_opened) (maxL := 5) (ret := (some .int)) (Rn := RX3) (Qc := fun A => (va_Qi (fun (r : Int32) (u : (Nat → St) × St) => Q r u.1 u.2) (cB D k A (fun u : (Nat → St) × St => wHo k a u.1 ++ wFl k b u.2)) A)) (by decide) rfl rfl (Nat.le_of_ble_eq_true rfl) ?_
  intro p e s m below meth c hx hb hr hlocks hml hts hown hnw hK A hA H locs hP hD hS ls hl
  have hl : lv_has ls 5 [(0, .ref (a 0)), (1, .ref (b 0)), (2, .int x2), (3, .int x3)] := hl
  have ni_X6 := hts (.initialized RX6) (by decide +kernel)
  have ns_yX6_pairOf := hts (.static yX6_pairOf) (by decide +kernel)
  unfold wp_X3_opened at h
  refine lv_aload_n hx hb dX3_opened_0 rfl (lv_at hl 0 rfl) ?_
  refine lv_aload_n hx hb dX3_opened_1 rfl (lv_at hl 1 rfl) ?_
  have hFc := fr_self hD hS hA
  refine gv_r (va_runV (As := [.ref (b 0)]) (rest := []) ⟨hx, hb, hml, hown, hts⟩ (c_X3_settled l D k a b S0 S1 H.size _ h) (cwV 1 hts gX3_opened_X3_settled rfl rfl rfl (by decide +kernel) ⟨Nat.le_of_ble_eq_true rfl, Nat.le_of_ble_eq_true rfl⟩) (gv_preV hK hnw hP hD (ci := 3) rfl 0 rfl) rfl rfl hl.1 rfl (lv_room (Nat.le_of_ble_eq_true rfl)) dX3_opened_2 ⟨Nat.zero_le _, Nat.zero_le _⟩) hS hFc (fun w_4 H locs h hP1 hD1 hk1 hS => ?_)
  obtain ⟨u_2, u_3⟩ := w_4
  have hP := hP1
  have hD := hD1.weaken (fun _ _ _ z => hFc _ z)
  refine W.eq (g2 := F0 m 5 ls [.ref (a 2)]) rfl ?_
  have hPc := fc7_P hP
  have hDc := fc7_D hD
  have hFc := fr_self hDc hS hA
  refine gv_i (va_runV (As := []) (rest := []) ⟨hx, hb, hml, hown, hts⟩ (c_X0_pairs l D k (sh a 2) (u_2 0) H.size _ h) (cwV 0 hts gX3_opened_X0_pairs rfl rfl rfl (by decide +kernel) ⟨Nat.le_of_ble_eq_true rfl, Nat.le_of_ble_eq_true rfl⟩) (gv_preV hK hnw hPc hDc (ci := 0) rfl 0 rfl) rfl rfl hl.1 rfl (lv_room (Nat.le_of_ble_eq_true rfl)) dX3_opened_5 ⟨Nat.zero_le _, Nat.zero_le _⟩) hS hFc (fun r_5 u_6 H locs h hP1 hD1 hk1 hS => ?_)
  obtain ⟨hP, hD⟩ := fc7_J hP hD hk1 hFc hP1 hD1
  obtain ⟨S_7, e_8⟩ : ∃ z : Nat → St, z = (va_up u_2 0 u_6) := ⟨_, rfl⟩
  have h := h S_7 e_8
  have hP : va_P D vwCl (wHo k a S_7 ++ wFl k b u_3) H := by rw [e_8]; exact hP
  have hD : va_D A (wHo k a S_7 ++ wFl k b u_3) := by rw [e_8]; exact hD
  refine lv_istore (lv' := [(4, .int r_5), (0, .ref (a 0)), (1, .ref (b 0)), (2, .int x2), (3, .int x3)]) hx hb dX3_opened_8 hl (by decide) rfl (fun ls hl => ?_)
  refine lv_aload_n hx hb dX3_opened_10 rfl (lv_at hl 1 rfl) ?_
  refine lv_aload_n hx hb dX3_opened_11 rfl (lv_at hl 2 rfl) ?_
  refine lv_iload_n hx hb dX3_opened_12 rfl (lv_at hl 3 rfl) ?_
  refine lv_iload_n hx hb dX3_opened_13 rfl (lv_at hl 4 rfl) ?_
  refine gs_i (va_runSN (As := [.int x2, .int x3]) (rest := [.ref (b 0), .ref (a 0)]) ⟨hx, hb, hml, hown, hts⟩ (c_X6_pairOf l x2 x3 _ h) ⟨va_cnB 2 hts gX3_opened_X6_pairOf_n48 rfl rfl rfl (hnw.1 _ (List.mem_of_getElem? (i := 9) rfl)) ni_X6 (by decide +kernel) ⟨Nat.le_of_ble_eq_true rfl, Nat.le_of_ble_eq_true rfl⟩, ns_yX6_pairOf, trivial⟩ preEq rfl rfl hl.1 rfl (lv_room (Nat.le_of_ble_eq_true rfl)) dX3_opened_14 ⟨Nat.zero_le _, Nat.zero_le _⟩) (fun r_9 h => ?_)
  have hFc := fr_self hD hS hA
  refine gv_i (va_runV (As := [.ref (b 0), .int r_9]) (rest := []) ⟨hx, hb, hml, hown, hts⟩ (c_X3_pairsWith l D k a b S_7 u_3 H.size r_9 _ h) (cwV 2 hts gX3_opened_X3_pairsWith rfl rfl rfl (by decide +kernel) ⟨Nat.le_of_ble_eq_true rfl, Nat.le_of_ble_eq_true rfl⟩) (gv_preV hK hnw hP hD (ci := 3) rfl 0 rfl) rfl rfl hl.1 rfl (lv_room (Nat.le_of_ble_eq_true rfl)) dX3_opened_17 ⟨Nat.zero_le _, Nat.zero_le _⟩) hS hFc (fun r_10 w_13 H locs h hP1 hD1 hk1 hS => ?_)
  obtain ⟨u_11, u_12⟩ := w_13
  have hP := hP1
  have hD := hD1.weaken (fun _ _ _ z => hFc _ z)
  refine lv_iload hx hb dX3_opened_20 (lv_at hl 0 rfl) ?_
  refine lv_isub hx hb dX3_opened_22 ?_
  exact W.iret (v := (r_10 - r_5)) hx hb hr (fun t ht hW => ⟨⟨(r_10 - r_5), (u_11, u_12), rfl, h, by rw [ht]; exact hP, va_K.moved hW.alike hK, hD⟩, hS.F ht⟩) hS.2.2 dX3_opened_23
/-! X3_pairThatOpensMost -/
def wp_X3_pairThatOpensMost_8 (Q : Int32 → (Nat → St) → St → Prop) : Nat → (Nat → St) → St → Int32 → Int32 → Int32 → Prop
  | 0, _, _, _, _, _ => False
  | n + 1, S0, S1, x2, x3, x4 => (((67 : Int32) < x4) → (Q x3 S0 S1)) ∧ ((¬ (67 : Int32) < x4) → (wp_X2_isOpenPair S1 x4 (fun r_2 u_3 => ((r_2 = 0) → (wp_X3_pairThatOpensMost_8 Q n S0 u_3 x2 x3 (x4 + 1))) ∧ ((¬ r_2 = 0) → (wp_X3_pairsWith S0 u_3 x4 (fun r_5 u_6 u_7 => ((r_5 ≤ x2) → (wp_X3_pairThatOpensMost_8 Q n u_6 u_7 x2 x3 (x4 + 1))) ∧ ((¬ r_5 ≤ x2) → (wp_X3_pairThatOpensMost_8 Q n u_6 u_7 r_5 x4 (x4 + 1)))))))))
def wp_X3_pairThatOpensMost (S0 : Nat → St) (S1 : St) (Q : Int32 → (Nat → St) → St → Prop) : Prop := ∃ i, wp_X3_pairThatOpensMost_8 Q i S0 S1 (-1 : Int32) (-9 : Int32) (1 : Int32)
abbrev rmX3_pairThatOpensMost : Room := { frames := 5, cells := 0, slots := 0, locals := 111 }
set_option maxRecDepth 100000 in
set_option maxHeartbeats 4000000 in
theorem c_X3_pairThatOpensMost (l : Launch) (D : va_G) (k : Nat → ClassId) (a : Nat → Nat) (b : Nat → Nat) (S0 : Nat → St) (S1 : St) (sz : Nat) (Q : Int32 → (Nat → St) → St → Prop) (h : wp_X3_pairThatOpensMost S0 S1 Q) : Met l yX3_pairThatOpensMost wsX3_pairThatOpensMost rmX3_pairThatOpensMost (cPc D k (wHo k a S0 ++ wFl k b S1) [.ref (a 0), .ref (b 0)] sz) (va_Qi (fun (r : Int32) (u : (Nat → St) × St) => Q r u.1 u.2) (cB D k (va_A (wHo k a S0 ++ wFl k b S1) sz) (fun u : (Nat → St) × St => wHo k a u.1 ++ wFl k b u.2)) (va_A (wHo k a S0 ++ wFl k b S1) sz)) 0 0 (va_A (wHo k a S0 ++ wFl k b S1) sz) := by
  refine ct_entry (cc := cX3_pairThatOpensMost) (maxL := 6) (ret := (some .int)) (Rn := RX3) (Qc := fun A => (va_Qi (fun (r : Int32) (u : (Nat → St) × St) => Q r u.1 u.2) (cB D k A (fun u : (Nat → St) × St => wHo k a u.1 ++ wFl k b u.2)) A)) (by decide) rfl rfl (Nat.le_of_ble_eq_true rfl) ?_
  intro p e s m below meth c hx hb hr hlocks hml hts hown hnw hK A hA H locs hP hD hS ls hl
  have hl : lv_has ls 6 [(0, .ref (a 0)), (1, .ref (b 0))] := hl
  have L_8 : ∀ (n : Nat), ∀ (S0 : Nat → St) (S1 : St) (x2 : Int32) (x3 : Int32) (x4 : Int32), ∀ (H : Heap) (locs : List Loc) (ls : Array Slot), va_P D vwCl (wHo k a S0 ++ wFl k b S1) H → va_D A (wHo k a S0 ++ wFl k b S1) → va_S A s.heap H locs → lv_has ls 6 [(0, .ref (a 0)), (1, .ref (b 0)), (2, .int x2), (3, .int x3), (4, .int x4)] → wp_X3_pairThatOpensMost_8 Q n S0 S1 x2 x3 x4 → W p l e rmX3_pairThatOpensMost s m ([.ref (a 0), .ref (b 0)] : List Value).toArray below meth c H locs 0 0 (MQ below (va_Qi (fun (r : Int32) (u : (Nat → St) × St) => Q r u.1 u.2) (cB D k A (fun u : (Nat → St) × St => wHo k a u.1 ++ wFl k b u.2)) A) ([.ref (a 0), .ref (b 0)] : List Value).toArray s 0 0 A) (F0 m 8 ls []) := by
    intro n
    induction n with
    | zero => intro S0 S1 x2 x3 x4 H locs ls hP hD hS hl h; exact absurd h (by unfold wp_X3_pairThatOpensMost_8; exact id)
    | succ n ih =>
      intro S0 S1 x2 x3 x4 H locs ls hP hD hS hl h
      unfold wp_X3_pairThatOpensMost_8 at h
      refine lv_iload hx hb dX3_pairThatOpensMost_8 (lv_at hl 4 rfl) ?_
      refine lv_bipush (v := (67 : Int32)) hx hb dX3_pairThatOpensMost_10 (by decide) ?_
      refine lv_icmp_gt (tgt := 51) hx hb dX3_pairThatOpensMost_12 (by decide) (fun c_1 => ?_) (fun c_1 => ?_)
      · have h := h.1 c_1
        refine lv_iload_n hx hb dX3_pairThatOpensMost_51 rfl (lv_at hl 3 rfl) ?_
        exact W.iret (v := x3) hx hb hr (fun t ht hW => ⟨⟨x3, (S0, S1), rfl, h, by rw [ht]; exact hP, va_K.moved hW.alike hK, hD⟩, hS.F ht⟩) hS.2.2 dX3_pairThatOpensMost_52
      · have h := h.2 c_1
        refine lv_aload_n hx hb dX3_pairThatOpensMost_15 rfl (lv_at hl 1 rfl) ?_
        refine lv_iload hx hb dX3_pairThatOpensMost_16 (lv_at hl 4 rfl) ?_
        have hPc := fc8_P hP
        have hDc := fc8_D hD
        have hFc := fr_self hDc hS hA
        refine gv_i (va_runV (As := [.int x4]) (rest := []) ⟨hx, hb, hml, hown, hts⟩ (c_X2_isOpenPair l D k b S1 H.size x4 _ h) (cwV 1 hts gX3_pairThatOpensMost_X2_isOpenPair rfl rfl rfl (by decide +kernel) ⟨Nat.le_of_ble_eq_true rfl, Nat.le_of_ble_eq_true rfl⟩) (gv_preV hK hnw hPc hDc (ci := 2) rfl 0 rfl) rfl rfl hl.1 rfl (lv_room (Nat.le_of_ble_eq_true rfl)) dX3_pairThatOpensMost_18 ⟨Nat.zero_le _, Nat.zero_le _⟩) hS hFc (fun r_2 u_3 H locs h hP1 hD1 hk1 hS => ?_)
        obtain ⟨hP, hD⟩ := fc8_J hP hD hk1 hFc hP1 hD1
        refine lv_if_eq (tgt := 45) hx hb dX3_pairThatOpensMost_21 (by decide) (fun c_4 => ?_) (fun c_4 => ?_)
        · have h := h.1 c_4
          refine lv_iinc (v := (x4 + 1)) (lv' := [(4, .int (x4 + 1)), (0, .ref (a 0)), (1, .ref (b 0)), (2, .int x2), (3, .int x3)]) hx hb dX3_pairThatOpensMost_45 hl (k := 4) rfl rfl (by decide) rfl (fun ls hl => ?_)
          refine lv_goto (tgt := 8) hx hb dX3_pairThatOpensMost_48 (by decide) ?_
          exact ih S0 u_3 x2 x3 (x4 + 1) H locs ls hP hD hS (lv_sub hl [1, 2, 3, 4, 0] rfl) h
        · have h := h.2 c_4
          refine lv_aload_n hx hb dX3_pairThatOpensMost_24 rfl (lv_at hl 0 rfl) ?_
          refine lv_aload_n hx hb dX3_pairThatOpensMost_25 rfl (lv_at hl 1 rfl) ?_
          refine lv_iload hx hb dX3_pairThatOpensMost_26 (lv_at hl 4 rfl) ?_
          have hFc := fr_self hD hS hA
          refine gv_i (va_runV (As := [.ref (b 0), .int x4]) (rest := []) ⟨hx, hb, hml, hown, hts⟩ (c_X3_pairsWith l D k a b S0 u_3 H.size x4 _ h) (cwV 2 hts gX3_pairThatOpensMost_X3_pairsWith rfl rfl rfl (by decide +kernel) ⟨Nat.le_of_ble_eq_true rfl, Nat.le_of_ble_eq_true rfl⟩) (gv_preV hK hnw hP hD (ci := 3) rfl 0 rfl) rfl rfl hl.1 rfl (lv_room (Nat.le_of_ble_eq_true rfl)) dX3_pairThatOpensMost_28 ⟨Nat.zero_le _, Nat.zero_le _⟩) hS hFc (fun r_5 w_8 H locs h hP1 hD1 hk1 hS => ?_)
          obtain ⟨u_6, u_7⟩ := w_8
          have hP := hP1
          have hD := hD1.weaken (fun _ _ _ z => hFc _ z)
          refine lv_istore (lv' := [(5, .int r_5), (0, .ref (a 0)), (1, .ref (b 0)), (2, .int x2), (3, .int x3), (4, .int x4)]) hx hb dX3_pairThatOpensMost_31 hl (by decide) rfl (fun ls hl => ?_)
          refine lv_iload hx hb dX3_pairThatOpensMost_33 (lv_at hl 0 rfl) ?_
          refine lv_iload_n hx hb dX3_pairThatOpensMost_35 rfl (lv_at hl 3 rfl) ?_
          refine lv_icmp_le (tgt := 45) hx hb dX3_pairThatOpensMost_36 (by decide) (fun c_9 => ?_) (fun c_9 => ?_)
          · have h := h.1 c_9
            refine lv_iinc (v := (x4 + 1)) (lv' := [(4, .int (x4 + 1)), (5, .int r_5), (0, .ref (a 0)), (1, .ref (b 0)), (2, .int x2), (3, .int x3)]) hx hb dX3_pairThatOpensMost_45 hl (k := 5) rfl rfl (by decide) rfl (fun ls hl => ?_)
            refine lv_goto (tgt := 8) hx hb dX3_pairThatOpensMost_48 (by decide) ?_
            exact ih u_6 u_7 x2 x3 (x4 + 1) H locs ls hP hD hS (lv_sub hl [2, 3, 4, 5, 0] rfl) h
          · have h := h.2 c_9
            refine lv_iload hx hb dX3_pairThatOpensMost_39 (lv_at hl 0 rfl) ?_
            refine lv_istore_n (lv' := [(2, .int r_5), (5, .int r_5), (0, .ref (a 0)), (1, .ref (b 0)), (3, .int x3), (4, .int x4)]) hx hb dX3_pairThatOpensMost_41 rfl hl (by decide) rfl (fun ls hl => ?_)
            refine lv_iload hx hb dX3_pairThatOpensMost_42 (lv_at hl 5 rfl) ?_
            refine lv_istore_n (lv' := [(3, .int x4), (2, .int r_5), (5, .int r_5), (0, .ref (a 0)), (1, .ref (b 0)), (4, .int x4)]) hx hb dX3_pairThatOpensMost_44 rfl hl (by decide) rfl (fun ls hl => ?_)
            refine lv_iinc (v := (x4 + 1)) (lv' := [(4, .int (x4 + 1)), (3, .int x4), (2, .int r_5), (5, .int r_5), (0, .ref (a 0)), (1, .ref (b 0))]) hx hb dX3_pairThatOpensMost_45 hl (k := 5) rfl rfl (by decide) rfl (fun ls hl => ?_)
            refine lv_goto (tgt := 8) hx hb dX3_pairThatOpensMost_48 (by decide) ?_
            exact ih u_6 u_7 r_5 x4 (x4 + 1) H locs ls hP hD hS (lv_sub hl [4, 5, 2, 1, 0] rfl) h
  unfold wp_X3_pairThatOpensMost at h
  refine lv_iconst (v := (-1 : Int32)) hx hb dX3_pairThatOpensMost_0 (by decide) ?_
  refine lv_istore_n (lv' := [(2, .int (-1 : Int32)), (0, .ref (a 0)), (1, .ref (b 0))]) hx hb dX3_pairThatOpensMost_1 rfl hl (by decide) rfl (fun ls hl => ?_)
  refine lv_bipush (v := (-9 : Int32)) hx hb dX3_pairThatOpensMost_2 (by decide) ?_
  refine lv_istore_n (lv' := [(3, .int (-9 : Int32)), (2, .int (-1 : Int32)), (0, .ref (a 0)), (1, .ref (b 0))]) hx hb dX3_pairThatOpensMost_4 rfl hl (by decide) rfl (fun ls hl => ?_)
  refine lv_iconst (v := (1 : Int32)) hx hb dX3_pairThatOpensMost_5 (by decide) ?_
  refine lv_istore (lv' := [(4, .int (1 : Int32)), (3, .int (-9 : Int32)), (2, .int (-1 : Int32)), (0, .ref (a 0)), (1, .ref (b 0))]) hx hb dX3_pairThatOpensMost_6 hl (by decide) rfl (fun ls hl => ?_)
  obtain ⟨n_10, h⟩ := h
  exact L_8 n_10 S0 S1 (-1 : Int32) (-9 : Int32) (1 : Int32) H locs ls hP hD hS (lv_sub hl [3, 4, 2, 1, 0] rfl) h
/-! X3_firstOfSet -/
def wp_X3_firstOfSet_30 (R : (Nat → St) → St → Int32 → Int32 → Int32 → (Int32 → (Nat → St) → St → Prop) → Prop) (x2 : Int32) (x3 : Int32) (x4 : Int32) (Q : Int32 → (Nat → St) → St → Prop) : Nat → (Nat → St) → St → Int32 → Prop
  | 0, _, _, _ => False
  | n + 1, S0, S1, x7 => (((67 : Int32) < x7) → (Q (-9 : Int32) S0 S1)) ∧ ((¬ (67 : Int32) < x7) → (wp_X2_isPair S1 x7 (fun r_5 u_6 => ((r_5 = 0) → (wp_X3_firstOfSet_30 R x2 x3 x4 Q n S0 u_6 (x7 + 1))) ∧ ((¬ r_5 = 0) → (wp_X6_lesserOf x7 (fun r_8 => wp_X6_greaterOf x7 (fun r_9 => wp_X0_haveDanced (S0 x2.toNatClampNeg) r_8 r_9 (fun r_10 u_11 => ∀ S_12, S_12 = (va_up S0 x2.toNatClampNeg u_11) → (((¬ r_10 = 0) → (wp_X3_firstOfSet_30 R x2 x3 x4 Q n S_12 u_6 (x7 + 1))) ∧ ((r_10 = 0) → (((x2 + (1 : Int32)).toNatClampNeg ≠ x2.toNatClampNeg) ∧ (wp_X0_copyFrom (S_12 ((x2 + (1 : Int32)).toNatClampNeg)) (S_12 x2.toNatClampNeg) (fun u_16 u_17 => ∀ S_20, S_20 = (va_up (va_up S_12 ((x2 + (1 : Int32)).toNatClampNeg) u_16) x2.toNatClampNeg u_17) → (wp_X0_joinPair (S_20 ((x2 + (1 : Int32)).toNatClampNeg)) x7 (fun u_23 => ∀ S_24, S_24 = (va_up S_20 ((x2 + (1 : Int32)).toNatClampNeg) u_23) → (wp_X0_settle (S_24 ((x2 + (1 : Int32)).toNatClampNeg)) (fun u_27 => ∀ S_28, S_28 = (va_up S_24 ((x2 + (1 : Int32)).toNatClampNeg) u_27) → ((((1 : Int32) < x3) → (R S_28 u_6 (x2 + (1 : Int32)) (x3 - (1 : Int32)) (x7 + (1 : Int32)) (fun r_31 u_32 u_33 => ((r_31 = (-9 : Int32)) → (wp_X3_firstOfSet_30 R x2 x3 x4 Q n u_32 u_33 (x7 + 1))) ∧ ((¬ r_31 = (-9 : Int32)) → (Q x7 u_32 u_33))))) ∧ ((¬ (1 : Int32) < x3) → (wp_X0_isFull (S_28 ((x2 + (1 : Int32)).toNatClampNeg)) (fun r_36 u_37 => ∀ S_38, S_38 = (va_up S_28 ((x2 + (1 : Int32)).toNatClampNeg) u_37) → (((r_36 = 0) → (wp_X3_firstOfSet_30 R x2 x3 x4 Q n S_38 u_6 (x7 + 1))) ∧ ((¬ r_36 = 0) → (Q x7 S_38 u_6))))))))))))))))))))))))
def wp_X3_firstOfSet_b (R : (Nat → St) → St → Int32 → Int32 → Int32 → (Int32 → (Nat → St) → St → Prop) → Prop) (S0 : Nat → St) (S1 : St) (x2 : Int32) (x3 : Int32) (x4 : Int32) (Q : Int32 → (Nat → St) → St → Prop) : Prop := ((x2 < (3 : Int32)) → (vp_in x2 4 ∧ (vp_in (x2 + (1 : Int32)) 4 ∧ (∃ i, wp_X3_firstOfSet_30 R x2 x3 x4 Q i S0 S1 x4)))) ∧ ((¬ x2 < (3 : Int32)) → (Q (-9 : Int32) S0 S1))
def wp_X3_firstOfSet : Nat → (Nat → St) → St → Int32 → Int32 → Int32 → (Int32 → (Nat → St) → St → Prop) → Prop
  | 0, _, _, _, _, _, _ => False
  | d + 1, S0, S1, x2, x3, x4, Q => wp_X3_firstOfSet_b (wp_X3_firstOfSet d) S0 S1 x2 x3 x4 Q
abbrev rmX3_firstOfSet (d : Nat) : Room := { frames := 4 + (1 * d), cells := 0, slots := 0, locals := 88 + (27 * d) }
set_option maxRecDepth 100000 in
set_option maxHeartbeats 4000000 in
theorem c_X3_firstOfSet_b (l : Launch) (D : va_G) (k : Nat → ClassId) (d : Nat) (R : (Nat → St) → St → Int32 → Int32 → Int32 → (Int32 → (Nat → St) → St → Prop) → Prop) (hR : ∀ (a : Nat → Nat) (b : Nat → Nat) (S0 : Nat → St) (S1 : St) (sz : Nat) (x2 : Int32) (x3 : Int32) (x4 : Int32) (Q : Int32 → (Nat → St) → St → Prop), R S0 S1 x2 x3 x4 Q → Met l yX3_firstOfSet wsX3_firstOfSet (rmX3_firstOfSet d) (cPc D k (wHo k a S0 ++ wFl k b S1) [.ref (a 0), .ref (b 0), .int x2, .int x3, .int x4] sz) (va_Qi (fun (r : Int32) (u : (Nat → St) × St) => Q r u.1 u.2) (cB D k (va_A (wHo k a S0 ++ wFl k b S1) sz) (fun u : (Nat → St) × St => wHo k a u.1 ++ wFl k b u.2)) (va_A (wHo k a S0 ++ wFl k b S1) sz)) 0 0 (va_A (wHo k a S0 ++ wFl k b S1) sz)) (a : Nat → Nat) (b : Nat → Nat) (S0 : Nat → St) (S1 : St) (sz : Nat) (x2 : Int32) (x3 : Int32) (x4 : Int32) (Q : Int32 → (Nat → St) → St → Prop) (h : wp_X3_firstOfSet_b R S0 S1 x2 x3 x4 Q) : Met l yX3_firstOfSet wsX3_firstOfSet (rmX3_firstOfSet (d + 1)) (cPc D k (wHo k a S0 ++ wFl k b S1) [.ref (a 0), .ref (b 0), .int x2, .int x3, .int x4] sz) (va_Qi (fun (r : Int32) (u : (Nat → St) × St) => Q r u.1 u.2) (cB D k (va_A (wHo k a S0 ++ wFl k b S1) sz) (fun u : (Nat → St) × St => wHo k a u.1 ++ wFl k b u.2)) (va_A (wHo k a S0 ++ wFl k b S1) sz)) 0 0 (va_A (wHo k a S0 ++ wFl k b S1) sz) := by
  refine ct_entry (cc := cX3_firstOfSet) (maxL := 8) (ret := (some .int)) (Rn := RX3) (Qc := fun A => (va_Qi (fun (r : Int32) (u : (Nat → St) × St) => Q r u.1 u.2) (cB D k A (fun u : (Nat → St) × St => wHo k a u.1 ++ wFl k b u.2)) A)) (by decide) rfl rfl (Nat.le_of_ble_eq_true rfl) ?_
  intro p e s m below meth c hx hb hr hlocks hml hts hown hnw hK A hA H locs hP hD hS ls hl
  have hl : lv_has ls 8 [(0, .ref (a 0)), (1, .ref (b 0)), (2, .int x2), (3, .int x3), (4, .int x4)] := hl
  have ln_11 := hts (.fieldLink RX3 11 "WithTheSameOne$Hopes" "ends" "[LWithTheSameOne$Ending;") (by decide +kernel)
  have ni_X6 := hts (.initialized RX6) (by decide +kernel)
  have ns_yX6_greaterOf := hts (.static yX6_greaterOf) (by decide +kernel)
  have ns_yX6_lesserOf := hts (.static yX6_lesserOf) (by decide +kernel)
  have in_Ho : ∀ w ∈ wsX30, w ∈ wsX3_firstOfSet := fun _ h => List.mem_cons_of_mem _ (List.mem_append_left _ (List.mem_append_left _ (List.mem_append_right _ h)))
  have L_30 : ∀ (n : Nat), ∀ (S0 : Nat → St) (S1 : St) (x7 : Int32), vp_in (x2 + (1 : Int32)) 4 → vp_in x2 4 → ∀ (H : Heap) (locs : List Loc) (ls : Array Slot), va_P D vwCl (wHo k a S0 ++ wFl k b S1) H → va_D A (wHo k a S0 ++ wFl k b S1) → va_S A s.heap H locs → lv_has ls 8 [(0, .ref (a 0)), (1, .ref (b 0)), (2, .int x2), (3, .int x3), (5, .ref (a (2 + 4 * x2.toNatClampNeg))), (6, .ref (a (2 + 4 * ((x2 + (1 : Int32)).toNatClampNeg)))), (7, .int x7)] → wp_X3_firstOfSet_30 R x2 x3 x4 Q n S0 S1 x7 → W p l e (rmX3_firstOfSet (d + 1)) s m ([.ref (a 0), .ref (b 0), .int x2, .int x3, .int x4] : List Value).toArray below meth c H locs 0 0 (MQ below (va_Qi (fun (r : Int32) (u : (Nat → St) × St) => Q r u.1 u.2) (cB D k A (fun u : (Nat → St) × St => wHo k a u.1 ++ wFl k b u.2)) A) ([.ref (a 0), .ref (b 0), .int x2, .int x3, .int x4] : List Value).toArray s 0 0 A) (F0 m 30 ls []) := by
    intro n
    induction n with
    | zero => intro S0 S1 x7 hv_0 hv_1 H locs ls hP hD hS hl h; exact absurd h (by unfold wp_X3_firstOfSet_30; exact id)
    | succ n ih =>
      intro S0 S1 x7 hv_0 hv_1 H locs ls hP hD hS hl h
      unfold wp_X3_firstOfSet_30 at h
      refine lv_iload hx hb dX3_firstOfSet_30 (lv_at hl 6 rfl) ?_
      refine lv_bipush (v := (67 : Int32)) hx hb dX3_firstOfSet_32 (by decide) ?_
      refine lv_icmp_gt (tgt := 128) hx hb dX3_firstOfSet_34 (by decide) (fun c_4 => ?_) (fun c_4 => ?_)
      · have h := h.1 c_4
        refine lv_bipush (v := (-9 : Int32)) hx hb dX3_firstOfSet_128 (by decide) ?_
        exact W.iret (v := (-9 : Int32)) hx hb hr (fun t ht hW => ⟨⟨(-9 : Int32), (S0, S1), rfl, h, by rw [ht]; exact hP, va_K.moved hW.alike hK, hD⟩, hS.F ht⟩) hS.2.2 dX3_firstOfSet_130
      · have h := h.2 c_4
        refine lv_aload_n hx hb dX3_firstOfSet_37 rfl (lv_at hl 1 rfl) ?_
        refine lv_iload hx hb dX3_firstOfSet_38 (lv_at hl 6 rfl) ?_
        have hPc := fc8_P hP
        have hDc := fc8_D hD
        have hFc := fr_self hDc hS hA
        refine gv_i (va_runV (As := [.int x7]) (rest := []) ⟨hx, hb, hml, hown, hts⟩ (c_X2_isPair l D k b S1 H.size x7 _ h) (cwV 1 hts gX3_firstOfSet_X2_isPair rfl rfl rfl (by decide +kernel) ⟨Nat.le_add_right_of_le (Nat.le_of_ble_eq_true rfl), Nat.le_add_right_of_le (Nat.le_of_ble_eq_true rfl)⟩) (gv_preV hK hnw hPc hDc (ci := 2) rfl 0 rfl) rfl rfl hl.1 rfl (lv_room (Nat.le_of_ble_eq_true rfl)) dX3_firstOfSet_40 ⟨Nat.zero_le _, Nat.zero_le _⟩) hS hFc (fun r_5 u_6 H locs h hP1 hD1 hk1 hS => ?_)
        obtain ⟨hP, hD⟩ := fc8_J hP hD hk1 hFc hP1 hD1
        refine lv_if_eq (tgt := 122) hx hb dX3_firstOfSet_43 (by decide) (fun c_7 => ?_) (fun c_7 => ?_)
        · have h := h.1 c_7
          refine lv_iinc (v := (x7 + 1)) (lv' := [(7, .int (x7 + 1)), (0, .ref (a 0)), (1, .ref (b 0)), (2, .int x2), (3, .int x3), (5, .ref (a (2 + 4 * x2.toNatClampNeg))), (6, .ref (a (2 + 4 * ((x2 + (1 : Int32)).toNatClampNeg))))]) hx hb dX3_firstOfSet_122 hl (k := 6) rfl rfl (by decide) rfl (fun ls hl => ?_)
          refine lv_goto (tgt := 30) hx hb dX3_firstOfSet_125 (by decide) ?_
          exact ih S0 u_6 (x7 + 1) hv_0 hv_1 H locs ls hP hD hS (lv_sub hl [1, 2, 3, 4, 5, 6, 0] rfl) h
        · have h := h.2 c_7
          refine lv_aload hx hb dX3_firstOfSet_46 (lv_at hl 4 rfl) ?_
          refine lv_iload hx hb dX3_firstOfSet_48 (lv_at hl 6 rfl) ?_
          refine gs_i (va_runSN (As := [.int x7]) (rest := [.ref (a (2 + 4 * x2.toNatClampNeg))]) ⟨hx, hb, hml, hown, hts⟩ (c_X6_lesserOf l x7 _ h) ⟨va_cnB 1 hts gX3_firstOfSet_X6_lesserOf_n76 rfl rfl rfl (hnw.1 _ (List.mem_of_getElem? (i := 10) rfl)) ni_X6 (by decide +kernel) ⟨Nat.le_add_right_of_le (Nat.le_of_ble_eq_true rfl), Nat.le_add_right_of_le (Nat.le_of_ble_eq_true rfl)⟩, ns_yX6_lesserOf, trivial⟩ preEq rfl rfl hl.1 rfl (lv_room (Nat.le_of_ble_eq_true rfl)) dX3_firstOfSet_50 ⟨Nat.zero_le _, Nat.zero_le _⟩) (fun r_8 h => ?_)
          refine lv_iload hx hb dX3_firstOfSet_53 (lv_at hl 6 rfl) ?_
          refine gs_i (va_runSN (As := [.int x7]) (rest := [.int r_8, .ref (a (2 + 4 * x2.toNatClampNeg))]) ⟨hx, hb, hml, hown, hts⟩ (c_X6_greaterOf l x7 _ h) ⟨va_cnB 1 hts gX3_firstOfSet_X6_greaterOf_n80 rfl rfl rfl (hnw.1 _ (List.mem_of_getElem? (i := 11) rfl)) ni_X6 (by decide +kernel) ⟨Nat.le_add_right_of_le (Nat.le_of_ble_eq_true rfl), Nat.le_add_right_of_le (Nat.le_of_ble_eq_true rfl)⟩, ns_yX6_greaterOf, trivial⟩ preEq rfl rfl hl.1 rfl (lv_room (Nat.le_of_ble_eq_true rfl)) dX3_firstOfSet_55 ⟨Nat.zero_le _, Nat.zero_le _⟩) (fun r_9 h => ?_)
          have hPc := fc9_P (vp_lt hv_1) hP
          have hDc := fc9_D (vp_lt hv_1) hD
          have hFc := fr_self hDc hS hA
          refine gv_i (va_runV (As := [.int r_8, .int r_9]) (rest := []) ⟨hx, hb, hml, hown, hts⟩ (c_X0_haveDanced l D k (sh a (2 + 4 * x2.toNatClampNeg)) (S0 x2.toNatClampNeg) H.size r_8 r_9 _ h) (cwV 2 hts gX3_firstOfSet_X0_haveDanced rfl rfl rfl (by decide +kernel) ⟨Nat.le_add_right_of_le (Nat.le_of_ble_eq_true rfl), Nat.le_add_right_of_le (Nat.le_of_ble_eq_true rfl)⟩) (gv_preV hK hnw hPc hDc (ci := 0) rfl 0 rfl) rfl rfl hl.1 rfl (lv_room (Nat.le_of_ble_eq_true rfl)) dX3_firstOfSet_58 ⟨Nat.zero_le _, Nat.zero_le _⟩) hS hFc (fun r_10 u_11 H locs h hP1 hD1 hk1 hS => ?_)
          obtain ⟨hP, hD⟩ := fc9_J (vp_lt hv_1) hP hD hk1 hFc hP1 hD1
          obtain ⟨S_12, e_13⟩ : ∃ z : Nat → St, z = (va_up S0 x2.toNatClampNeg u_11) := ⟨_, rfl⟩
          have h := h S_12 e_13
          have hP : va_P D vwCl (wHo k a S_12 ++ wFl k b u_6) H := by rw [e_13]; exact hP
          have hD : va_D A (wHo k a S_12 ++ wFl k b u_6) := by rw [e_13]; exact hD
          refine lv_if_ne (tgt := 122) hx hb dX3_firstOfSet_61 (by decide) (fun c_14 => ?_) (fun c_14 => ?_)
          · have h := h.1 c_14
            refine lv_iinc (v := (x7 + 1)) (lv' := [(7, .int (x7 + 1)), (0, .ref (a 0)), (1, .ref (b 0)), (2, .int x2), (3, .int x3), (5, .ref (a (2 + 4 * x2.toNatClampNeg))), (6, .ref (a (2 + 4 * ((x2 + (1 : Int32)).toNatClampNeg))))]) hx hb dX3_firstOfSet_122 hl (k := 6) rfl rfl (by decide) rfl (fun ls hl => ?_)
            refine lv_goto (tgt := 30) hx hb dX3_firstOfSet_125 (by decide) ?_
            exact ih S_12 u_6 (x7 + 1) hv_0 hv_1 H locs ls hP hD hS (lv_sub hl [1, 2, 3, 4, 5, 6, 0] rfl) h
          · have h := h.2 c_14
            refine lv_aload hx hb dX3_firstOfSet_64 (lv_at hl 5 rfl) ?_
            refine lv_aload hx hb dX3_firstOfSet_66 (lv_at hl 4 rfl) ?_
            have ne_18 := h.1
            have h := h.2
            have hPc := fc10_P (vp_lt hv_0) (vp_lt hv_1) ne_18 hP
            have hDc := fc10_D (vp_lt hv_0) (vp_lt hv_1) ne_18 hD
            have hFc := fr_self hDc hS hA
            refine gv_v (va_runV (As := [.ref (a (2 + 4 * x2.toNatClampNeg))]) (rest := []) ⟨hx, hb, hml, hown, hts⟩ (c_X0_copyFrom l D k (sh a (2 + 4 * ((x2 + (1 : Int32)).toNatClampNeg))) (sh a (2 + 4 * x2.toNatClampNeg)) (S_12 ((x2 + (1 : Int32)).toNatClampNeg)) (S_12 x2.toNatClampNeg) H.size _ h) (cwV 1 hts gX3_firstOfSet_X0_copyFrom rfl rfl rfl (by decide +kernel) ⟨Nat.le_add_right_of_le (Nat.le_of_ble_eq_true rfl), Nat.le_add_right_of_le (Nat.le_of_ble_eq_true rfl)⟩) (gv_preV hK hnw hPc hDc (ci := 0) rfl 0 rfl) rfl rfl hl.1 rfl (lv_room (Nat.le_of_ble_eq_true rfl)) dX3_firstOfSet_68 ⟨Nat.zero_le _, Nat.zero_le _⟩) hS hFc (fun w_19 H locs h hP1 hD1 hk1 hS => ?_)
            obtain ⟨u_16, u_17⟩ := w_19
            obtain ⟨hP, hD⟩ := fc10_J (vp_lt hv_0) (vp_lt hv_1) ne_18 hP hD hk1 hFc hP1 hD1
            obtain ⟨S_20, e_21⟩ : ∃ z : Nat → St, z = (va_up (va_up S_12 ((x2 + (1 : Int32)).toNatClampNeg) u_16) x2.toNatClampNeg u_17) := ⟨_, rfl⟩
            have h := h S_20 e_21
            have hP : va_P D vwCl (wHo k a S_20 ++ wFl k b u_6) H := by rw [e_21]; exact hP
            have hD : va_D A (wHo k a S_20 ++ wFl k b u_6) := by rw [e_21]; exact hD
            refine lv_aload hx hb dX3_firstOfSet_71 (lv_at hl 5 rfl) ?_
            refine lv_iload hx hb dX3_firstOfSet_73 (lv_at hl 6 rfl) ?_
            have hPc := fc9_P (vp_lt hv_0) hP
            have hDc := fc9_D (vp_lt hv_0) hD
            have hFc := fr_self hDc hS hA
            refine gv_v (va_runV (As := [.int x7]) (rest := []) ⟨hx, hb, hml, hown, hts⟩ (c_X0_joinPair l D k (sh a (2 + 4 * ((x2 + (1 : Int32)).toNatClampNeg))) (S_20 ((x2 + (1 : Int32)).toNatClampNeg)) H.size x7 _ h) (cwV 1 hts gX3_firstOfSet_X0_joinPair rfl rfl rfl (by decide +kernel) ⟨Nat.le_add_right_of_le (Nat.le_of_ble_eq_true rfl), Nat.le_add_right_of_le (Nat.le_of_ble_eq_true rfl)⟩) (gv_preV hK hnw hPc hDc (ci := 0) rfl 0 rfl) rfl rfl hl.1 rfl (lv_room (Nat.le_of_ble_eq_true rfl)) dX3_firstOfSet_75 ⟨Nat.zero_le _, Nat.zero_le _⟩) hS hFc (fun u_23 H locs h hP1 hD1 hk1 hS => ?_)
            obtain ⟨hP, hD⟩ := fc9_J (vp_lt hv_0) hP hD hk1 hFc hP1 hD1
            obtain ⟨S_24, e_25⟩ : ∃ z : Nat → St, z = (va_up S_20 ((x2 + (1 : Int32)).toNatClampNeg) u_23) := ⟨_, rfl⟩
            have h := h S_24 e_25
            have hP : va_P D vwCl (wHo k a S_24 ++ wFl k b u_6) H := by rw [e_25]; exact hP
            have hD : va_D A (wHo k a S_24 ++ wFl k b u_6) := by rw [e_25]; exact hD
            refine lv_aload hx hb dX3_firstOfSet_78 (lv_at hl 5 rfl) ?_
            have hPc := fc9_P (vp_lt hv_0) hP
            have hDc := fc9_D (vp_lt hv_0) hD
            have hFc := fr_self hDc hS hA
            refine gv_v (va_runV (As := []) (rest := []) ⟨hx, hb, hml, hown, hts⟩ (c_X0_settle l D k (sh a (2 + 4 * ((x2 + (1 : Int32)).toNatClampNeg))) (S_24 ((x2 + (1 : Int32)).toNatClampNeg)) H.size _ h) (cwV 0 hts gX3_firstOfSet_X0_settle rfl rfl rfl (by decide +kernel) ⟨Nat.le_add_right_of_le (Nat.le_of_ble_eq_true rfl), Nat.le_add_right_of_le (Nat.le_of_ble_eq_true rfl)⟩) (gv_preV hK hnw hPc hDc (ci := 0) rfl 0 rfl) rfl rfl hl.1 rfl (lv_room (Nat.le_of_ble_eq_true rfl)) dX3_firstOfSet_80 ⟨Nat.zero_le _, Nat.zero_le _⟩) hS hFc (fun u_27 H locs h hP1 hD1 hk1 hS => ?_)
            obtain ⟨hP, hD⟩ := fc9_J (vp_lt hv_0) hP hD hk1 hFc hP1 hD1
            obtain ⟨S_28, e_29⟩ : ∃ z : Nat → St, z = (va_up S_24 ((x2 + (1 : Int32)).toNatClampNeg) u_27) := ⟨_, rfl⟩
            have h := h S_28 e_29
            have hP : va_P D vwCl (wHo k a S_28 ++ wFl k b u_6) H := by rw [e_29]; exact hP
            have hD : va_D A (wHo k a S_28 ++ wFl k b u_6) := by rw [e_29]; exact hD
            refine lv_iload_n hx hb dX3_firstOfSet_83 rfl (lv_at hl 3 rfl) ?_
            refine lv_iconst (v := (1 : Int32)) hx hb dX3_firstOfSet_84 (by decide) ?_
            refine lv_icmp_gt (tgt := 99) hx hb dX3_firstOfSet_85 (by decide) (fun c_30 => ?_) (fun c_30 => ?_)
            · have h := h.1 c_30
              refine lv_aload_n hx hb dX3_firstOfSet_99 rfl (lv_at hl 0 rfl) ?_
              refine lv_aload_n hx hb dX3_firstOfSet_100 rfl (lv_at hl 1 rfl) ?_
              refine lv_iload_n hx hb dX3_firstOfSet_101 rfl (lv_at hl 2 rfl) ?_
              refine lv_iconst (v := (1 : Int32)) hx hb dX3_firstOfSet_102 (by decide) ?_
              refine lv_iadd hx hb dX3_firstOfSet_103 ?_
              refine lv_iload_n hx hb dX3_firstOfSet_104 rfl (lv_at hl 3 rfl) ?_
              refine lv_iconst (v := (1 : Int32)) hx hb dX3_firstOfSet_105 (by decide) ?_
              refine lv_isub hx hb dX3_firstOfSet_106 ?_
              refine lv_iload hx hb dX3_firstOfSet_107 (lv_at hl 6 rfl) ?_
              refine lv_iconst (v := (1 : Int32)) hx hb dX3_firstOfSet_109 (by decide) ?_
              refine lv_iadd hx hb dX3_firstOfSet_110 ?_
              have hFc := fr_self hD hS hA
              refine gv_i (va_runV (As := [.ref (b 0), .int (x2 + (1 : Int32)), .int (x3 - (1 : Int32)), .int (x7 + (1 : Int32))]) (rest := []) ⟨hx, hb, hml, hown, hts⟩ (hR a b S_28 u_6 H.size (x2 + (1 : Int32)) (x3 - (1 : Int32)) (x7 + (1 : Int32)) _ h) (cwV 4 hts gX3_firstOfSet_X3_firstOfSet rfl rfl rfl (by decide +kernel) ⟨by show 4 + (1 * d) + 1 ≤ 4 + (1 * (d + 1)); omega, by show 8 + (8 + 11) + (88 + (27 * d)) ≤ 88 + (27 * (d + 1)); omega⟩) (gv_preV hK hnw hP hD (ci := 3) rfl 0 rfl) rfl rfl hl.1 rfl (lv_room (Nat.le_of_ble_eq_true rfl)) dX3_firstOfSet_111 ⟨Nat.zero_le _, Nat.zero_le _⟩) hS hFc (fun r_31 w_34 H locs h hP1 hD1 hk1 hS => ?_)
              obtain ⟨u_32, u_33⟩ := w_34
              have hP := hP1
              have hD := hD1.weaken (fun _ _ _ z => hFc _ z)
              refine lv_bipush (v := (-9 : Int32)) hx hb dX3_firstOfSet_114 (by decide) ?_
              refine lv_icmp_eq (tgt := 122) hx hb dX3_firstOfSet_116 (by decide) (fun c_35 => ?_) (fun c_35 => ?_)
              · have h := h.1 c_35
                refine lv_iinc (v := (x7 + 1)) (lv' := [(7, .int (x7 + 1)), (0, .ref (a 0)), (1, .ref (b 0)), (2, .int x2), (3, .int x3), (5, .ref (a (2 + 4 * x2.toNatClampNeg))), (6, .ref (a (2 + 4 * ((x2 + (1 : Int32)).toNatClampNeg))))]) hx hb dX3_firstOfSet_122 hl (k := 6) rfl rfl (by decide) rfl (fun ls hl => ?_)
                refine lv_goto (tgt := 30) hx hb dX3_firstOfSet_125 (by decide) ?_
                exact ih u_32 u_33 (x7 + 1) hv_0 hv_1 H locs ls hP hD hS (lv_sub hl [1, 2, 3, 4, 5, 6, 0] rfl) h
              · have h := h.2 c_35
                refine lv_iload hx hb dX3_firstOfSet_119 (lv_at hl 6 rfl) ?_
                exact W.iret (v := x7) hx hb hr (fun t ht hW => ⟨⟨x7, (u_32, u_33), rfl, h, by rw [ht]; exact hP, va_K.moved hW.alike hK, hD⟩, hS.F ht⟩) hS.2.2 dX3_firstOfSet_121
            · have h := h.2 c_30
              refine lv_aload hx hb dX3_firstOfSet_88 (lv_at hl 5 rfl) ?_
              have hPc := fc9_P (vp_lt hv_0) hP
              have hDc := fc9_D (vp_lt hv_0) hD
              have hFc := fr_self hDc hS hA
              refine gv_i (va_runV (As := []) (rest := []) ⟨hx, hb, hml, hown, hts⟩ (c_X0_isFull l D k (sh a (2 + 4 * ((x2 + (1 : Int32)).toNatClampNeg))) (S_28 ((x2 + (1 : Int32)).toNatClampNeg)) H.size _ h) (cwV 0 hts gX3_firstOfSet_X0_isFull rfl rfl rfl (by decide +kernel) ⟨Nat.le_add_right_of_le (Nat.le_of_ble_eq_true rfl), Nat.le_add_right_of_le (Nat.le_of_ble_eq_true rfl)⟩) (gv_preV hK hnw hPc hDc (ci := 0) rfl 0 rfl) rfl rfl hl.1 rfl (lv_room (Nat.le_of_ble_eq_true rfl)) dX3_firstOfSet_90 ⟨Nat.zero_le _, Nat.zero_le _⟩) hS hFc (fun r_36 u_37 H locs h hP1 hD1 hk1 hS => ?_)
              obtain ⟨hP, hD⟩ := fc9_J (vp_lt hv_0) hP hD hk1 hFc hP1 hD1
              obtain ⟨S_38, e_39⟩ : ∃ z : Nat → St, z = (va_up S_28 ((x2 + (1 : Int32)).toNatClampNeg) u_37) := ⟨_, rfl⟩
              have h := h S_38 e_39
              have hP : va_P D vwCl (wHo k a S_38 ++ wFl k b u_6) H := by rw [e_39]; exact hP
              have hD : va_D A (wHo k a S_38 ++ wFl k b u_6) := by rw [e_39]; exact hD
              refine lv_if_eq (tgt := 122) hx hb dX3_firstOfSet_93 (by decide) (fun c_40 => ?_) (fun c_40 => ?_)
              · have h := h.1 c_40
                refine lv_iinc (v := (x7 + 1)) (lv' := [(7, .int (x7 + 1)), (0, .ref (a 0)), (1, .ref (b 0)), (2, .int x2), (3, .int x3), (5, .ref (a (2 + 4 * x2.toNatClampNeg))), (6, .ref (a (2 + 4 * ((x2 + (1 : Int32)).toNatClampNeg))))]) hx hb dX3_firstOfSet_122 hl (k := 6) rfl rfl (by decide) rfl (fun ls hl => ?_)
                refine lv_goto (tgt := 30) hx hb dX3_firstOfSet_125 (by decide) ?_
                exact ih S_38 u_6 (x7 + 1) hv_0 hv_1 H locs ls hP hD hS (lv_sub hl [1, 2, 3, 4, 5, 6, 0] rfl) h
              · have h := h.2 c_40
                refine lv_goto (tgt := 119) hx hb dX3_firstOfSet_96 (by decide) ?_
                refine lv_iload hx hb dX3_firstOfSet_119 (lv_at hl 6 rfl) ?_
                exact W.iret (v := x7) hx hb hr (fun t ht hW => ⟨⟨x7, (S_38, u_6), rfl, h, by rw [ht]; exact hP, va_K.moved hW.alike hK, hD⟩, hS.F ht⟩) hS.2.2 dX3_firstOfSet_121
  unfold wp_X3_firstOfSet_b at h
  refine lv_iload_n hx hb dX3_firstOfSet_0 rfl (lv_at hl 2 rfl) ?_
  refine lv_iconst (v := (3 : Int32)) hx hb dX3_firstOfSet_1 (by decide) ?_
  refine lv_icmp_lt (tgt := 8) hx hb dX3_firstOfSet_2 (by decide) (fun c_1 => ?_) (fun c_1 => ?_)
  · have h := h.1 c_1
    refine lv_aload_n hx hb dX3_firstOfSet_8 rfl (lv_at hl 0 rfl) ?_
    refine va_get (D := D) (ci := 3) (v := .ref (a 1)) (C := RX3) (T := TX3) (N := 1) hx hb hts in_Ho hown hK hP 0 rfl rfl 0 (by decide) ln_11 (fun _ h9 => h9) rfl dX3_firstOfSet_9 ?_
    refine lv_iload_n hx hb dX3_firstOfSet_12 rfl (lv_at hl 2 rfl) ?_
    refine va_aldq (C := RX0) hx hb hK hP 1 2 rfl rfl h.1 dX3_firstOfSet_13 ?_
    have hv_2 := h.1
    have h := h.2
    refine W.eq (g2 := F0 m 14 ls [.ref (a (2 + 4 * x2.toNatClampNeg))]) rfl ?_
    refine lv_astore (lv' := [(5, .ref (a (2 + 4 * x2.toNatClampNeg))), (0, .ref (a 0)), (1, .ref (b 0)), (2, .int x2), (3, .int x3), (4, .int x4)]) hx hb dX3_firstOfSet_14 hl (by decide) rfl (fun ls hl => ?_)
    refine lv_aload_n hx hb dX3_firstOfSet_16 rfl (lv_at hl 1 rfl) ?_
    refine va_get (D := D) (ci := 3) (v := .ref (a 1)) (C := RX3) (T := TX3) (N := 1) hx hb hts in_Ho hown hK hP 0 rfl rfl 0 (by decide) ln_11 (fun _ h9 => h9) rfl dX3_firstOfSet_17 ?_
    refine lv_iload_n hx hb dX3_firstOfSet_20 rfl (lv_at hl 3 rfl) ?_
    refine lv_iconst (v := (1 : Int32)) hx hb dX3_firstOfSet_21 (by decide) ?_
    refine lv_iadd hx hb dX3_firstOfSet_22 ?_
    refine va_aldq (C := RX0) hx hb hK hP 1 2 rfl rfl h.1 dX3_firstOfSet_23 ?_
    have hv_3 := h.1
    have h := h.2
    refine W.eq (g2 := F0 m 24 ls [.ref (a (2 + 4 * ((x2 + (1 : Int32)).toNatClampNeg)))]) rfl ?_
    refine lv_astore (lv' := [(6, .ref (a (2 + 4 * ((x2 + (1 : Int32)).toNatClampNeg)))), (5, .ref (a (2 + 4 * x2.toNatClampNeg))), (0, .ref (a 0)), (1, .ref (b 0)), (2, .int x2), (3, .int x3), (4, .int x4)]) hx hb dX3_firstOfSet_24 hl (by decide) rfl (fun ls hl => ?_)
    refine lv_iload hx hb dX3_firstOfSet_26 (lv_at hl 6 rfl) ?_
    refine lv_istore (lv' := [(7, .int x4), (6, .ref (a (2 + 4 * ((x2 + (1 : Int32)).toNatClampNeg)))), (5, .ref (a (2 + 4 * x2.toNatClampNeg))), (0, .ref (a 0)), (1, .ref (b 0)), (2, .int x2), (3, .int x3), (4, .int x4)]) hx hb dX3_firstOfSet_28 hl (by decide) rfl (fun ls hl => ?_)
    obtain ⟨n_41, h⟩ := h
    exact L_30 n_41 S0 S1 x4 hv_3 hv_2 H locs ls hP hD hS (lv_sub hl [3, 4, 5, 6, 2, 1, 0] rfl) h
  · have h := h.2 c_1
    refine lv_bipush (v := (-9 : Int32)) hx hb dX3_firstOfSet_5 (by decide) ?_
    exact W.iret (v := (-9 : Int32)) hx hb hr (fun t ht hW => ⟨⟨(-9 : Int32), (S0, S1), rfl, h, by rw [ht]; exact hP, va_K.moved hW.alike hK, hD⟩, hS.F ht⟩) hS.2.2 dX3_firstOfSet_7
theorem c_X3_firstOfSet (l : Launch) (D : va_G) (k : Nat → ClassId) : ∀ (d : Nat) (a : Nat → Nat) (b : Nat → Nat) (S0 : Nat → St) (S1 : St) (sz : Nat) (x2 : Int32) (x3 : Int32) (x4 : Int32) (Q : Int32 → (Nat → St) → St → Prop), wp_X3_firstOfSet d S0 S1 x2 x3 x4 Q → Met l yX3_firstOfSet wsX3_firstOfSet (rmX3_firstOfSet d) (cPc D k (wHo k a S0 ++ wFl k b S1) [.ref (a 0), .ref (b 0), .int x2, .int x3, .int x4] sz) (va_Qi (fun (r : Int32) (u : (Nat → St) × St) => Q r u.1 u.2) (cB D k (va_A (wHo k a S0 ++ wFl k b S1) sz) (fun u : (Nat → St) × St => wHo k a u.1 ++ wFl k b u.2)) (va_A (wHo k a S0 ++ wFl k b S1) sz)) 0 0 (va_A (wHo k a S0 ++ wFl k b S1) sz) := by
  intro d
  induction d with
  | zero => intro a b S0 S1 sz x2 x3 x4 Q h; exact absurd h (by unfold wp_X3_firstOfSet; exact id)
  | succ d ih => intro a b S0 S1 sz x2 x3 x4 Q h; exact c_X3_firstOfSet_b l D k d (wp_X3_firstOfSet d) ih a b S0 S1 sz x2 x3 x4 Q (by unfold wp_X3_firstOfSet at h; exact h)
/-! X3_fewestAdded -/
def wp_X3_fewestAdded_15 (Q : Int32 → (Nat → St) → St → Prop) : Nat → (Nat → St) → St → Int32 → Prop
  | 0, _, _, _ => False
  | n + 1, S0, S1, x2 => (((3 : Int32) < x2) → (Q (-9 : Int32) S0 S1)) ∧ ((¬ (3 : Int32) < x2) → (wp_X3_firstOfSet 4 S0 S1 (0 : Int32) x2 (1 : Int32) (fun r_11 u_12 u_13 => ((r_11 = (-9 : Int32)) → (wp_X3_fewestAdded_15 Q n u_12 u_13 (x2 + 1))) ∧ ((¬ r_11 = (-9 : Int32)) → (Q x2 u_12 u_13)))))
def wp_X3_fewestAdded (S0 : Nat → St) (S1 : St) (Q : Int32 → (Nat → St) → St → Prop) : Prop := wp_X3_settled S0 S1 (fun u_2 u_3 => wp_X0_isFull (u_2 0) (fun r_5 u_6 => ∀ S_7, S_7 = (va_up u_2 0 u_6) → (((r_5 = 0) → (∃ i, wp_X3_fewestAdded_15 Q i S_7 u_3 (1 : Int32))) ∧ ((¬ r_5 = 0) → (Q (0 : Int32) S_7 u_3)))))
abbrev rmX3_fewestAdded : Room := { frames := 9, cells := 0, slots := 0, locals := 223 }
set_option maxRecDepth 100000 in
set_option maxHeartbeats 4000000 in
theorem c_X3_fewestAdded (l : Launch) (D : va_G) (k : Nat → ClassId) (a : Nat → Nat) (b : Nat → Nat) (S0 : Nat → St) (S1 : St) (sz : Nat) (Q : Int32 → (Nat → St) → St → Prop) (h : wp_X3_fewestAdded S0 S1 Q) : Met l yX3_fewestAdded wsX3_fewestAdded rmX3_fewestAdded (cPc D k (wHo k a S0 ++ wFl k b S1) [.ref (a 0), .ref (b 0)] sz) (va_Qi (fun (r : Int32) (u : (Nat → St) × St) => Q r u.1 u.2) (cB D k (va_A (wHo k a S0 ++ wFl k b S1) sz) (fun u : (Nat → St) × St => wHo k a u.1 ++ wFl k b u.2)) (va_A (wHo k a S0 ++ wFl k b S1) sz)) 0 0 (va_A (wHo k a S0 ++ wFl k b S1) sz) := by
  refine ct_entry (cc := cX3_fewestAdded) (maxL := 3) (ret := (some .int)) (Rn := RX3) (Qc := fun A => (va_Qi (fun (r : Int32) (u : (Nat → St) × St) => Q r u.1 u.2) (cB D k A (fun u : (Nat → St) × St => wHo k a u.1 ++ wFl k b u.2)) A)) (by decide) rfl rfl (Nat.le_of_ble_eq_true rfl) ?_
  intro p e s m below meth c hx hb hr hlocks hml hts hown hnw hK A hA H locs hP hD hS ls hl
  have hl : lv_has ls 3 [(0, .ref (a 0)), (1, .ref (b 0))] := hl
  have L_15 : ∀ (n : Nat), ∀ (S0 : Nat → St) (S1 : St) (x2 : Int32), ∀ (H : Heap) (locs : List Loc) (ls : Array Slot), va_P D vwCl (wHo k a S0 ++ wFl k b S1) H → va_D A (wHo k a S0 ++ wFl k b S1) → va_S A s.heap H locs → lv_has ls 3 [(0, .ref (a 0)), (1, .ref (b 0)), (2, .int x2)] → wp_X3_fewestAdded_15 Q n S0 S1 x2 → W p l e rmX3_fewestAdded s m ([.ref (a 0), .ref (b 0)] : List Value).toArray below meth c H locs 0 0 (MQ below (va_Qi (fun (r : Int32) (u : (Nat → St) × St) => Q r u.1 u.2) (cB D k A (fun u : (Nat → St) × St => wHo k a u.1 ++ wFl k b u.2)) A) ([.ref (a 0), .ref (b 0)] : List Value).toArray s 0 0 A) (F0 m 15 ls []) := by
    intro n
    induction n with
    | zero => intro S0 S1 x2 H locs ls hP hD hS hl h; exact absurd h (by unfold wp_X3_fewestAdded_15; exact id)
    | succ n ih =>
      intro S0 S1 x2 H locs ls hP hD hS hl h
      unfold wp_X3_fewestAdded_15 at h
      refine lv_iload_n hx hb dX3_fewestAdded_15 rfl (lv_at hl 2 rfl) ?_
      refine lv_iconst (v := (3 : Int32)) hx hb dX3_fewestAdded_16 (by decide) ?_
      refine lv_icmp_gt (tgt := 41) hx hb dX3_fewestAdded_17 (by decide) (fun c_10 => ?_) (fun c_10 => ?_)
      · have h := h.1 c_10
        refine lv_bipush (v := (-9 : Int32)) hx hb dX3_fewestAdded_41 (by decide) ?_
        exact W.iret (v := (-9 : Int32)) hx hb hr (fun t ht hW => ⟨⟨(-9 : Int32), (S0, S1), rfl, h, by rw [ht]; exact hP, va_K.moved hW.alike hK, hD⟩, hS.F ht⟩) hS.2.2 dX3_fewestAdded_43
      · have h := h.2 c_10
        refine lv_aload_n hx hb dX3_fewestAdded_20 rfl (lv_at hl 0 rfl) ?_
        refine lv_aload_n hx hb dX3_fewestAdded_21 rfl (lv_at hl 1 rfl) ?_
        refine lv_iconst (v := (0 : Int32)) hx hb dX3_fewestAdded_22 (by decide) ?_
        refine lv_iload_n hx hb dX3_fewestAdded_23 rfl (lv_at hl 2 rfl) ?_
        refine lv_iconst (v := (1 : Int32)) hx hb dX3_fewestAdded_24 (by decide) ?_
        have hFc := fr_self hD hS hA
        refine gv_i (va_runV (As := [.ref (b 0), .int (0 : Int32), .int x2, .int (1 : Int32)]) (rest := []) ⟨hx, hb, hml, hown, hts⟩ (c_X3_firstOfSet l D k 4 a b S0 S1 H.size (0 : Int32) x2 (1 : Int32) _ h) (cwV 4 hts gX3_fewestAdded_X3_firstOfSet rfl rfl rfl (by decide +kernel) ⟨Nat.le_of_ble_eq_true rfl, Nat.le_of_ble_eq_true rfl⟩) (gv_preV hK hnw hP hD (ci := 3) rfl 0 rfl) rfl rfl hl.1 rfl (lv_room (Nat.le_of_ble_eq_true rfl)) dX3_fewestAdded_25 ⟨Nat.zero_le _, Nat.zero_le _⟩) hS hFc (fun r_11 w_14 H locs h hP1 hD1 hk1 hS => ?_)
        obtain ⟨u_12, u_13⟩ := w_14
        have hP := hP1
        have hD := hD1.weaken (fun _ _ _ z => hFc _ z)
        refine lv_bipush (v := (-9 : Int32)) hx hb dX3_fewestAdded_28 (by decide) ?_
        refine lv_icmp_eq (tgt := 35) hx hb dX3_fewestAdded_30 (by decide) (fun c_15 => ?_) (fun c_15 => ?_)
        · have h := h.1 c_15
          refine lv_iinc (v := (x2 + 1)) (lv' := [(2, .int (x2 + 1)), (0, .ref (a 0)), (1, .ref (b 0))]) hx hb dX3_fewestAdded_35 hl (k := 2) rfl rfl (by decide) rfl (fun ls hl => ?_)
          refine lv_goto (tgt := 15) hx hb dX3_fewestAdded_38 (by decide) ?_
          exact ih u_12 u_13 (x2 + 1) H locs ls hP hD hS (lv_sub hl [1, 2, 0] rfl) h
        · have h := h.2 c_15
          refine lv_iload_n hx hb dX3_fewestAdded_33 rfl (lv_at hl 2 rfl) ?_
          exact W.iret (v := x2) hx hb hr (fun t ht hW => ⟨⟨x2, (u_12, u_13), rfl, h, by rw [ht]; exact hP, va_K.moved hW.alike hK, hD⟩, hS.F ht⟩) hS.2.2 dX3_fewestAdded_34
  unfold wp_X3_fewestAdded at h
  refine lv_aload_n hx hb dX3_fewestAdded_0 rfl (lv_at hl 0 rfl) ?_
  refine lv_aload_n hx hb dX3_fewestAdded_1 rfl (lv_at hl 1 rfl) ?_
  have hFc := fr_self hD hS hA
  refine gv_r (va_runV (As := [.ref (b 0)]) (rest := []) ⟨hx, hb, hml, hown, hts⟩ (c_X3_settled l D k a b S0 S1 H.size _ h) (cwV 1 hts gX3_fewestAdded_X3_settled rfl rfl rfl (by decide +kernel) ⟨Nat.le_of_ble_eq_true rfl, Nat.le_of_ble_eq_true rfl⟩) (gv_preV hK hnw hP hD (ci := 3) rfl 0 rfl) rfl rfl hl.1 rfl (lv_room (Nat.le_of_ble_eq_true rfl)) dX3_fewestAdded_2 ⟨Nat.zero_le _, Nat.zero_le _⟩) hS hFc (fun w_4 H locs h hP1 hD1 hk1 hS => ?_)
  obtain ⟨u_2, u_3⟩ := w_4
  have hP := hP1
  have hD := hD1.weaken (fun _ _ _ z => hFc _ z)
  refine W.eq (g2 := F0 m 5 ls [.ref (a 2)]) rfl ?_
  have hPc := fc7_P hP
  have hDc := fc7_D hD
  have hFc := fr_self hDc hS hA
  refine gv_i (va_runV (As := []) (rest := []) ⟨hx, hb, hml, hown, hts⟩ (c_X0_isFull l D k (sh a 2) (u_2 0) H.size _ h) (cwV 0 hts gX3_fewestAdded_X0_isFull rfl rfl rfl (by decide +kernel) ⟨Nat.le_of_ble_eq_true rfl, Nat.le_of_ble_eq_true rfl⟩) (gv_preV hK hnw hPc hDc (ci := 0) rfl 0 rfl) rfl rfl hl.1 rfl (lv_room (Nat.le_of_ble_eq_true rfl)) dX3_fewestAdded_5 ⟨Nat.zero_le _, Nat.zero_le _⟩) hS hFc (fun r_5 u_6 H locs h hP1 hD1 hk1 hS => ?_)
  obtain ⟨hP, hD⟩ := fc7_J hP hD hk1 hFc hP1 hD1
  obtain ⟨S_7, e_8⟩ : ∃ z : Nat → St, z = (va_up u_2 0 u_6) := ⟨_, rfl⟩
  have h := h S_7 e_8
  have hP : va_P D vwCl (wHo k a S_7 ++ wFl k b u_3) H := by rw [e_8]; exact hP
  have hD : va_D A (wHo k a S_7 ++ wFl k b u_3) := by rw [e_8]; exact hD
  refine lv_if_eq (tgt := 13) hx hb dX3_fewestAdded_8 (by decide) (fun c_9 => ?_) (fun c_9 => ?_)
  · have h := h.1 c_9
    refine lv_iconst (v := (1 : Int32)) hx hb dX3_fewestAdded_13 (by decide) ?_
    refine lv_istore_n (lv' := [(2, .int (1 : Int32)), (0, .ref (a 0)), (1, .ref (b 0))]) hx hb dX3_fewestAdded_14 rfl hl (by decide) rfl (fun ls hl => ?_)
    obtain ⟨n_16, h⟩ := h
    exact L_15 n_16 S_7 u_3 (1 : Int32) H locs ls hP hD hS (lv_sub hl [1, 2, 0] rfl) h
  · have h := h.2 c_9
    refine lv_iconst (v := (0 : Int32)) hx hb dX3_fewestAdded_11 (by decide) ?_
    exact W.iret (v := (0 : Int32)) hx hb hr (fun t ht hW => ⟨⟨(0 : Int32), (S_7, u_3), rfl, h, by rw [ht]; exact hP, va_K.moved hW.alike hK, hD⟩, hS.F ht⟩) hS.2.2 dX3_fewestAdded_12
