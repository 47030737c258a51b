/-! X7_best -/
def wp_X7_best_64 (K20 : St → Int32 → Int32 → Int32 → Int32 → Prop) (K7 : St → Int32 → Int32 → Int32 → Prop) (Q : Int32 → St → Prop) (S0 : St) (x3 : Int32) (x4 : Int32) (x5 : Int32) : Prop := K20 S0 (((10 : Int32) * x3) + x4) x5 x3 (x4 + 1)
def wp_X7_best_20 (K7 : St → Int32 → Int32 → Int32 → Prop) (Q : Int32 → St → Prop) : Nat → St → Int32 → Int32 → Int32 → Int32 → Prop
  | 0, _, _, _, _, _ => False
  | n + 1, S0, x1, x2, x3, x4 => (((S0.1 5) ≤ x4) → (K7 S0 x1 x2 (x3 + 1))) ∧ ((¬ (S0.1 5) ≤ x4) → (wp_X7_haveDanced S0 x3 x4 (fun r_3 u_4 => ((r_3 = 0) → (wp_X7_closesWith u_4 x3 x4 (fun r_6 u_7 => ((x1 < 0) → (wp_X7_best_64 (fun s0 v0 v1 v2 v3 => wp_X7_best_20 K7 Q n s0 v0 v1 v2 v3) K7 Q u_7 x3 x4 r_6)) ∧ ((¬ x1 < 0) → (((x2 < r_6) → (wp_X7_best_64 (fun s0 v0 v1 v2 v3 => wp_X7_best_20 K7 Q n s0 v0 v1 v2 v3) K7 Q u_7 x3 x4 r_6)) ∧ ((¬ x2 < r_6) → (wp_X7_best_20 K7 Q n u_7 x1 x2 x3 (x4 + 1)))))))) ∧ ((¬ r_3 = 0) → (wp_X7_best_20 K7 Q n u_4 x1 x2 x3 (x4 + 1))))))
def wp_X7_best_7 (Q : Int32 → St → Prop) : Nat → St → Int32 → Int32 → Int32 → Prop
  | 0, _, _, _, _ => False
  | n + 1, S0, x1, x2, x3 => (((S0.1 5) ≤ x3) → (Q x1 S0)) ∧ ((¬ (S0.1 5) ≤ x3) → (∃ i, wp_X7_best_20 (fun s0 v0 v1 v2 => wp_X7_best_7 Q n s0 v0 v1 v2) Q i S0 x1 x2 x3 (x3 + (1 : Int32))))
def wp_X7_best (S0 : St) (Q : Int32 → St → Prop) : Prop := ∃ i, wp_X7_best_7 Q i S0 (-9 : Int32) (0 : Int32) (0 : Int32)
abbrev rmX7_best : Room := { frames := 5, cells := 0, slots := 0, locals := 119 }
set_option maxRecDepth 100000 in
set_option maxHeartbeats 4000000 in
theorem c_X7_best (l : Launch) (D : va_G) (k : Nat → ClassId) (a : Nat → Nat) (S0 : St) (sz : Nat) (Q : Int32 → St → Prop) (h : wp_X7_best S0 Q) : Met l yX7_best wsX7_best rmX7_best (cPc D k (wMo k a S0) [.ref (a 0)] sz) (va_Qi (fun (r : Int32) (u : St) => Q r u) (cB D k (va_A (wMo k a S0) sz) (fun u : St => wMo k a u)) (va_A (wMo k a S0) sz)) 0 0 (va_A (wMo k a S0) sz) := by
  refine ct_entry (cc := cX7_best) (maxL := 6) (ret := (some .int)) (Rn := RX7) (Qc := fun A => (va_Qi (fun (r : Int32) (u : St) => Q r u) (cB D k A (fun u : St => wMo k a u)) A)) (by decide) rfl rfl (Nat.le_of_ble_eq_true rfl) ?_
  intro p e s m below meth c hx hb hr hlocks hml hts hown hnw hK A hA H locs hP hD hS ls hl
  have hl : lv_has ls 6 [(0, .ref (a 0))] := hl
  have ln_70 := hts (.fieldLink RX7 70 "WithTheSameOneModel" "dancers" "I") (by decide +kernel)
  have in_Mo : ∀ w ∈ wsX70, w ∈ wsX7_best := fun _ h => List.mem_cons_of_mem _ (List.mem_append_right _ h)
  have L_64 : ∀ (K20 : St → Int32 → Int32 → Int32 → Int32 → Prop), (∀ (S0 : St) (x1 : Int32) (x2 : Int32) (x3 : Int32) (x4 : Int32), ∀ (H : Heap) (locs : List Loc) (ls : Array Slot), va_P D vwCl (wMo k a S0) H → va_D A (wMo k a S0) → va_S A s.heap H locs → lv_has ls 6 [(0, .ref (a 0)), (1, .int x1), (2, .int x2), (3, .int x3), (4, .int x4)] → K20 S0 x1 x2 x3 x4 → W p l e rmX7_best s m ([.ref (a 0)] : List Value).toArray below meth c H locs 0 0 (MQ below (va_Qi (fun (r : Int32) (u : St) => Q r u) (cB D k A (fun u : St => wMo k a u)) A) ([.ref (a 0)] : List Value).toArray s 0 0 A) (F0 m 20 ls [])) → ∀ (K7 : St → Int32 → Int32 → Int32 → Prop), (∀ (S0 : St) (x1 : Int32) (x2 : Int32) (x3 : Int32), ∀ (H : Heap) (locs : List Loc) (ls : Array Slot), va_P D vwCl (wMo k a S0) H → va_D A (wMo k a S0) → va_S A s.heap H locs → lv_has ls 6 [(0, .ref (a 0)), (1, .int x1), (2, .int x2), (3, .int x3)] → K7 S0 x1 x2 x3 → W p l e rmX7_best s m ([.ref (a 0)] : List Value).toArray below meth c H locs 0 0 (MQ below (va_Qi (fun (r : Int32) (u : St) => Q r u) (cB D k A (fun u : St => wMo k a u)) A) ([.ref (a 0)] : List Value).toArray s 0 0 A) (F0 m 7 ls [])) → ∀ (S0 : St) (x3 : Int32) (x4 : Int32) (x5 : Int32), ∀ (H : Heap) (locs : List Loc) (ls : Array Slot), va_P D vwCl (wMo k a S0) H → va_D A (wMo k a S0) → va_S A s.heap H locs → lv_has ls 6 [(0, .ref (a 0)), (3, .int x3), (4, .int x4), (5, .int x5)] → wp_X7_best_64 K20 K7 Q S0 x3 x4 x5 → W p l e rmX7_best s m ([.ref (a 0)] : List Value).toArray below meth c H locs 0 0 (MQ below (va_Qi (fun (r : Int32) (u : St) => Q r u) (cB D k A (fun u : St => wMo k a u)) A) ([.ref (a 0)] : List Value).toArray s 0 0 A) (F0 m 64 ls []) := by
    intro K20 hK20 K7 hK7 S0 x3 x4 x5 H locs ls hP hD hS hl h
    unfold wp_X7_best_64 at h
    refine lv_bipush (v := (10 : Int32)) hx hb dX7_best_64 (by decide) ?_
    refine lv_iload_n hx hb dX7_best_66 rfl (lv_at hl 1 rfl) ?_
    refine lv_imul hx hb dX7_best_67 ?_
    refine lv_iload hx hb dX7_best_68 (lv_at hl 2 rfl) ?_
    refine lv_iadd hx hb dX7_best_70 ?_
    refine lv_istore_n (lv' := [(1, .int (((10 : Int32) * x3) + x4)), (0, .ref (a 0)), (3, .int x3), (4, .int x4), (5, .int x5)]) hx hb dX7_best_71 rfl hl (by decide) rfl (fun ls hl => ?_)
    refine lv_iload hx hb dX7_best_72 (lv_at hl 4 rfl) ?_
    refine lv_istore_n (lv' := [(2, .int x5), (1, .int (((10 : Int32) * x3) + x4)), (0, .ref (a 0)), (3, .int x3), (4, .int x4), (5, .int x5)]) hx hb dX7_best_74 rfl hl (by decide) rfl (fun ls hl => ?_)
    refine lv_iinc (v := (x4 + 1)) (lv' := [(4, .int (x4 + 1)), (2, .int x5), (1, .int (((10 : Int32) * x3) + x4)), (0, .ref (a 0)), (3, .int x3), (5, .int x5)]) hx hb dX7_best_75 hl (k := 4) rfl rfl (by decide) rfl (fun ls hl => ?_)
    refine lv_goto (tgt := 20) hx hb dX7_best_78 (by decide) ?_
    exact hK20 S0 (((10 : Int32) * x3) + x4) x5 x3 (x4 + 1) H locs ls hP hD hS (lv_sub hl [3, 2, 1, 4, 0] rfl) h
  have L_20 : ∀ (K7 : St → Int32 → Int32 → Int32 → Prop), (∀ (S0 : St) (x1 : Int32) (x2 : Int32) (x3 : Int32), ∀ (H : Heap) (locs : List Loc) (ls : Array Slot), va_P D vwCl (wMo k a S0) H → va_D A (wMo k a S0) → va_S A s.heap H locs → lv_has ls 6 [(0, .ref (a 0)), (1, .int x1), (2, .int x2), (3, .int x3)] → K7 S0 x1 x2 x3 → W p l e rmX7_best s m ([.ref (a 0)] : List Value).toArray below meth c H locs 0 0 (MQ below (va_Qi (fun (r : Int32) (u : St) => Q r u) (cB D k A (fun u : St => wMo k a u)) A) ([.ref (a 0)] : List Value).toArray s 0 0 A) (F0 m 7 ls [])) → ∀ (n : Nat), ∀ (S0 : St) (x1 : Int32) (x2 : Int32) (x3 : Int32) (x4 : Int32), ∀ (H : Heap) (locs : List Loc) (ls : Array Slot), va_P D vwCl (wMo k a S0) H → va_D A (wMo k a S0) → va_S A s.heap H locs → lv_has ls 6 [(0, .ref (a 0)), (1, .int x1), (2, .int x2), (3, .int x3), (4, .int x4)] → wp_X7_best_20 K7 Q n S0 x1 x2 x3 x4 → W p l e rmX7_best s m ([.ref (a 0)] : List Value).toArray below meth c H locs 0 0 (MQ below (va_Qi (fun (r : Int32) (u : St) => Q r u) (cB D k A (fun u : St => wMo k a u)) A) ([.ref (a 0)] : List Value).toArray s 0 0 A) (F0 m 20 ls []) := by
    intro K7 hK7
    intro n
    induction n with
    | zero => intro S0 x1 x2 x3 x4 H locs ls hP hD hS hl h; exact absurd h (by unfold wp_X7_best_20; exact id)
    | succ n ih =>
      intro S0 x1 x2 x3 x4 H locs ls hP hD hS hl h
      unfold wp_X7_best_20 at h
      refine lv_iload hx hb dX7_best_20 (lv_at hl 4 rfl) ?_
      refine lv_aload_n hx hb dX7_best_22 rfl (lv_at hl 0 rfl) ?_
      refine va_get (D := D) (ci := 7) (v := .int (S0.1 5)) (C := RX7) (T := TX7) (N := 33) hx hb hts in_Mo hown hK hP 0 rfl rfl 5 (by decide) ln_70 (fun _ h9 => h9) rfl dX7_best_23 ?_
      refine lv_icmp_ge (tgt := 81) hx hb dX7_best_26 (by decide) (fun c_2 => ?_) (fun c_2 => ?_)
      · have h := h.1 c_2
        refine lv_iinc (v := (x3 + 1)) (lv' := [(3, .int (x3 + 1)), (0, .ref (a 0)), (1, .int x1), (2, .int x2), (4, .int x4)]) hx hb dX7_best_81 hl (k := 3) rfl rfl (by decide) rfl (fun ls hl => ?_)
        refine lv_goto (tgt := 7) hx hb dX7_best_84 (by decide) ?_
        exact hK7 S0 x1 x2 (x3 + 1) H locs ls hP hD hS (lv_sub hl [1, 2, 3, 0] rfl) h
      · have h := h.2 c_2
        refine lv_aload_n hx hb dX7_best_29 rfl (lv_at hl 0 rfl) ?_
        refine lv_iload_n hx hb dX7_best_30 rfl (lv_at hl 3 rfl) ?_
        refine lv_iload hx hb dX7_best_31 (lv_at hl 4 rfl) ?_
        have hFc := fr_self hD hS hA
        refine gv_i (va_runV (As := [.int x3, .int x4]) (rest := []) ⟨hx, hb, hml, hown, hts⟩ (c_X7_haveDanced l D k a S0 H.size x3 x4 _ h) (cwV 2 hts gX7_best_X7_haveDanced rfl rfl rfl (by decide +kernel) ⟨Nat.le_of_ble_eq_true rfl, Nat.le_of_ble_eq_true rfl⟩) (gv_preV hK hnw hP hD (ci := 7) rfl 0 rfl) rfl rfl hl.1 rfl (lv_room (Nat.le_of_ble_eq_true rfl)) dX7_best_33 ⟨Nat.zero_le _, Nat.zero_le _⟩) hS hFc (fun r_3 u_4 H locs h hP1 hD1 hk1 hS => ?_)
        have hP := hP1
        have hD := hD1.weaken (fun _ _ _ z => hFc _ z)
        refine lv_if_eq (tgt := 42) hx hb dX7_best_36 (by decide) (fun c_5 => ?_) (fun c_5 => ?_)
        · have h := h.1 c_5
          refine lv_aload_n hx hb dX7_best_42 rfl (lv_at hl 0 rfl) ?_
          refine lv_iload_n hx hb dX7_best_43 rfl (lv_at hl 3 rfl) ?_
          refine lv_iload hx hb dX7_best_44 (lv_at hl 4 rfl) ?_
          have hFc := fr_self hD hS hA
          refine gv_i (va_runV (As := [.int x3, .int x4]) (rest := []) ⟨hx, hb, hml, hown, hts⟩ (c_X7_closesWith l D k a u_4 H.size x3 x4 _ h) (cwV 2 hts gX7_best_X7_closesWith rfl rfl rfl (by decide +kernel) ⟨Nat.le_of_ble_eq_true rfl, Nat.le_of_ble_eq_true rfl⟩) (gv_preV hK hnw hP hD (ci := 7) rfl 0 rfl) rfl rfl hl.1 rfl (lv_room (Nat.le_of_ble_eq_true rfl)) dX7_best_46 ⟨Nat.zero_le _, Nat.zero_le _⟩) hS hFc (fun r_6 u_7 H locs h hP1 hD1 hk1 hS => ?_)
          have hP := hP1
          have hD := hD1.weaken (fun _ _ _ z => hFc _ z)
          refine lv_istore (lv' := [(5, .int r_6), (0, .ref (a 0)), (1, .int x1), (2, .int x2), (3, .int x3), (4, .int x4)]) hx hb dX7_best_49 hl (by decide) rfl (fun ls hl => ?_)
          refine lv_iload_n hx hb dX7_best_51 rfl (lv_at hl 2 rfl) ?_
          refine lv_if_lt (tgt := 64) hx hb dX7_best_52 (by decide) (fun c_8 => ?_) (fun c_8 => ?_)
          · have h := h.1 c_8
            exact L_64 (fun s0 v0 v1 v2 v3 => wp_X7_best_20 K7 Q n s0 v0 v1 v2 v3) ih K7 hK7 u_7 x3 x4 r_6 H locs ls hP hD hS (lv_sub hl [1, 4, 5, 0] rfl) h
          · have h := h.2 c_8
            refine lv_iload hx hb dX7_best_55 (lv_at hl 0 rfl) ?_
            refine lv_iload_n hx hb dX7_best_57 rfl (lv_at hl 3 rfl) ?_
            refine lv_icmp_gt (tgt := 64) hx hb dX7_best_58 (by decide) (fun c_9 => ?_) (fun c_9 => ?_)
            · have h := h.1 c_9
              exact L_64 (fun s0 v0 v1 v2 v3 => wp_X7_best_20 K7 Q n s0 v0 v1 v2 v3) ih K7 hK7 u_7 x3 x4 r_6 H locs ls hP hD hS (lv_sub hl [1, 4, 5, 0] rfl) h
            · have h := h.2 c_9
              refine lv_goto (tgt := 75) hx hb dX7_best_61 (by decide) ?_
              refine lv_iinc (v := (x4 + 1)) (lv' := [(4, .int (x4 + 1)), (5, .int r_6), (0, .ref (a 0)), (1, .int x1), (2, .int x2), (3, .int x3)]) hx hb dX7_best_75 hl (k := 5) rfl rfl (by decide) rfl (fun ls hl => ?_)
              refine lv_goto (tgt := 20) hx hb dX7_best_78 (by decide) ?_
              exact ih u_7 x1 x2 x3 (x4 + 1) H locs ls hP hD hS (lv_sub hl [2, 3, 4, 5, 0] rfl) h
        · have h := h.2 c_5
          refine lv_goto (tgt := 75) hx hb dX7_best_39 (by decide) ?_
          refine lv_iinc (v := (x4 + 1)) (lv' := [(4, .int (x4 + 1)), (0, .ref (a 0)), (1, .int x1), (2, .int x2), (3, .int x3)]) hx hb dX7_best_75 hl (k := 4) rfl rfl (by decide) rfl (fun ls hl => ?_)
          refine lv_goto (tgt := 20) hx hb dX7_best_78 (by decide) ?_
          exact ih u_4 x1 x2 x3 (x4 + 1) H locs ls hP hD hS (lv_sub hl [1, 2, 3, 4, 0] rfl) h
  have L_7 : ∀ (n : Nat), ∀ (S0 : St) (x1 : Int32) (x2 : Int32) (x3 : Int32), ∀ (H : Heap) (locs : List Loc) (ls : Array Slot), va_P D vwCl (wMo k a S0) H → va_D A (wMo k a S0) → va_S A s.heap H locs → lv_has ls 6 [(0, .ref (a 0)), (1, .int x1), (2, .int x2), (3, .int x3)] → wp_X7_best_7 Q n S0 x1 x2 x3 → W p l e rmX7_best s m ([.ref (a 0)] : List Value).toArray below meth c H locs 0 0 (MQ below (va_Qi (fun (r : Int32) (u : St) => Q r u) (cB D k A (fun u : St => wMo k a u)) A) ([.ref (a 0)] : List Value).toArray s 0 0 A) (F0 m 7 ls []) := by
    intro n
    induction n with
    | zero => intro S0 x1 x2 x3 H locs ls hP hD hS hl h; exact absurd h (by unfold wp_X7_best_7; exact id)
    | succ n ih =>
      intro S0 x1 x2 x3 H locs ls hP hD hS hl h
      unfold wp_X7_best_7 at h
      refine lv_iload_n hx hb dX7_best_7 rfl (lv_at hl 3 rfl) ?_
      refine lv_aload_n hx hb dX7_best_8 rfl (lv_at hl 0 rfl) ?_
      refine va_get (D := D) (ci := 7) (v := .int (S0.1 5)) (C := RX7) (T := TX7) (N := 33) hx hb hts in_Mo hown hK hP 0 rfl rfl 5 (by decide) ln_70 (fun _ h9 => h9) rfl dX7_best_9 ?_
      refine lv_icmp_ge (tgt := 87) hx hb dX7_best_12 (by decide) (fun c_1 => ?_) (fun c_1 => ?_)
      · have h := h.1 c_1
        refine lv_iload_n hx hb dX7_best_87 rfl (lv_at hl 1 rfl) ?_
        exact W.iret (v := x1) hx hb hr (fun t ht hW => ⟨⟨x1, S0, rfl, h, by rw [ht]; exact hP, va_K.moved hW.alike hK, hD⟩, hS.F ht⟩) hS.2.2 dX7_best_88
      · have h := h.2 c_1
        refine lv_iload_n hx hb dX7_best_15 rfl (lv_at hl 3 rfl) ?_
        refine lv_iconst (v := (1 : Int32)) hx hb dX7_best_16 (by decide) ?_
        refine lv_iadd hx hb dX7_best_17 ?_
        refine lv_istore (lv' := [(4, .int (x3 + (1 : Int32))), (0, .ref (a 0)), (1, .int x1), (2, .int x2), (3, .int x3)]) hx hb dX7_best_18 hl (by decide) rfl (fun ls hl => ?_)
        obtain ⟨n_10, h⟩ := h
        exact L_20 (fun s0 v0 v1 v2 => wp_X7_best_7 Q n s0 v0 v1 v2) ih n_10 S0 x1 x2 x3 (x3 + (1 : Int32)) H locs ls hP hD hS (lv_sub hl [1, 2, 3, 4, 0] rfl) h
  unfold wp_X7_best at h
  refine lv_bipush (v := (-9 : Int32)) hx hb dX7_best_0 (by decide) ?_
  refine lv_istore_n (lv' := [(1, .int (-9 : Int32)), (0, .ref (a 0))]) hx hb dX7_best_2 rfl hl (by decide) rfl (fun ls hl => ?_)
  refine lv_iconst (v := (0 : Int32)) hx hb dX7_best_3 (by decide) ?_
  refine lv_istore_n (lv' := [(2, .int (0 : Int32)), (1, .int (-9 : Int32)), (0, .ref (a 0))]) hx hb dX7_best_4 rfl hl (by decide) rfl (fun ls hl => ?_)
  refine lv_iconst (v := (0 : Int32)) hx hb dX7_best_5 (by decide) ?_
  refine lv_istore_n (lv' := [(3, .int (0 : Int32)), (2, .int (0 : Int32)), (1, .int (-9 : Int32)), (0, .ref (a 0))]) hx hb dX7_best_6 rfl hl (by decide) rfl (fun ls hl => ?_)
  obtain ⟨n_11, h⟩ := h
  exact L_7 n_11 S0 (-9 : Int32) (0 : Int32) (0 : Int32) H locs ls hP hD hS (lv_sub hl [3, 2, 1, 0] rfl) h
/-! X7_findPairs -/
def wp_X7_findPairs_19 (K7 : St → Int32 → Prop) (x1 : Int32) (Q : St → Prop) : Nat → St → Int32 → Int32 → Prop
  | 0, _, _, _ => False
  | n + 1, S0, x2, x3 => (((S0.1 5) ≤ x3) → (K7 S0 (x2 + 1))) ∧ ((¬ (S0.1 5) ≤ x3) → (wp_X7_haveDanced S0 x2 x3 (fun r_5 u_6 => ((r_5 = x1) → (vp_in (u_6.1 25) 28 ∧ (∀ S_8, S_8 = (sA u_6 23 (u_6.1 25).toNatClampNeg x2) → (vp_in (S_8.1 25) 28 ∧ (∀ S_10, S_10 = (sA S_8 24 (S_8.1 25).toNatClampNeg x3) → (∀ S_12, S_12 = (sI S_10 25 ((S_10.1 25) + (1 : Int32))) → (wp_X7_findPairs_19 K7 x1 Q n S_12 x2 (x3 + 1)))))))) ∧ ((¬ r_5 = x1) → (wp_X7_findPairs_19 K7 x1 Q n u_6 x2 (x3 + 1))))))
def wp_X7_findPairs_7 (x1 : Int32) (Q : St → Prop) : Nat → St → Int32 → Prop
  | 0, _, _ => False
  | n + 1, S0, x2 => (((S0.1 5) ≤ x2) → (Q S0)) ∧ ((¬ (S0.1 5) ≤ x2) → (∃ i, wp_X7_findPairs_19 (fun s0 v0 => wp_X7_findPairs_7 x1 Q n s0 v0) x1 Q i S0 x2 (x2 + (1 : Int32))))
def wp_X7_findPairs (S0 : St) (x1 : Int32) (Q : St → Prop) : Prop := ∀ S_1, S_1 = (sI S0 25 (0 : Int32)) → (∃ i, wp_X7_findPairs_7 x1 Q i S_1 (0 : Int32))
abbrev rmX7_findPairs : Room := { frames := 1, cells := 0, slots := 0, locals := 22 }
set_option maxRecDepth 100000 in
set_option maxHeartbeats 4000000 in
theorem c_X7_findPairs (l : Launch) (D : va_G) (k : Nat → ClassId) (a : Nat → Nat) (S0 : St) (sz : Nat) (x1 : Int32) (Q : St → Prop) (h : wp_X7_findPairs S0 x1 Q) : Met l yX7_findPairs wsX7_findPairs rmX7_findPairs (cPc D k (wMo k a S0) [.ref (a 0), .int x1] sz) (va_Qv (fun (u : St) => Q u) (cB D k (va_A (wMo k a S0) sz) (fun u : St => wMo k a u)) (va_A (wMo k a S0) sz)) 0 0 (va_A (wMo k a S0) sz) := by
  refine ct_entry (cc := cX7_findPairs) (maxL := 4) (ret := none) (Rn := RX7) (Qc := fun A => (va_Qv (fun (u : St) => Q u) (cB D k A (fun u : St => wMo k a u)) A)) (by decide) rfl rfl (Nat.le_of_ble_eq_true rfl) ?_
  intro p e s m below meth c hx hb hr hlocks hml hts hown hnw hK A hA H locs hP hD hS ls hl
  have hl : lv_has ls 4 [(0, .ref (a 0)), (1, .int x1)] := hl
  have ln_199 := hts (.fieldLink RX7 199 "WithTheSameOneModel" "pairs" "I") (by decide +kernel)
  have ln_52 := hts (.fieldLink RX7 52 "WithTheSameOneModel" "pairA" "[I") (by decide +kernel)
  have ln_55 := hts (.fieldLink RX7 55 "WithTheSameOneModel" "pairB" "[I") (by decide +kernel)
  have ln_70 := hts (.fieldLink RX7 70 "WithTheSameOneModel" "dancers" "I") (by decide +kernel)
  have in_Mo : ∀ w ∈ wsX70, w ∈ wsX7_findPairs := fun _ h => List.mem_cons_of_mem _ (List.mem_append_right _ h)
  have L_19 : ∀ (K7 : St → Int32 → Prop), (∀ (S0 : St) (x2 : Int32), ∀ (H : Heap) (locs : List Loc) (ls : Array Slot), va_P D vwCl (wMo k a S0) H → va_D A (wMo k a S0) → va_S A s.heap H locs → lv_has ls 4 [(0, .ref (a 0)), (1, .int x1), (2, .int x2)] → K7 S0 x2 → W p l e rmX7_findPairs s m ([.ref (a 0), .int x1] : List Value).toArray below meth c H locs 0 0 (MQ below (va_Qv (fun (u : St) => Q u) (cB D k A (fun u : St => wMo k a u)) A) ([.ref (a 0), .int x1] : List Value).toArray s 0 0 A) (F0 m 7 ls [])) → ∀ (n : Nat), ∀ (S0 : St) (x2 : Int32) (x3 : Int32), ∀ (H : Heap) (locs : List Loc) (ls : Array Slot), va_P D vwCl (wMo k a S0) H → va_D A (wMo k a S0) → va_S A s.heap H locs → lv_has ls 4 [(0, .ref (a 0)), (1, .int x1), (2, .int x2), (3, .int x3)] → wp_X7_findPairs_19 K7 x1 Q n S0 x2 x3 → W p l e rmX7_findPairs s m ([.ref (a 0), .int x1] : List Value).toArray below meth c H locs 0 0 (MQ below (va_Qv (fun (u : St) => Q u) (cB D k A (fun u : St => wMo k a u)) A) ([.ref (a 0), .int x1] : List Value).toArray s 0 0 A) (F0 m 19 ls []) := by
    intro K7 hK7
    intro n
    induction n with
    | zero => intro S0 x2 x3 H locs ls hP hD hS hl h; exact absurd h (by unfold wp_X7_findPairs_19; exact id)
    | succ n ih =>
      intro S0 x2 x3 H locs ls hP hD hS hl h
      unfold wp_X7_findPairs_19 at h
      refine lv_iload_n hx hb dX7_findPairs_19 rfl (lv_at hl 3 rfl) ?_
      refine lv_aload_n hx hb dX7_findPairs_20 rfl (lv_at hl 0 rfl) ?_
      refine va_get (D := D) (ci := 7) (v := .int (S0.1 5)) (C := RX7) (T := TX7) (N := 33) hx hb hts in_Mo hown hK hP 0 rfl rfl 5 (by decide) ln_70 (fun _ h9 => h9) rfl dX7_findPairs_21 ?_
      refine lv_icmp_ge (tgt := 76) hx hb dX7_findPairs_24 (by decide) (fun c_4 => ?_) (fun c_4 => ?_)
      · have h := h.1 c_4
        refine lv_iinc (v := (x2 + 1)) (lv' := [(2, .int (x2 + 1)), (0, .ref (a 0)), (1, .int x1), (3, .int x3)]) hx hb dX7_findPairs_76 hl (k := 2) rfl rfl (by decide) rfl (fun ls hl => ?_)
        refine lv_goto (tgt := 7) hx hb dX7_findPairs_79 (by decide) ?_
        exact hK7 S0 (x2 + 1) H locs ls hP hD hS (lv_sub hl [1, 2, 0] rfl) h
      · have h := h.2 c_4
        refine lv_aload_n hx hb dX7_findPairs_27 rfl (lv_at hl 0 rfl) ?_
        refine lv_iload_n hx hb dX7_findPairs_28 rfl (lv_at hl 2 rfl) ?_
        refine lv_iload_n hx hb dX7_findPairs_29 rfl (lv_at hl 3 rfl) ?_
        have hFc := fr_self hD hS hA
        refine gv_i (va_runV (As := [.int x2, .int x3]) (rest := []) ⟨hx, hb, hml, hown, hts⟩ (c_X7_haveDanced l D k a S0 H.size x2 x3 _ h) (cwV 2 hts gX7_findPairs_X7_haveDanced rfl rfl rfl (by decide +kernel) ⟨Nat.le_of_ble_eq_true rfl, Nat.le_of_ble_eq_true rfl⟩) (gv_preV hK hnw hP hD (ci := 7) rfl 0 rfl) rfl rfl hl.1 rfl (lv_room (Nat.le_of_ble_eq_true rfl)) dX7_findPairs_30 ⟨Nat.zero_le _, Nat.zero_le _⟩) hS hFc (fun r_5 u_6 H locs h hP1 hD1 hk1 hS => ?_)
        have hP := hP1
        have hD := hD1.weaken (fun _ _ _ z => hFc _ z)
        refine lv_iload_n hx hb dX7_findPairs_33 rfl (lv_at hl 1 rfl) ?_
        refine lv_icmp_eq (tgt := 40) hx hb dX7_findPairs_34 (by decide) (fun c_7 => ?_) (fun c_7 => ?_)
        · have h := h.1 c_7
          refine lv_aload_n hx hb dX7_findPairs_40 rfl (lv_at hl 0 rfl) ?_
          refine va_get (D := D) (ci := 7) (v := .ref (a 15)) (C := RX7) (T := TX7) (N := 33) hx hb hts in_Mo hown hK hP 0 rfl rfl 23 (by decide) ln_52 (fun _ h9 => h9) rfl dX7_findPairs_41 ?_
          refine lv_aload_n hx hb dX7_findPairs_44 rfl (lv_at hl 0 rfl) ?_
          refine va_get (D := D) (ci := 7) (v := .int (u_6.1 25)) (C := RX7) (T := TX7) (N := 33) hx hb hts in_Mo hown hK hP 0 rfl rfl 25 (by decide) ln_199 (fun _ h9 => h9) rfl dX7_findPairs_45 ?_
          refine lv_iload_n hx hb dX7_findPairs_48 rfl (lv_at hl 2 rfl) ?_
          refine va_iast hx hb hK hP hD hS 15 0 rfl rfl h.1 dX7_findPairs_49 (fun H locs hP hD hS => ?_)
          have h := h.2
          obtain ⟨S_8, e_9⟩ : ∃ z : St, z = (sA u_6 23 (u_6.1 25).toNatClampNeg x2) := ⟨_, rfl⟩
          have h := h S_8 e_9
          have hP : va_P D vwCl (wMo k a S_8) H := by rw [e_9]; exact hP
          have hD : va_D A (wMo k a S_8) := by rw [e_9]; exact hD
          refine lv_aload_n hx hb dX7_findPairs_50 rfl (lv_at hl 0 rfl) ?_
          refine va_get (D := D) (ci := 7) (v := .ref (a 16)) (C := RX7) (T := TX7) (N := 33) hx hb hts in_Mo hown hK hP 0 rfl rfl 24 (by decide) ln_55 (fun _ h9 => h9) rfl dX7_findPairs_51 ?_
          refine lv_aload_n hx hb dX7_findPairs_54 rfl (lv_at hl 0 rfl) ?_
          refine va_get (D := D) (ci := 7) (v := .int (S_8.1 25)) (C := RX7) (T := TX7) (N := 33) hx hb hts in_Mo hown hK hP 0 rfl rfl 25 (by decide) ln_199 (fun _ h9 => h9) rfl dX7_findPairs_55 ?_
          refine lv_iload_n hx hb dX7_findPairs_58 rfl (lv_at hl 3 rfl) ?_
          refine va_iast hx hb hK hP hD hS 16 0 rfl rfl h.1 dX7_findPairs_59 (fun H locs hP hD hS => ?_)
          have h := h.2
          obtain ⟨S_10, e_11⟩ : ∃ z : St, z = (sA S_8 24 (S_8.1 25).toNatClampNeg x3) := ⟨_, rfl⟩
          have h := h S_10 e_11
          have hP : va_P D vwCl (wMo k a S_10) H := by rw [e_11]; exact hP
          have hD : va_D A (wMo k a S_10) := by rw [e_11]; exact hD
          refine lv_aload_n hx hb dX7_findPairs_60 rfl (lv_at hl 0 rfl) ?_
          refine lv_dup hx hb dX7_findPairs_61 rfl ?_
          refine va_get (D := D) (ci := 7) (v := .int (S_10.1 25)) (C := RX7) (T := TX7) (N := 33) hx hb hts in_Mo hown hK hP 0 rfl rfl 25 (by decide) ln_199 (fun _ h9 => h9) rfl dX7_findPairs_62 ?_
          refine lv_iconst (v := (1 : Int32)) hx hb dX7_findPairs_65 (by decide) ?_
          refine lv_iadd hx hb dX7_findPairs_66 ?_
          refine va_put (D := D) (ci := 7) (v := .int ((S_10.1 25) + (1 : Int32))) (ty := .int) (C := RX7) (T := TX7) (N := 33) hx hb hts in_Mo tyX7 tyX7_ok nmX7 hown hK hP hD hS 0 rfl rfl 25 (by decide) ln_199 (fun _ h9 => h9) rfl (by decide +kernel) rfl rfl (Nat.le_of_ble_eq_true rfl) dX7_findPairs_67 (fun H locs hP hD hS => ?_)
          obtain ⟨S_12, e_13⟩ : ∃ z : St, z = (sI S_10 25 ((S_10.1 25) + (1 : Int32))) := ⟨_, rfl⟩
          have h := h S_12 e_13
          have hP : va_P D vwCl (wMo k a S_12) H := by rw [e_13]; exact hP
          have hD : va_D A (wMo k a S_12) := by rw [e_13]; exact hD
          refine lv_iinc (v := (x3 + 1)) (lv' := [(3, .int (x3 + 1)), (0, .ref (a 0)), (1, .int x1), (2, .int x2)]) hx hb dX7_findPairs_70 hl (k := 3) rfl rfl (by decide) rfl (fun ls hl => ?_)
          refine lv_goto (tgt := 19) hx hb dX7_findPairs_73 (by decide) ?_
          exact ih S_12 x2 (x3 + 1) H locs ls hP hD hS (lv_sub hl [1, 2, 3, 0] rfl) h
        · have h := h.2 c_7
          refine lv_goto (tgt := 70) hx hb dX7_findPairs_37 (by decide) ?_
          refine lv_iinc (v := (x3 + 1)) (lv' := [(3, .int (x3 + 1)), (0, .ref (a 0)), (1, .int x1), (2, .int x2)]) hx hb dX7_findPairs_70 hl (k := 3) rfl rfl (by decide) rfl (fun ls hl => ?_)
          refine lv_goto (tgt := 19) hx hb dX7_findPairs_73 (by decide) ?_
          exact ih u_6 x2 (x3 + 1) H locs ls hP hD hS (lv_sub hl [1, 2, 3, 0] rfl) h
  have L_7 : ∀ (n : Nat), ∀ (S0 : St) (x2 : Int32), ∀ (H : Heap) (locs : List Loc) (ls : Array Slot), va_P D vwCl (wMo k a S0) H → va_D A (wMo k a S0) → va_S A s.heap H locs → lv_has ls 4 [(0, .ref (a 0)), (1, .int x1), (2, .int x2)] → wp_X7_findPairs_7 x1 Q n S0 x2 → W p l e rmX7_findPairs s m ([.ref (a 0), .int x1] : List Value).toArray below meth c H locs 0 0 (MQ below (va_Qv (fun (u : St) => Q u) (cB D k A (fun u : St => wMo k a u)) A) ([.ref (a 0), .int x1] : List Value).toArray s 0 0 A) (F0 m 7 ls []) := by
    intro n
    induction n with
    | zero => intro S0 x2 H locs ls hP hD hS hl h; exact absurd h (by unfold wp_X7_findPairs_7; exact id)
    | succ n ih =>
      intro S0 x2 H locs ls hP hD hS hl h
      unfold wp_X7_findPairs_7 at h
      refine lv_iload_n hx hb dX7_findPairs_7 rfl (lv_at hl 2 rfl) ?_
      refine lv_aload_n hx hb dX7_findPairs_8 rfl (lv_at hl 0 rfl) ?_
      refine va_get (D := D) (ci := 7) (v := .int (S0.1 5)) (C := RX7) (T := TX7) (N := 33) hx hb hts in_Mo hown hK hP 0 rfl rfl 5 (by decide) ln_70 (fun _ h9 => h9) rfl dX7_findPairs_9 ?_
      refine lv_icmp_ge (tgt := 82) hx hb dX7_findPairs_12 (by decide) (fun c_3 => ?_) (fun c_3 => ?_)
      · have h := h.1 c_3
        exact W.vret hx hb hr (fun t ht hW => ⟨⟨S0, rfl, h, by rw [ht]; exact hP, va_K.moved hW.alike hK, hD⟩, hS.F ht⟩) hS.2.2 dX7_findPairs_82
      · have h := h.2 c_3
        refine lv_iload_n hx hb dX7_findPairs_15 rfl (lv_at hl 2 rfl) ?_
        refine lv_iconst (v := (1 : Int32)) hx hb dX7_findPairs_16 (by decide) ?_
        refine lv_iadd hx hb dX7_findPairs_17 ?_
        refine lv_istore_n (lv' := [(3, .int (x2 + (1 : Int32))), (0, .ref (a 0)), (1, .int x1), (2, .int x2)]) hx hb dX7_findPairs_18 rfl hl (by decide) rfl (fun ls hl => ?_)
        obtain ⟨n_14, h⟩ := h
        exact L_19 (fun s0 v0 => wp_X7_findPairs_7 x1 Q n s0 v0) ih n_14 S0 x2 (x2 + (1 : Int32)) H locs ls hP hD hS (lv_sub hl [1, 2, 3, 0] rfl) h
  unfold wp_X7_findPairs at h
  refine lv_aload_n hx hb dX7_findPairs_0 rfl (lv_at hl 0 rfl) ?_
  refine lv_iconst (v := (0 : Int32)) hx hb dX7_findPairs_1 (by decide) ?_
  refine va_put (D := D) (ci := 7) (v := .int (0 : Int32)) (ty := .int) (C := RX7) (T := TX7) (N := 33) hx hb hts in_Mo tyX7 tyX7_ok nmX7 hown hK hP hD hS 0 rfl rfl 25 (by decide) ln_199 (fun _ h9 => h9) rfl (by decide +kernel) rfl rfl (Nat.le_of_ble_eq_true rfl) dX7_findPairs_2 (fun H locs hP hD hS => ?_)
  obtain ⟨S_1, e_2⟩ : ∃ z : St, z = (sI S0 25 (0 : Int32)) := ⟨_, rfl⟩
  have h := h S_1 e_2
  have hP : va_P D vwCl (wMo k a S_1) H := by rw [e_2]; exact hP
  have hD : va_D A (wMo k a S_1) := by rw [e_2]; exact hD
  refine lv_iconst (v := (0 : Int32)) hx hb dX7_findPairs_5 (by decide) ?_
  refine lv_istore_n (lv' := [(2, .int (0 : Int32)), (0, .ref (a 0)), (1, .int x1)]) hx hb dX7_findPairs_6 rfl hl (by decide) rfl (fun ls hl => ?_)
  obtain ⟨n_15, h⟩ := h
  exact L_7 n_15 S_1 (0 : Int32) H locs ls hP hD hS (lv_sub hl [1, 2, 0] rfl) h
/-! X7_doAll -/
def wp_X7_doAll (S0 : St) (Q : Int32 → St → Prop) : Prop := wp_X7_closes S0 (S0.1 6) (-9 : Int32) (fun r_1 u_2 => ((¬ r_1 = (((u_2.1 5) * ((u_2.1 5) - (1 : Int32))) / (2 : Int32))) → (Q (0 : Int32) u_2)) ∧ ((r_1 = (((u_2.1 5) * ((u_2.1 5) - (1 : Int32))) / (2 : Int32))) → (Q (1 : Int32) u_2)))
abbrev rmX7_doAll : Room := { frames := 4, cells := 0, slots := 0, locals := 96 }
set_option maxRecDepth 100000 in
set_option maxHeartbeats 4000000 in
theorem c_X7_doAll (l : Launch) (D : va_G) (k : Nat → ClassId) (a : Nat → Nat) (S0 : St) (sz : Nat) (Q : Int32 → St → Prop) (h : wp_X7_doAll S0 Q) : Met l yX7_doAll wsX7_doAll rmX7_doAll (cPc D k (wMo k a S0) [.ref (a 0)] sz) (va_Qi (fun (r : Int32) (u : St) => Q r u) (cB D k (va_A (wMo k a S0) sz) (fun u : St => wMo k a u)) (va_A (wMo k a S0) sz)) 0 0 (va_A (wMo k a S0) sz) := by
  refine ct_entry (cc := cX7_doAll) (maxL := 1) (ret := (some .boolean)) (Rn := RX7) (Qc := fun A => (va_Qi (fun (r : Int32) (u : St) => Q r u) (cB D k A (fun u : St => wMo k a u)) A)) (by decide) rfl rfl (Nat.le_of_ble_eq_true rfl) ?_
  intro p e s m below meth c hx hb hr hlocks hml hts hown hnw hK A hA H locs hP hD hS ls hl
  have hl : lv_has ls 1 [(0, .ref (a 0))] := hl
  have ln_109 := hts (.fieldLink RX7 109 "WithTheSameOneModel" "law" "I") (by decide +kernel)
  have ln_70 := hts (.fieldLink RX7 70 "WithTheSameOneModel" "dancers" "I") (by decide +kernel)
  have in_Mo : ∀ w ∈ wsX70, w ∈ wsX7_doAll := fun _ h => List.mem_cons_of_mem _ (List.mem_append_right _ h)
  unfold wp_X7_doAll at h
  refine lv_aload_n hx hb dX7_doAll_0 rfl (lv_at hl 0 rfl) ?_
  refine lv_aload_n hx hb dX7_doAll_1 rfl (lv_at hl 0 rfl) ?_
  refine va_get (D := D) (ci := 7) (v := .int (S0.1 6)) (C := RX7) (T := TX7) (N := 33) hx hb hts in_Mo hown hK hP 0 rfl rfl 6 (by decide) ln_109 (fun _ h9 => h9) rfl dX7_doAll_2 ?_
  refine lv_bipush (v := (-9 : Int32)) hx hb dX7_doAll_5 (by decide) ?_
  have hFc := fr_self hD hS hA
  refine gv_i (va_runV (As := [.int (S0.1 6), .int (-9 : Int32)]) (rest := []) ⟨hx, hb, hml, hown, hts⟩ (c_X7_closes l D k a S0 H.size (S0.1 6) (-9 : Int32) _ h) (cwV 2 hts gX7_doAll_X7_closes rfl rfl rfl (by decide +kernel) ⟨Nat.le_of_ble_eq_true rfl, Nat.le_of_ble_eq_true rfl⟩) (gv_preV hK hnw hP hD (ci := 7) rfl 0 rfl) rfl rfl hl.1 rfl (lv_room (Nat.le_of_ble_eq_true rfl)) dX7_doAll_7 ⟨Nat.zero_le _, Nat.zero_le _⟩) hS hFc (fun r_1 u_2 H locs h hP1 hD1 hk1 hS => ?_)
  have hP := hP1
  have hD := hD1.weaken (fun _ _ _ z => hFc _ z)
  refine lv_aload_n hx hb dX7_doAll_10 rfl (lv_at hl 0 rfl) ?_
  refine va_get (D := D) (ci := 7) (v := .int (u_2.1 5)) (C := RX7) (T := TX7) (N := 33) hx hb hts in_Mo hown hK hP 0 rfl rfl 5 (by decide) ln_70 (fun _ h9 => h9) rfl dX7_doAll_11 ?_
  refine lv_aload_n hx hb dX7_doAll_14 rfl (lv_at hl 0 rfl) ?_
  refine va_get (D := D) (ci := 7) (v := .int (u_2.1 5)) (C := RX7) (T := TX7) (N := 33) hx hb hts in_Mo hown hK hP 0 rfl rfl 5 (by decide) ln_70 (fun _ h9 => h9) rfl dX7_doAll_15 ?_
  refine lv_iconst (v := (1 : Int32)) hx hb dX7_doAll_18 (by decide) ?_
  refine lv_isub hx hb dX7_doAll_19 ?_
  refine lv_imul hx hb dX7_doAll_20 ?_
  refine lv_iconst (v := (2 : Int32)) hx hb dX7_doAll_21 (by decide) ?_
  refine lv_idiv hx hb dX7_doAll_22 (by decide) ?_
  refine lv_icmp_ne (tgt := 30) hx hb dX7_doAll_23 (by decide) (fun c_3 => ?_) (fun c_3 => ?_)
  · have h := h.1 c_3
    refine lv_iconst (v := (0 : Int32)) hx hb dX7_doAll_30 (by decide) ?_
    exact W.zret (v := (0 : Int32)) hx hb hr rfl (fun t ht hW => ⟨⟨(0 : Int32), u_2, rfl, h, by rw [ht]; exact hP, va_K.moved hW.alike hK, hD⟩, hS.F ht⟩) hS.2.2 dX7_doAll_31
  · have h := h.2 c_3
    refine lv_iconst (v := (1 : Int32)) hx hb dX7_doAll_26 (by decide) ?_
    refine lv_goto (tgt := 31) hx hb dX7_doAll_27 (by decide) ?_
    exact W.zret (v := (1 : Int32)) hx hb hr rfl (fun t ht hW => ⟨⟨(1 : Int32), u_2, rfl, h, by rw [ht]; exact hP, va_K.moved hW.alike hK, hD⟩, hS.F ht⟩) hS.2.2 dX7_doAll_31
/-! X7_doAllWithOneMore -/
def wp_X7_doAllWithOneMore_2 (x1 : Int32) (Q : Int32 → St → Prop) : Nat → St → Int32 → Prop
  | 0, _, _ => False
  | n + 1, S0, x2 => (((S0.1 25) ≤ x2) → (Q (0 : Int32) S0)) ∧ ((¬ (S0.1 25) ≤ x2) → (vp_in x2 28 ∧ (vp_in x2 28 ∧ (wp_X7_joins S0 (S0.2 23 x2.toNatClampNeg) (S0.2 24 x2.toNatClampNeg) (fun u_3 => wp_X7_doAll u_3 (fun r_4 u_5 => vp_in x2 28 ∧ (vp_in x2 28 ∧ (wp_X7_parts u_5 (u_5.2 23 x2.toNatClampNeg) (u_5.2 24 x2.toNatClampNeg) (fun u_7 => ((r_4 = 0) → (wp_X7_doAllWithOneMore_2 x1 Q n u_7 (x2 + 1))) ∧ ((¬ r_4 = 0) → (Q (1 : Int32) u_7)))))))))))
def wp_X7_doAllWithOneMore (S0 : St) (x1 : Int32) (Q : Int32 → St → Prop) : Prop := ∃ i, wp_X7_doAllWithOneMore_2 x1 Q i S0 x1
abbrev rmX7_doAllWithOneMore : Room := { frames := 5, cells := 0, slots := 0, locals := 116 }
set_option maxRecDepth 100000 in
set_option maxHeartbeats 4000000 in
theorem c_X7_doAllWithOneMore (l : Launch) (D : va_G) (k : Nat → ClassId) (a : Nat → Nat) (S0 : St) (sz : Nat) (x1 : Int32) (Q : Int32 → St → Prop) (h : wp_X7_doAllWithOneMore S0 x1 Q) : Met l yX7_doAllWithOneMore wsX7_doAllWithOneMore rmX7_doAllWithOneMore (cPc D k (wMo k a S0) [.ref (a 0), .int x1] sz) (va_Qi (fun (r : Int32) (u : St) => Q r u) (cB D k (va_A (wMo k a S0) sz) (fun u : St => wMo k a u)) (va_A (wMo k a S0) sz)) 0 0 (va_A (wMo k a S0) sz) := by
  refine ct_entry (cc := cX7_doAllWithOneMore) (maxL := 4) (ret := (some .boolean)) (Rn := RX7) (Qc := fun A => (va_Qi (fun (r : Int32) (u : St) => Q r u) (cB D k A (fun u : St => wMo k a u)) A)) (by decide) rfl rfl (Nat.le_of_ble_eq_true rfl) ?_
  intro p e s m below meth c hx hb hr hlocks hml hts hown hnw hK A hA H locs hP hD hS ls hl
  have hl : lv_has ls 4 [(0, .ref (a 0)), (1, .int x1)] := hl
  have ln_199 := hts (.fieldLink RX7 199 "WithTheSameOneModel" "pairs" "I") (by decide +kernel)
  have ln_52 := hts (.fieldLink RX7 52 "WithTheSameOneModel" "pairA" "[I") (by decide +kernel)
  have ln_55 := hts (.fieldLink RX7 55 "WithTheSameOneModel" "pairB" "[I") (by decide +kernel)
  have in_Mo : ∀ w ∈ wsX70, w ∈ wsX7_doAllWithOneMore := fun _ h => List.mem_cons_of_mem _ (List.mem_append_right _ h)
  have L_2 : ∀ (n : Nat), ∀ (S0 : St) (x2 : Int32), ∀ (H : Heap) (locs : List Loc) (ls : Array Slot), va_P D vwCl (wMo k a S0) H → va_D A (wMo k a S0) → va_S A s.heap H locs → lv_has ls 4 [(0, .ref (a 0)), (2, .int x2)] → wp_X7_doAllWithOneMore_2 x1 Q n S0 x2 → W p l e rmX7_doAllWithOneMore s m ([.ref (a 0), .int x1] : List Value).toArray below meth c H locs 0 0 (MQ below (va_Qi (fun (r : Int32) (u : St) => Q r u) (cB D k A (fun u : St => wMo k a u)) A) ([.ref (a 0), .int x1] : List Value).toArray s 0 0 A) (F0 m 2 ls []) := by
    intro n
    induction n with
    | zero => intro S0 x2 H locs ls hP hD hS hl h; exact absurd h (by unfold wp_X7_doAllWithOneMore_2; exact id)
    | succ n ih =>
      intro S0 x2 H locs ls hP hD hS hl h
      unfold wp_X7_doAllWithOneMore_2 at h
      refine lv_iload_n hx hb dX7_doAllWithOneMore_2 rfl (lv_at hl 1 rfl) ?_
      refine lv_aload_n hx hb dX7_doAllWithOneMore_3 rfl (lv_at hl 0 rfl) ?_
      refine va_get (D := D) (ci := 7) (v := .int (S0.1 25)) (C := RX7) (T := TX7) (N := 33) hx hb hts in_Mo hown hK hP 0 rfl rfl 25 (by decide) ln_199 (fun _ h9 => h9) rfl dX7_doAllWithOneMore_4 ?_
      refine lv_icmp_ge (tgt := 59) hx hb dX7_doAllWithOneMore_7 (by decide) (fun c_1 => ?_) (fun c_1 => ?_)
      · have h := h.1 c_1
        refine lv_iconst (v := (0 : Int32)) hx hb dX7_doAllWithOneMore_59 (by decide) ?_
        exact W.zret (v := (0 : Int32)) hx hb hr rfl (fun t ht hW => ⟨⟨(0 : Int32), S0, rfl, h, by rw [ht]; exact hP, va_K.moved hW.alike hK, hD⟩, hS.F ht⟩) hS.2.2 dX7_doAllWithOneMore_60
      · have h := h.2 c_1
        refine lv_aload_n hx hb dX7_doAllWithOneMore_10 rfl (lv_at hl 0 rfl) ?_
        refine lv_aload_n hx hb dX7_doAllWithOneMore_11 rfl (lv_at hl 0 rfl) ?_
        refine va_get (D := D) (ci := 7) (v := .ref (a 15)) (C := RX7) (T := TX7) (N := 33) hx hb hts in_Mo hown hK hP 0 rfl rfl 23 (by decide) ln_52 (fun _ h9 => h9) rfl dX7_doAllWithOneMore_12 ?_
        refine lv_iload_n hx hb dX7_doAllWithOneMore_15 rfl (lv_at hl 1 rfl) ?_
        refine va_iald hx hb hK hP 15 0 rfl rfl h.1 dX7_doAllWithOneMore_16 ?_
        have h := h.2
        refine lv_aload_n hx hb dX7_doAllWithOneMore_17 rfl (lv_at hl 0 rfl) ?_
        refine va_get (D := D) (ci := 7) (v := .ref (a 16)) (C := RX7) (T := TX7) (N := 33) hx hb hts in_Mo hown hK hP 0 rfl rfl 24 (by decide) ln_55 (fun _ h9 => h9) rfl dX7_doAllWithOneMore_18 ?_
        refine lv_iload_n hx hb dX7_doAllWithOneMore_21 rfl (lv_at hl 1 rfl) ?_
        refine va_iald hx hb hK hP 16 0 rfl rfl h.1 dX7_doAllWithOneMore_22 ?_
        have h := h.2
        have hFc := fr_self hD hS hA
        refine gv_v (va_runV (As := [.int (S0.2 23 x2.toNatClampNeg), .int (S0.2 24 x2.toNatClampNeg)]) (rest := []) ⟨hx, hb, hml, hown, hts⟩ (c_X7_joins l D k a S0 H.size (S0.2 23 x2.toNatClampNeg) (S0.2 24 x2.toNatClampNeg) _ h) (cwV 2 hts gX7_doAllWithOneMore_X7_joins rfl rfl rfl (by decide +kernel) ⟨Nat.le_of_ble_eq_true rfl, Nat.le_of_ble_eq_true rfl⟩) (gv_preV hK hnw hP hD (ci := 7) rfl 0 rfl) rfl rfl hl.1 rfl (lv_room (Nat.le_of_ble_eq_true rfl)) dX7_doAllWithOneMore_23 ⟨Nat.zero_le _, Nat.zero_le _⟩) hS hFc (fun u_3 H locs h hP1 hD1 hk1 hS => ?_)
        have hP := hP1
        have hD := hD1.weaken (fun _ _ _ z => hFc _ z)
        refine lv_aload_n hx hb dX7_doAllWithOneMore_26 rfl (lv_at hl 0 rfl) ?_
        have hFc := fr_self hD hS hA
        refine gv_i (va_runV (As := []) (rest := []) ⟨hx, hb, hml, hown, hts⟩ (c_X7_doAll l D k a u_3 H.size _ h) (cwV 0 hts gX7_doAllWithOneMore_X7_doAll rfl rfl rfl (by decide +kernel) ⟨Nat.le_of_ble_eq_true rfl, Nat.le_of_ble_eq_true rfl⟩) (gv_preV hK hnw hP hD (ci := 7) rfl 0 rfl) rfl rfl hl.1 rfl (lv_room (Nat.le_of_ble_eq_true rfl)) dX7_doAllWithOneMore_27 ⟨Nat.zero_le _, Nat.zero_le _⟩) hS hFc (fun r_4 u_5 H locs h hP1 hD1 hk1 hS => ?_)
        have hP := hP1
        have hD := hD1.weaken (fun _ _ _ z => hFc _ z)
        refine lv_istore_n (lv' := [(3, .int r_4), (0, .ref (a 0)), (2, .int x2)]) hx hb dX7_doAllWithOneMore_30 rfl hl (by decide) rfl (fun ls hl => ?_)
        refine lv_aload_n hx hb dX7_doAllWithOneMore_31 rfl (lv_at hl 1 rfl) ?_
        refine lv_aload_n hx hb dX7_doAllWithOneMore_32 rfl (lv_at hl 1 rfl) ?_
        refine va_get (D := D) (ci := 7) (v := .ref (a 15)) (C := RX7) (T := TX7) (N := 33) hx hb hts in_Mo hown hK hP 0 rfl rfl 23 (by decide) ln_52 (fun _ h9 => h9) rfl dX7_doAllWithOneMore_33 ?_
        refine lv_iload_n hx hb dX7_doAllWithOneMore_36 rfl (lv_at hl 2 rfl) ?_
        refine va_iald hx hb hK hP 15 0 rfl rfl h.1 dX7_doAllWithOneMore_37 ?_
        have h := h.2
        refine lv_aload_n hx hb dX7_doAllWithOneMore_38 rfl (lv_at hl 1 rfl) ?_
        refine va_get (D := D) (ci := 7) (v := .ref (a 16)) (C := RX7) (T := TX7) (N := 33) hx hb hts in_Mo hown hK hP 0 rfl rfl 24 (by decide) ln_55 (fun _ h9 => h9) rfl dX7_doAllWithOneMore_39 ?_
        refine lv_iload_n hx hb dX7_doAllWithOneMore_42 rfl (lv_at hl 2 rfl) ?_
        refine va_iald hx hb hK hP 16 0 rfl rfl h.1 dX7_doAllWithOneMore_43 ?_
        have h := h.2
        have hFc := fr_self hD hS hA
        refine gv_v (va_runV (As := [.int (u_5.2 23 x2.toNatClampNeg), .int (u_5.2 24 x2.toNatClampNeg)]) (rest := []) ⟨hx, hb, hml, hown, hts⟩ (c_X7_parts l D k a u_5 H.size (u_5.2 23 x2.toNatClampNeg) (u_5.2 24 x2.toNatClampNeg) _ h) (cwV 2 hts gX7_doAllWithOneMore_X7_parts rfl rfl rfl (by decide +kernel) ⟨Nat.le_of_ble_eq_true rfl, Nat.le_of_ble_eq_true rfl⟩) (gv_preV hK hnw hP hD (ci := 7) rfl 0 rfl) rfl rfl hl.1 rfl (lv_room (Nat.le_of_ble_eq_true rfl)) dX7_doAllWithOneMore_44 ⟨Nat.zero_le _, Nat.zero_le _⟩) hS hFc (fun u_7 H locs h hP1 hD1 hk1 hS => ?_)
        have hP := hP1
        have hD := hD1.weaken (fun _ _ _ z => hFc _ z)
        refine lv_iload_n hx hb dX7_doAllWithOneMore_47 rfl (lv_at hl 0 rfl) ?_
        refine lv_if_eq (tgt := 53) hx hb dX7_doAllWithOneMore_48 (by decide) (fun c_8 => ?_) (fun c_8 => ?_)
        · have h := h.1 c_8
          refine lv_iinc (v := (x2 + 1)) (lv' := [(2, .int (x2 + 1)), (3, .int r_4), (0, .ref (a 0))]) hx hb dX7_doAllWithOneMore_53 hl (k := 2) rfl rfl (by decide) rfl (fun ls hl => ?_)
          refine lv_goto (tgt := 2) hx hb dX7_doAllWithOneMore_56 (by decide) ?_
          exact ih u_7 (x2 + 1) H locs ls hP hD hS (lv_sub hl [2, 0] rfl) h
        · have h := h.2 c_8
          refine lv_iconst (v := (1 : Int32)) hx hb dX7_doAllWithOneMore_51 (by decide) ?_
          exact W.zret (v := (1 : Int32)) hx hb hr rfl (fun t ht hW => ⟨⟨(1 : Int32), u_7, rfl, h, by rw [ht]; exact hP, va_K.moved hW.alike hK, hD⟩, hS.F ht⟩) hS.2.2 dX7_doAllWithOneMore_52
  unfold wp_X7_doAllWithOneMore at h
  refine lv_iload_n hx hb dX7_doAllWithOneMore_0 rfl (lv_at hl 1 rfl) ?_
  refine lv_istore_n (lv' := [(2, .int x1), (0, .ref (a 0)), (1, .int x1)]) hx hb dX7_doAllWithOneMore_1 rfl hl (by decide) rfl (fun ls hl => ?_)
  obtain ⟨n_9, h⟩ := h
  exact L_2 n_9 S0 x1 H locs ls hP hD hS (lv_sub hl [1, 0] rfl) h
/-! X7_doAllWith -/
def wp_X7_doAllWith_54 (K11 : St → Int32 → Prop) (x1 : Int32) (x2 : Int32) (Q : Int32 → St → Prop) (S0 : St) (x3 : Int32) (y0 : Int32) : Prop := vp_in x3 28 ∧ (vp_in x3 28 ∧ (wp_X7_parts S0 (S0.2 23 x3.toNatClampNeg) (S0.2 24 x3.toNatClampNeg) (fun u_9 => ((y0 = 0) → (K11 u_9 (x3 + 1))) ∧ ((¬ y0 = 0) → (Q (1 : Int32) u_9)))))
def wp_X7_doAllWith_11 (x1 : Int32) (x2 : Int32) (Q : Int32 → St → Prop) : Nat → St → Int32 → Prop
  | 0, _, _ => False
  | n + 1, S0, x3 => (((S0.1 25) ≤ x3) → (Q (0 : Int32) S0)) ∧ ((¬ (S0.1 25) ≤ x3) → (vp_in x3 28 ∧ (vp_in x3 28 ∧ (wp_X7_joins S0 (S0.2 23 x3.toNatClampNeg) (S0.2 24 x3.toNatClampNeg) (fun u_4 => ((¬ x1 = (1 : Int32)) → (wp_X7_doAllWithOneMore u_4 (x3 + (1 : Int32)) (fun r_6 u_7 => wp_X7_doAllWith_54 (fun s0 v0 => wp_X7_doAllWith_11 x1 x2 Q n s0 v0) x1 x2 Q u_7 x3 r_6))) ∧ ((x1 = (1 : Int32)) → (wp_X7_doAll u_4 (fun r_11 u_12 => wp_X7_doAllWith_54 (fun s0 v0 => wp_X7_doAllWith_11 x1 x2 Q n s0 v0) x1 x2 Q u_12 x3 r_11))))))))
def wp_X7_doAllWith (S0 : St) (x1 : Int32) (x2 : Int32) (Q : Int32 → St → Prop) : Prop := ((¬ x1 = 0) → (∃ i, wp_X7_doAllWith_11 x1 x2 Q i S0 x2)) ∧ ((x1 = 0) → (wp_X7_doAll S0 (fun r_14 u_15 => bz r_14 ∧ Q r_14 u_15)))
abbrev rmX7_doAllWith : Room := { frames := 6, cells := 0, slots := 0, locals := 139 }
set_option maxRecDepth 100000 in
set_option maxHeartbeats 4000000 in
theorem c_X7_doAllWith (l : Launch) (D : va_G) (k : Nat → ClassId) (a : Nat → Nat) (S0 : St) (sz : Nat) (x1 : Int32) (x2 : Int32) (Q : Int32 → St → Prop) (h : wp_X7_doAllWith S0 x1 x2 Q) : Met l yX7_doAllWith wsX7_doAllWith rmX7_doAllWith (cPc D k (wMo k a S0) [.ref (a 0), .int x1, .int x2] sz) (va_Qi (fun (r : Int32) (u : St) => Q r u) (cB D k (va_A (wMo k a S0) sz) (fun u : St => wMo k a u)) (va_A (wMo k a S0) sz)) 0 0 (va_A (wMo k a S0) sz) := by
  refine ct_entry (cc := cX7_doAllWith) (maxL := 5) (ret := (some .boolean)) (Rn := RX7) (Qc := fun A => (va_Qi (fun (r : Int32) (u : St) => Q r u) (cB D k A (fun u : St => wMo k a u)) A)) (by decide) rfl rfl (Nat.le_of_ble_eq_true rfl) ?_
  intro p e s m below meth c hx hb hr hlocks hml hts hown hnw hK A hA H locs hP hD hS ls hl
  have hl : lv_has ls 5 [(0, .ref (a 0)), (1, .int x1), (2, .int x2)] := hl
  have ln_199 := hts (.fieldLink RX7 199 "WithTheSameOneModel" "pairs" "I") (by decide +kernel)
  have ln_52 := hts (.fieldLink RX7 52 "WithTheSameOneModel" "pairA" "[I") (by decide +kernel)
  have ln_55 := hts (.fieldLink RX7 55 "WithTheSameOneModel" "pairB" "[I") (by decide +kernel)
  have in_Mo : ∀ w ∈ wsX70, w ∈ wsX7_doAllWith := fun _ h => List.mem_cons_of_mem _ (List.mem_append_right _ h)
  have L_54 : ∀ (K11 : St → Int32 → Prop), (∀ (S0 : St) (x3 : Int32), ∀ (H : Heap) (locs : List Loc) (ls : Array Slot), va_P D vwCl (wMo k a S0) H → va_D A (wMo k a S0) → va_S A s.heap H locs → lv_has ls 5 [(0, .ref (a 0)), (1, .int x1), (3, .int x3)] → K11 S0 x3 → W p l e rmX7_doAllWith s m ([.ref (a 0), .int x1, .int x2] : List Value).toArray below meth c H locs 0 0 (MQ below (va_Qi (fun (r : Int32) (u : St) => Q r u) (cB D k A (fun u : St => wMo k a u)) A) ([.ref (a 0), .int x1, .int x2] : List Value).toArray s 0 0 A) (F0 m 11 ls [])) → ∀ (S0 : St) (x3 : Int32) (y0 : Int32), ∀ (H : Heap) (locs : List Loc) (ls : Array Slot), va_P D vwCl (wMo k a S0) H → va_D A (wMo k a S0) → va_S A s.heap H locs → lv_has ls 5 [(0, .ref (a 0)), (1, .int x1), (3, .int x3)] → wp_X7_doAllWith_54 K11 x1 x2 Q S0 x3 y0 → W p l e rmX7_doAllWith s m ([.ref (a 0), .int x1, .int x2] : List Value).toArray below meth c H locs 0 0 (MQ below (va_Qi (fun (r : Int32) (u : St) => Q r u) (cB D k A (fun u : St => wMo k a u)) A) ([.ref (a 0), .int x1, .int x2] : List Value).toArray s 0 0 A) (F0 m 54 ls [.int y0]) := by
    intro K11 hK11 S0 x3 y0 H locs ls hP hD hS hl h
    unfold wp_X7_doAllWith_54 at h
    refine lv_istore (lv' := [(4, .int y0), (0, .ref (a 0)), (1, .int x1), (3, .int x3)]) hx hb dX7_doAllWith_54 hl (by decide) rfl (fun ls hl => ?_)
    refine lv_aload_n hx hb dX7_doAllWith_56 rfl (lv_at hl 1 rfl) ?_
    refine lv_aload_n hx hb dX7_doAllWith_57 rfl (lv_at hl 1 rfl) ?_
    refine va_get (D := D) (ci := 7) (v := .ref (a 15)) (C := RX7) (T := TX7) (N := 33) hx hb hts in_Mo hown hK hP 0 rfl rfl 23 (by decide) ln_52 (fun _ h9 => h9) rfl dX7_doAllWith_58 ?_
    refine lv_iload_n hx hb dX7_doAllWith_61 rfl (lv_at hl 3 rfl) ?_
    refine va_iald hx hb hK hP 15 0 rfl rfl h.1 dX7_doAllWith_62 ?_
    have h := h.2
    refine lv_aload_n hx hb dX7_doAllWith_63 rfl (lv_at hl 1 rfl) ?_
    refine va_get (D := D) (ci := 7) (v := .ref (a 16)) (C := RX7) (T := TX7) (N := 33) hx hb hts in_Mo hown hK hP 0 rfl rfl 24 (by decide) ln_55 (fun _ h9 => h9) rfl dX7_doAllWith_64 ?_
    refine lv_iload_n hx hb dX7_doAllWith_67 rfl (lv_at hl 3 rfl) ?_
    refine va_iald hx hb hK hP 16 0 rfl rfl h.1 dX7_doAllWith_68 ?_
    have h := h.2
    have hFc := fr_self hD hS hA
    refine gv_v (va_runV (As := [.int (S0.2 23 x3.toNatClampNeg), .int (S0.2 24 x3.toNatClampNeg)]) (rest := []) ⟨hx, hb, hml, hown, hts⟩ (c_X7_parts l D k a S0 H.size (S0.2 23 x3.toNatClampNeg) (S0.2 24 x3.toNatClampNeg) _ h) (cwV 2 hts gX7_doAllWith_X7_parts rfl rfl rfl (by decide +kernel) ⟨Nat.le_of_ble_eq_true rfl, Nat.le_of_ble_eq_true rfl⟩) (gv_preV hK hnw hP hD (ci := 7) rfl 0 rfl) rfl rfl hl.1 rfl (lv_room (Nat.le_of_ble_eq_true rfl)) dX7_doAllWith_69 ⟨Nat.zero_le _, Nat.zero_le _⟩) hS hFc (fun u_9 H locs h hP1 hD1 hk1 hS => ?_)
    have hP := hP1
    have hD := hD1.weaken (fun _ _ _ z => hFc _ z)
    refine lv_iload hx hb dX7_doAllWith_72 (lv_at hl 0 rfl) ?_
    refine lv_if_eq (tgt := 79) hx hb dX7_doAllWith_74 (by decide) (fun c_10 => ?_) (fun c_10 => ?_)
    · have h := h.1 c_10
      refine lv_iinc (v := (x3 + 1)) (lv' := [(3, .int (x3 + 1)), (4, .int y0), (0, .ref (a 0)), (1, .int x1)]) hx hb dX7_doAllWith_79 hl (k := 3) rfl rfl (by decide) rfl (fun ls hl => ?_)
      refine lv_goto (tgt := 11) hx hb dX7_doAllWith_82 (by decide) ?_
      exact hK11 u_9 (x3 + 1) H locs ls hP hD hS (lv_sub hl [2, 3, 0] rfl) h
    · have h := h.2 c_10
      refine lv_iconst (v := (1 : Int32)) hx hb dX7_doAllWith_77 (by decide) ?_
      exact W.zret (v := (1 : Int32)) hx hb hr rfl (fun t ht hW => ⟨⟨(1 : Int32), u_9, rfl, h, by rw [ht]; exact hP, va_K.moved hW.alike hK, hD⟩, hS.F ht⟩) hS.2.2 dX7_doAllWith_78
  have L_11 : ∀ (n : Nat), ∀ (S0 : St) (x3 : Int32), ∀ (H : Heap) (locs : List Loc) (ls : Array Slot), va_P D vwCl (wMo k a S0) H → va_D A (wMo k a S0) → va_S A s.heap H locs → lv_has ls 5 [(0, .ref (a 0)), (1, .int x1), (3, .int x3)] → wp_X7_doAllWith_11 x1 x2 Q n S0 x3 → W p l e rmX7_doAllWith s m ([.ref (a 0), .int x1, .int x2] : List Value).toArray below meth c H locs 0 0 (MQ below (va_Qi (fun (r : Int32) (u : St) => Q r u) (cB D k A (fun u : St => wMo k a u)) A) ([.ref (a 0), .int x1, .int x2] : List Value).toArray s 0 0 A) (F0 m 11 ls []) := by
    intro n
    induction n with
    | zero => intro S0 x3 H locs ls hP hD hS hl h; exact absurd h (by unfold wp_X7_doAllWith_11; exact id)
    | succ n ih =>
      intro S0 x3 H locs ls hP hD hS hl h
      unfold wp_X7_doAllWith_11 at h
      refine lv_iload_n hx hb dX7_doAllWith_11 rfl (lv_at hl 2 rfl) ?_
      refine lv_aload_n hx hb dX7_doAllWith_12 rfl (lv_at hl 0 rfl) ?_
      refine va_get (D := D) (ci := 7) (v := .int (S0.1 25)) (C := RX7) (T := TX7) (N := 33) hx hb hts in_Mo hown hK hP 0 rfl rfl 25 (by decide) ln_199 (fun _ h9 => h9) rfl dX7_doAllWith_13 ?_
      refine lv_icmp_ge (tgt := 85) hx hb dX7_doAllWith_16 (by decide) (fun c_2 => ?_) (fun c_2 => ?_)
      · have h := h.1 c_2
        refine lv_iconst (v := (0 : Int32)) hx hb dX7_doAllWith_85 (by decide) ?_
        exact W.zret (v := (0 : Int32)) hx hb hr rfl (fun t ht hW => ⟨⟨(0 : Int32), S0, rfl, h, by rw [ht]; exact hP, va_K.moved hW.alike hK, hD⟩, hS.F ht⟩) hS.2.2 dX7_doAllWith_86
      · have h := h.2 c_2
        refine lv_aload_n hx hb dX7_doAllWith_19 rfl (lv_at hl 0 rfl) ?_
        refine lv_aload_n hx hb dX7_doAllWith_20 rfl (lv_at hl 0 rfl) ?_
        refine va_get (D := D) (ci := 7) (v := .ref (a 15)) (C := RX7) (T := TX7) (N := 33) hx hb hts in_Mo hown hK hP 0 rfl rfl 23 (by decide) ln_52 (fun _ h9 => h9) rfl dX7_doAllWith_21 ?_
        refine lv_iload_n hx hb dX7_doAllWith_24 rfl (lv_at hl 2 rfl) ?_
        refine va_iald hx hb hK hP 15 0 rfl rfl h.1 dX7_doAllWith_25 ?_
        have h := h.2
        refine lv_aload_n hx hb dX7_doAllWith_26 rfl (lv_at hl 0 rfl) ?_
        refine va_get (D := D) (ci := 7) (v := .ref (a 16)) (C := RX7) (T := TX7) (N := 33) hx hb hts in_Mo hown hK hP 0 rfl rfl 24 (by decide) ln_55 (fun _ h9 => h9) rfl dX7_doAllWith_27 ?_
        refine lv_iload_n hx hb dX7_doAllWith_30 rfl (lv_at hl 2 rfl) ?_
        refine va_iald hx hb hK hP 16 0 rfl rfl h.1 dX7_doAllWith_31 ?_
        have h := h.2
        have hFc := fr_self hD hS hA
        refine gv_v (va_runV (As := [.int (S0.2 23 x3.toNatClampNeg), .int (S0.2 24 x3.toNatClampNeg)]) (rest := []) ⟨hx, hb, hml, hown, hts⟩ (c_X7_joins l D k a S0 H.size (S0.2 23 x3.toNatClampNeg) (S0.2 24 x3.toNatClampNeg) _ h) (cwV 2 hts gX7_doAllWith_X7_joins rfl rfl rfl (by decide +kernel) ⟨Nat.le_of_ble_eq_true rfl, Nat.le_of_ble_eq_true rfl⟩) (gv_preV hK hnw hP hD (ci := 7) rfl 0 rfl) rfl rfl hl.1 rfl (lv_room (Nat.le_of_ble_eq_true rfl)) dX7_doAllWith_32 ⟨Nat.zero_le _, Nat.zero_le _⟩) hS hFc (fun u_4 H locs h hP1 hD1 hk1 hS => ?_)
        have hP := hP1
        have hD := hD1.weaken (fun _ _ _ z => hFc _ z)
        refine lv_iload_n hx hb dX7_doAllWith_35 rfl (lv_at hl 1 rfl) ?_
        refine lv_iconst (v := (1 : Int32)) hx hb dX7_doAllWith_36 (by decide) ?_
        refine lv_icmp_ne (tgt := 47) hx hb dX7_doAllWith_37 (by decide) (fun c_5 => ?_) (fun c_5 => ?_)
        · have h := h.1 c_5
          refine lv_aload_n hx hb dX7_doAllWith_47 rfl (lv_at hl 0 rfl) ?_
          refine lv_iload_n hx hb dX7_doAllWith_48 rfl (lv_at hl 2 rfl) ?_
          refine lv_iconst (v := (1 : Int32)) hx hb dX7_doAllWith_49 (by decide) ?_
          refine lv_iadd hx hb dX7_doAllWith_50 ?_
          have hFc := fr_self hD hS hA
          refine gv_i (va_runV (As := [.int (x3 + (1 : Int32))]) (rest := []) ⟨hx, hb, hml, hown, hts⟩ (c_X7_doAllWithOneMore l D k a u_4 H.size (x3 + (1 : Int32)) _ h) (cwV 1 hts gX7_doAllWith_X7_doAllWithOneMore rfl rfl rfl (by decide +kernel) ⟨Nat.le_of_ble_eq_true rfl, Nat.le_of_ble_eq_true rfl⟩) (gv_preV hK hnw hP hD (ci := 7) rfl 0 rfl) rfl rfl hl.1 rfl (lv_room (Nat.le_of_ble_eq_true rfl)) dX7_doAllWith_51 ⟨Nat.zero_le _, Nat.zero_le _⟩) hS hFc (fun r_6 u_7 H locs h hP1 hD1 hk1 hS => ?_)
          have hP := hP1
          have hD := hD1.weaken (fun _ _ _ z => hFc _ z)
          exact L_54 (fun s0 v0 => wp_X7_doAllWith_11 x1 x2 Q n s0 v0) ih u_7 x3 r_6 H locs ls hP hD hS (lv_sub hl [0, 1, 2] rfl) h
        · have h := h.2 c_5
          refine lv_aload_n hx hb dX7_doAllWith_40 rfl (lv_at hl 0 rfl) ?_
          have hFc := fr_self hD hS hA
          refine gv_i (va_runV (As := []) (rest := []) ⟨hx, hb, hml, hown, hts⟩ (c_X7_doAll l D k a u_4 H.size _ h) (cwV 0 hts gX7_doAllWith_X7_doAll rfl rfl rfl (by decide +kernel) ⟨Nat.le_of_ble_eq_true rfl, Nat.le_of_ble_eq_true rfl⟩) (gv_preV hK hnw hP hD (ci := 7) rfl 0 rfl) rfl rfl hl.1 rfl (lv_room (Nat.le_of_ble_eq_true rfl)) dX7_doAllWith_41 ⟨Nat.zero_le _, Nat.zero_le _⟩) hS hFc (fun r_11 u_12 H locs h hP1 hD1 hk1 hS => ?_)
          have hP := hP1
          have hD := hD1.weaken (fun _ _ _ z => hFc _ z)
          refine lv_goto (tgt := 54) hx hb dX7_doAllWith_44 (by decide) ?_
          exact L_54 (fun s0 v0 => wp_X7_doAllWith_11 x1 x2 Q n s0 v0) ih u_12 x3 r_11 H locs ls hP hD hS (lv_sub hl [0, 1, 2] rfl) h
  unfold wp_X7_doAllWith at h
  refine lv_iload_n hx hb dX7_doAllWith_0 rfl (lv_at hl 1 rfl) ?_
  refine lv_if_ne (tgt := 9) hx hb dX7_doAllWith_1 (by decide) (fun c_1 => ?_) (fun c_1 => ?_)
  · have h := h.1 c_1
    refine lv_iload_n hx hb dX7_doAllWith_9 rfl (lv_at hl 2 rfl) ?_
    refine lv_istore_n (lv' := [(3, .int x2), (0, .ref (a 0)), (1, .int x1), (2, .int x2)]) hx hb dX7_doAllWith_10 rfl hl (by decide) rfl (fun ls hl => ?_)
    obtain ⟨n_13, h⟩ := h
    exact L_11 n_13 S0 x2 H locs ls hP hD hS (lv_sub hl [1, 2, 0] rfl) h
  · have h := h.2 c_1
    refine lv_aload_n hx hb dX7_doAllWith_4 rfl (lv_at hl 0 rfl) ?_
    have hFc := fr_self hD hS hA
    refine gv_i (va_runV (As := []) (rest := []) ⟨hx, hb, hml, hown, hts⟩ (c_X7_doAll l D k a S0 H.size _ h) (cwV 0 hts gX7_doAllWith_X7_doAll rfl rfl rfl (by decide +kernel) ⟨Nat.le_of_ble_eq_true rfl, Nat.le_of_ble_eq_true rfl⟩) (gv_preV hK hnw hP hD (ci := 7) rfl 0 rfl) rfl rfl hl.1 rfl (lv_room (Nat.le_of_ble_eq_true rfl)) dX7_doAllWith_5 ⟨Nat.zero_le _, Nat.zero_le _⟩) hS hFc (fun r_14 u_15 H locs h hP1 hD1 hk1 hS => ?_)
    have hP := hP1
    have hD := hD1.weaken (fun _ _ _ z => hFc _ z)
    exact W.zret (v := r_14) hx hb hr (bz_narrow h.1) (fun t ht hW => ⟨⟨r_14, u_15, rfl, h.2, by rw [ht]; exact hP, va_K.moved hW.alike hK, hD⟩, hS.F ht⟩) hS.2.2 dX7_doAllWith_8
/-! X7_fewestOf -/
def wp_X7_fewestOf_29 (K22 : St → Int32 → Prop) (Q : Int32 → St → Prop) : Nat → St → Int32 → Int32 → Prop
  | 0, _, _, _ => False
  | n + 1, S0, x1, x2 => (((S0.1 25) ≤ x2) → (K22 S0 (x1 + 1))) ∧ ((¬ (S0.1 25) ≤ x2) → (vp_in x2 28 ∧ (vp_in x2 28 ∧ (wp_X7_joins S0 (S0.2 23 x2.toNatClampNeg) (S0.2 24 x2.toNatClampNeg) (fun u_11 => wp_X7_doAllWith u_11 (x1 - (1 : Int32)) (x2 + (1 : Int32)) (fun r_12 u_13 => vp_in x2 28 ∧ (vp_in x2 28 ∧ (wp_X7_parts u_13 (u_13.2 23 x2.toNatClampNeg) (u_13.2 24 x2.toNatClampNeg) (fun u_15 => ((¬ r_12 = 0) → (vp_in x2 28 ∧ (vp_in x2 28 ∧ (∀ S_17, S_17 = (sI u_15 26 (((10 : Int32) * (u_15.2 23 x2.toNatClampNeg)) + (u_15.2 24 x2.toNatClampNeg))) → (Q x1 S_17))))) ∧ ((r_12 = 0) → (wp_X7_fewestOf_29 K22 Q n u_15 x1 (x2 + 1))))))))))))
def wp_X7_fewestOf_22 (Q : Int32 → St → Prop) : Nat → St → Int32 → Prop
  | 0, _, _ => False
  | n + 1, S0, x1 => (((4 : Int32) ≤ x1) → (Q (-9 : Int32) S0)) ∧ ((¬ (4 : Int32) ≤ x1) → (∃ i, wp_X7_fewestOf_29 (fun s0 v0 => wp_X7_fewestOf_22 Q n s0 v0) Q i S0 x1 (0 : Int32)))
def wp_X7_fewestOf (S0 : St) (Q : Int32 → St → Prop) : Prop := ∀ S_1, S_1 = (sI S0 26 (-9 : Int32)) → (wp_X7_doAll S_1 (fun r_3 u_4 => ((r_3 = 0) → (wp_X7_findPairs u_4 (0 : Int32) (fun u_7 => ∃ i, wp_X7_fewestOf_22 Q i u_7 (1 : Int32)))) ∧ ((¬ r_3 = 0) → (Q (0 : Int32) u_4))))
abbrev rmX7_fewestOf : Room := { frames := 7, cells := 0, slots := 0, locals := 163 }
set_option maxRecDepth 100000 in
set_option maxHeartbeats 4000000 in
theorem c_X7_fewestOf (l : Launch) (D : va_G) (k : Nat → ClassId) (a : Nat → Nat) (S0 : St) (sz : Nat) (Q : Int32 → St → Prop) (h : wp_X7_fewestOf S0 Q) : Met l yX7_fewestOf wsX7_fewestOf rmX7_fewestOf (cPc D k (wMo k a S0) [.ref (a 0)] sz) (va_Qi (fun (r : Int32) (u : St) => Q r u) (cB D k (va_A (wMo k a S0) sz) (fun u : St => wMo k a u)) (va_A (wMo k a S0) sz)) 0 0 (va_A (wMo k a S0) sz) := by
  refine ct_entry (cc := cX7_fewestOf) (maxL := 4) (ret := (some .int)) (Rn := RX7) (Qc := fun A => (va_Qi (fun (r : Int32) (u : St) => Q r u) (cB D k A (fun u : St => wMo k a u)) A)) (by decide) rfl rfl (Nat.le_of_ble_eq_true rfl) ?_
  intro p e s m below meth c hx hb hr hlocks hml hts hown hnw hK A hA H locs hP hD hS ls hl
  have hl : lv_has ls 4 [(0, .ref (a 0))] := hl
  have ln_199 := hts (.fieldLink RX7 199 "WithTheSameOneModel" "pairs" "I") (by decide +kernel)
  have ln_202 := hts (.fieldLink RX7 202 "WithTheSameOneModel" "firstOfSet" "I") (by decide +kernel)
  have ln_52 := hts (.fieldLink RX7 52 "WithTheSameOneModel" "pairA" "[I") (by decide +kernel)
  have ln_55 := hts (.fieldLink RX7 55 "WithTheSameOneModel" "pairB" "[I") (by decide +kernel)
  have in_Mo : ∀ w ∈ wsX70, w ∈ wsX7_fewestOf := fun _ h => List.mem_cons_of_mem _ (List.mem_append_right _ h)
  have L_29 : ∀ (K22 : St → Int32 → Prop), (∀ (S0 : St) (x1 : Int32), ∀ (H : Heap) (locs : List Loc) (ls : Array Slot), va_P D vwCl (wMo k a S0) H → va_D A (wMo k a S0) → va_S A s.heap H locs → lv_has ls 4 [(0, .ref (a 0)), (1, .int x1)] → K22 S0 x1 → W p l e rmX7_fewestOf s m ([.ref (a 0)] : List Value).toArray below meth c H locs 0 0 (MQ below (va_Qi (fun (r : Int32) (u : St) => Q r u) (cB D k A (fun u : St => wMo k a u)) A) ([.ref (a 0)] : List Value).toArray s 0 0 A) (F0 m 22 ls [])) → ∀ (n : Nat), ∀ (S0 : St) (x1 : Int32) (x2 : Int32), ∀ (H : Heap) (locs : List Loc) (ls : Array Slot), va_P D vwCl (wMo k a S0) H → va_D A (wMo k a S0) → va_S A s.heap H locs → lv_has ls 4 [(0, .ref (a 0)), (1, .int x1), (2, .int x2)] → wp_X7_fewestOf_29 K22 Q n S0 x1 x2 → W p l e rmX7_fewestOf s m ([.ref (a 0)] : List Value).toArray below meth c H locs 0 0 (MQ below (va_Qi (fun (r : Int32) (u : St) => Q r u) (cB D k A (fun u : St => wMo k a u)) A) ([.ref (a 0)] : List Value).toArray s 0 0 A) (F0 m 29 ls []) := by
    intro K22 hK22
    intro n
    induction n with
    | zero => intro S0 x1 x2 H locs ls hP hD hS hl h; exact absurd h (by unfold wp_X7_fewestOf_29; exact id)
    | succ n ih =>
      intro S0 x1 x2 H locs ls hP hD hS hl h
      unfold wp_X7_fewestOf_29 at h
      refine lv_iload_n hx hb dX7_fewestOf_29 rfl (lv_at hl 2 rfl) ?_
      refine lv_aload_n hx hb dX7_fewestOf_30 rfl (lv_at hl 0 rfl) ?_
      refine va_get (D := D) (ci := 7) (v := .int (S0.1 25)) (C := RX7) (T := TX7) (N := 33) hx hb hts in_Mo hown hK hP 0 rfl rfl 25 (by decide) ln_199 (fun _ h9 => h9) rfl dX7_fewestOf_31 ?_
      refine lv_icmp_ge (tgt := 115) hx hb dX7_fewestOf_34 (by decide) (fun c_9 => ?_) (fun c_9 => ?_)
      · have h := h.1 c_9
        refine lv_iinc (v := (x1 + 1)) (lv' := [(1, .int (x1 + 1)), (0, .ref (a 0)), (2, .int x2)]) hx hb dX7_fewestOf_115 hl (k := 1) rfl rfl (by decide) rfl (fun ls hl => ?_)
        refine lv_goto (tgt := 22) hx hb dX7_fewestOf_118 (by decide) ?_
        exact hK22 S0 (x1 + 1) H locs ls hP hD hS (lv_sub hl [1, 0] rfl) h
      · have h := h.2 c_9
        refine lv_aload_n hx hb dX7_fewestOf_37 rfl (lv_at hl 0 rfl) ?_
        refine lv_aload_n hx hb dX7_fewestOf_38 rfl (lv_at hl 0 rfl) ?_
        refine va_get (D := D) (ci := 7) (v := .ref (a 15)) (C := RX7) (T := TX7) (N := 33) hx hb hts in_Mo hown hK hP 0 rfl rfl 23 (by decide) ln_52 (fun _ h9 => h9) rfl dX7_fewestOf_39 ?_
        refine lv_iload_n hx hb dX7_fewestOf_42 rfl (lv_at hl 2 rfl) ?_
        refine va_iald hx hb hK hP 15 0 rfl rfl h.1 dX7_fewestOf_43 ?_
        have h := h.2
        refine lv_aload_n hx hb dX7_fewestOf_44 rfl (lv_at hl 0 rfl) ?_
        refine va_get (D := D) (ci := 7) (v := .ref (a 16)) (C := RX7) (T := TX7) (N := 33) hx hb hts in_Mo hown hK hP 0 rfl rfl 24 (by decide) ln_55 (fun _ h9 => h9) rfl dX7_fewestOf_45 ?_
        refine lv_iload_n hx hb dX7_fewestOf_48 rfl (lv_at hl 2 rfl) ?_
        refine va_iald hx hb hK hP 16 0 rfl rfl h.1 dX7_fewestOf_49 ?_
        have h := h.2
        have hFc := fr_self hD hS hA
        refine gv_v (va_runV (As := [.int (S0.2 23 x2.toNatClampNeg), .int (S0.2 24 x2.toNatClampNeg)]) (rest := []) ⟨hx, hb, hml, hown, hts⟩ (c_X7_joins l D k a S0 H.size (S0.2 23 x2.toNatClampNeg) (S0.2 24 x2.toNatClampNeg) _ h) (cwV 2 hts gX7_fewestOf_X7_joins rfl rfl rfl (by decide +kernel) ⟨Nat.le_of_ble_eq_true rfl, Nat.le_of_ble_eq_true rfl⟩) (gv_preV hK hnw hP hD (ci := 7) rfl 0 rfl) rfl rfl hl.1 rfl (lv_room (Nat.le_of_ble_eq_true rfl)) dX7_fewestOf_50 ⟨Nat.zero_le _, Nat.zero_le _⟩) hS hFc (fun u_11 H locs h hP1 hD1 hk1 hS => ?_)
        have hP := hP1
        have hD := hD1.weaken (fun _ _ _ z => hFc _ z)
        refine lv_aload_n hx hb dX7_fewestOf_53 rfl (lv_at hl 0 rfl) ?_
        refine lv_iload_n hx hb dX7_fewestOf_54 rfl (lv_at hl 1 rfl) ?_
        refine lv_iconst (v := (1 : Int32)) hx hb dX7_fewestOf_55 (by decide) ?_
        refine lv_isub hx hb dX7_fewestOf_56 ?_
        refine lv_iload_n hx hb dX7_fewestOf_57 rfl (lv_at hl 2 rfl) ?_
        refine lv_iconst (v := (1 : Int32)) hx hb dX7_fewestOf_58 (by decide) ?_
        refine lv_iadd hx hb dX7_fewestOf_59 ?_
        have hFc := fr_self hD hS hA
        refine gv_i (va_runV (As := [.int (x1 - (1 : Int32)), .int (x2 + (1 : Int32))]) (rest := []) ⟨hx, hb, hml, hown, hts⟩ (c_X7_doAllWith l D k a u_11 H.size (x1 - (1 : Int32)) (x2 + (1 : Int32)) _ h) (cwV 2 hts gX7_fewestOf_X7_doAllWith rfl rfl rfl (by decide +kernel) ⟨Nat.le_of_ble_eq_true rfl, Nat.le_of_ble_eq_true rfl⟩) (gv_preV hK hnw hP hD (ci := 7) rfl 0 rfl) rfl rfl hl.1 rfl (lv_room (Nat.le_of_ble_eq_true rfl)) dX7_fewestOf_60 ⟨Nat.zero_le _, Nat.zero_le _⟩) hS hFc (fun r_12 u_13 H locs h hP1 hD1 hk1 hS => ?_)
        have hP := hP1
        have hD := hD1.weaken (fun _ _ _ z => hFc _ z)
        refine lv_istore_n (lv' := [(3, .int r_12), (0, .ref (a 0)), (1, .int x1), (2, .int x2)]) hx hb dX7_fewestOf_63 rfl hl (by decide) rfl (fun ls hl => ?_)
        refine lv_aload_n hx hb dX7_fewestOf_64 rfl (lv_at hl 1 rfl) ?_
        refine lv_aload_n hx hb dX7_fewestOf_65 rfl (lv_at hl 1 rfl) ?_
        refine va_get (D := D) (ci := 7) (v := .ref (a 15)) (C := RX7) (T := TX7) (N := 33) hx hb hts in_Mo hown hK hP 0 rfl rfl 23 (by decide) ln_52 (fun _ h9 => h9) rfl dX7_fewestOf_66 ?_
        refine lv_iload_n hx hb dX7_fewestOf_69 rfl (lv_at hl 3 rfl) ?_
        refine va_iald hx hb hK hP 15 0 rfl rfl h.1 dX7_fewestOf_70 ?_
        have h := h.2
        refine lv_aload_n hx hb dX7_fewestOf_71 rfl (lv_at hl 1 rfl) ?_
        refine va_get (D := D) (ci := 7) (v := .ref (a 16)) (C := RX7) (T := TX7) (N := 33) hx hb hts in_Mo hown hK hP 0 rfl rfl 24 (by decide) ln_55 (fun _ h9 => h9) rfl dX7_fewestOf_72 ?_
        refine lv_iload_n hx hb dX7_fewestOf_75 rfl (lv_at hl 3 rfl) ?_
        refine va_iald hx hb hK hP 16 0 rfl rfl h.1 dX7_fewestOf_76 ?_
        have h := h.2
        have hFc := fr_self hD hS hA
        refine gv_v (va_runV (As := [.int (u_13.2 23 x2.toNatClampNeg), .int (u_13.2 24 x2.toNatClampNeg)]) (rest := []) ⟨hx, hb, hml, hown, hts⟩ (c_X7_parts l D k a u_13 H.size (u_13.2 23 x2.toNatClampNeg) (u_13.2 24 x2.toNatClampNeg) _ h) (cwV 2 hts gX7_fewestOf_X7_parts rfl rfl rfl (by decide +kernel) ⟨Nat.le_of_ble_eq_true rfl, Nat.le_of_ble_eq_true rfl⟩) (gv_preV hK hnw hP hD (ci := 7) rfl 0 rfl) rfl rfl hl.1 rfl (lv_room (Nat.le_of_ble_eq_true rfl)) dX7_fewestOf_77 ⟨Nat.zero_le _, Nat.zero_le _⟩) hS hFc (fun u_15 H locs h hP1 hD1 hk1 hS => ?_)
        have hP := hP1
        have hD := hD1.weaken (fun _ _ _ z => hFc _ z)
        refine lv_iload_n hx hb dX7_fewestOf_80 rfl (lv_at hl 0 rfl) ?_
        refine lv_if_ne (tgt := 87) hx hb dX7_fewestOf_81 (by decide) (fun c_16 => ?_) (fun c_16 => ?_)
        · have h := h.1 c_16
          refine lv_aload_n hx hb dX7_fewestOf_87 rfl (lv_at hl 1 rfl) ?_
          refine lv_bipush (v := (10 : Int32)) hx hb dX7_fewestOf_88 (by decide) ?_
          refine lv_aload_n hx hb dX7_fewestOf_90 rfl (lv_at hl 1 rfl) ?_
          refine va_get (D := D) (ci := 7) (v := .ref (a 15)) (C := RX7) (T := TX7) (N := 33) hx hb hts in_Mo hown hK hP 0 rfl rfl 23 (by decide) ln_52 (fun _ h9 => h9) rfl dX7_fewestOf_91 ?_
          refine lv_iload_n hx hb dX7_fewestOf_94 rfl (lv_at hl 3 rfl) ?_
          refine va_iald hx hb hK hP 15 0 rfl rfl h.1 dX7_fewestOf_95 ?_
          have h := h.2
          refine lv_imul hx hb dX7_fewestOf_96 ?_
          refine lv_aload_n hx hb dX7_fewestOf_97 rfl (lv_at hl 1 rfl) ?_
          refine va_get (D := D) (ci := 7) (v := .ref (a 16)) (C := RX7) (T := TX7) (N := 33) hx hb hts in_Mo hown hK hP 0 rfl rfl 24 (by decide) ln_55 (fun _ h9 => h9) rfl dX7_fewestOf_98 ?_
          refine lv_iload_n hx hb dX7_fewestOf_101 rfl (lv_at hl 3 rfl) ?_
          refine va_iald hx hb hK hP 16 0 rfl rfl h.1 dX7_fewestOf_102 ?_
          have h := h.2
          refine lv_iadd hx hb dX7_fewestOf_103 ?_
          refine va_put (D := D) (ci := 7) (v := .int (((10 : Int32) * (u_15.2 23 x2.toNatClampNeg)) + (u_15.2 24 x2.toNatClampNeg))) (ty := .int) (C := RX7) (T := TX7) (N := 33) hx hb hts in_Mo tyX7 tyX7_ok nmX7 hown hK hP hD hS 0 rfl rfl 26 (by decide) ln_202 (fun _ h9 => h9) rfl (by decide +kernel) rfl rfl (Nat.le_of_ble_eq_true rfl) dX7_fewestOf_104 (fun H locs hP hD hS => ?_)
          obtain ⟨S_17, e_18⟩ : ∃ z : St, z = (sI u_15 26 (((10 : Int32) * (u_15.2 23 x2.toNatClampNeg)) + (u_15.2 24 x2.toNatClampNeg))) := ⟨_, rfl⟩
          have h := h S_17 e_18
          have hP : va_P D vwCl (wMo k a S_17) H := by rw [e_18]; exact hP
          have hD : va_D A (wMo k a S_17) := by rw [e_18]; exact hD
          refine lv_iload_n hx hb dX7_fewestOf_107 rfl (lv_at hl 2 rfl) ?_
          exact W.iret (v := x1) hx hb hr (fun t ht hW => ⟨⟨x1, S_17, rfl, h, by rw [ht]; exact hP, va_K.moved hW.alike hK, hD⟩, hS.F ht⟩) hS.2.2 dX7_fewestOf_108
        · have h := h.2 c_16
          refine lv_goto (tgt := 109) hx hb dX7_fewestOf_84 (by decide) ?_
          refine lv_iinc (v := (x2 + 1)) (lv' := [(2, .int (x2 + 1)), (3, .int r_12), (0, .ref (a 0)), (1, .int x1)]) hx hb dX7_fewestOf_109 hl (k := 3) rfl rfl (by decide) rfl (fun ls hl => ?_)
          refine lv_goto (tgt := 29) hx hb dX7_fewestOf_112 (by decide) ?_
          exact ih u_15 x1 (x2 + 1) H locs ls hP hD hS (lv_sub hl [2, 3, 0] rfl) h
  have L_22 : ∀ (n : Nat), ∀ (S0 : St) (x1 : Int32), ∀ (H : Heap) (locs : List Loc) (ls : Array Slot), va_P D vwCl (wMo k a S0) H → va_D A (wMo k a S0) → va_S A s.heap H locs → lv_has ls 4 [(0, .ref (a 0)), (1, .int x1)] → wp_X7_fewestOf_22 Q n S0 x1 → W p l e rmX7_fewestOf s m ([.ref (a 0)] : List Value).toArray below meth c H locs 0 0 (MQ below (va_Qi (fun (r : Int32) (u : St) => Q r u) (cB D k A (fun u : St => wMo k a u)) A) ([.ref (a 0)] : List Value).toArray s 0 0 A) (F0 m 22 ls []) := by
    intro n
    induction n with
    | zero => intro S0 x1 H locs ls hP hD hS hl h; exact absurd h (by unfold wp_X7_fewestOf_22; exact id)
    | succ n ih =>
      intro S0 x1 H locs ls hP hD hS hl h
      unfold wp_X7_fewestOf_22 at h
      refine lv_iload_n hx hb dX7_fewestOf_22 rfl (lv_at hl 1 rfl) ?_
      refine lv_iconst (v := (4 : Int32)) hx hb dX7_fewestOf_23 (by decide) ?_
      refine lv_icmp_ge (tgt := 121) hx hb dX7_fewestOf_24 (by decide) (fun c_8 => ?_) (fun c_8 => ?_)
      · have h := h.1 c_8
        refine lv_bipush (v := (-9 : Int32)) hx hb dX7_fewestOf_121 (by decide) ?_
        exact W.iret (v := (-9 : Int32)) hx hb hr (fun t ht hW => ⟨⟨(-9 : Int32), S0, rfl, h, by rw [ht]; exact hP, va_K.moved hW.alike hK, hD⟩, hS.F ht⟩) hS.2.2 dX7_fewestOf_123
      · have h := h.2 c_8
        refine lv_iconst (v := (0 : Int32)) hx hb dX7_fewestOf_27 (by decide) ?_
        refine lv_istore_n (lv' := [(2, .int (0 : Int32)), (0, .ref (a 0)), (1, .int x1)]) hx hb dX7_fewestOf_28 rfl hl (by decide) rfl (fun ls hl => ?_)
        obtain ⟨n_19, h⟩ := h
        exact L_29 (fun s0 v0 => wp_X7_fewestOf_22 Q n s0 v0) ih n_19 S0 x1 (0 : Int32) H locs ls hP hD hS (lv_sub hl [1, 2, 0] rfl) h
  unfold wp_X7_fewestOf at h
  refine lv_aload_n hx hb dX7_fewestOf_0 rfl (lv_at hl 0 rfl) ?_
  refine lv_bipush (v := (-9 : Int32)) hx hb dX7_fewestOf_1 (by decide) ?_
  refine va_put (D := D) (ci := 7) (v := .int (-9 : Int32)) (ty := .int) (C := RX7) (T := TX7) (N := 33) hx hb hts in_Mo tyX7 tyX7_ok nmX7 hown hK hP hD hS 0 rfl rfl 26 (by decide) ln_202 (fun _ h9 => h9) rfl (by decide +kernel) rfl rfl (Nat.le_of_ble_eq_true rfl) dX7_fewestOf_3 (fun H locs hP hD hS => ?_)
  obtain ⟨S_1, e_2⟩ : ∃ z : St, z = (sI S0 26 (-9 : Int32)) := ⟨_, rfl⟩
  have h := h S_1 e_2
  have hP : va_P D vwCl (wMo k a S_1) H := by rw [e_2]; exact hP
  have hD : va_D A (wMo k a S_1) := by rw [e_2]; exact hD
  refine lv_aload_n hx hb dX7_fewestOf_6 rfl (lv_at hl 0 rfl) ?_
  have hFc := fr_self hD hS hA
  refine gv_i (va_runV (As := []) (rest := []) ⟨hx, hb, hml, hown, hts⟩ (c_X7_doAll l D k a S_1 H.size _ h) (cwV 0 hts gX7_fewestOf_X7_doAll rfl rfl rfl (by decide +kernel) ⟨Nat.le_of_ble_eq_true rfl, Nat.le_of_ble_eq_true rfl⟩) (gv_preV hK hnw hP hD (ci := 7) rfl 0 rfl) rfl rfl hl.1 rfl (lv_room (Nat.le_of_ble_eq_true rfl)) dX7_fewestOf_7 ⟨Nat.zero_le _, Nat.zero_le _⟩) hS hFc (fun r_3 u_4 H locs h hP1 hD1 hk1 hS => ?_)
  have hP := hP1
  have hD := hD1.weaken (fun _ _ _ z => hFc _ z)
  refine lv_if_eq (tgt := 15) hx hb dX7_fewestOf_10 (by decide) (fun c_5 => ?_) (fun c_5 => ?_)
  · have h := h.1 c_5
    refine lv_aload_n hx hb dX7_fewestOf_15 rfl (lv_at hl 0 rfl) ?_
    refine lv_iconst (v := (0 : Int32)) hx hb dX7_fewestOf_16 (by decide) ?_
    have hFc := fr_self hD hS hA
    refine gv_v (va_runV (As := [.int (0 : Int32)]) (rest := []) ⟨hx, hb, hml, hown, hts⟩ (c_X7_findPairs l D k a u_4 H.size (0 : Int32) _ h) (cwV 1 hts gX7_fewestOf_X7_findPairs rfl rfl rfl (by decide +kernel) ⟨Nat.le_of_ble_eq_true rfl, Nat.le_of_ble_eq_true rfl⟩) (gv_preV hK hnw hP hD (ci := 7) rfl 0 rfl) rfl rfl hl.1 rfl (lv_room (Nat.le_of_ble_eq_true rfl)) dX7_fewestOf_17 ⟨Nat.zero_le _, Nat.zero_le _⟩) hS hFc (fun u_7 H locs h hP1 hD1 hk1 hS => ?_)
    have hP := hP1
    have hD := hD1.weaken (fun _ _ _ z => hFc _ z)
    refine lv_iconst (v := (1 : Int32)) hx hb dX7_fewestOf_20 (by decide) ?_
    refine lv_istore_n (lv' := [(1, .int (1 : Int32)), (0, .ref (a 0))]) hx hb dX7_fewestOf_21 rfl hl (by decide) rfl (fun ls hl => ?_)
    obtain ⟨n_20, h⟩ := h
    exact L_22 n_20 u_7 (1 : Int32) H locs ls hP hD hS (lv_sub hl [1, 0] rfl) h
  · have h := h.2 c_5
    refine lv_iconst (v := (0 : Int32)) hx hb dX7_fewestOf_13 (by decide) ?_
    exact W.iret (v := (0 : Int32)) hx hb hr (fun t ht hW => ⟨⟨(0 : Int32), u_4, rfl, h, by rw [ht]; exact hP, va_K.moved hW.alike hK, hD⟩, hS.F ht⟩) hS.2.2 dX7_fewestOf_14
/-! X7_fewest -/
def wp_X7_fewest (S0 : St) (x1 : Int32) (Q : Int32 → St → Prop) : Prop := wp_X7_isIn x1 (0 : Int32) (1 : Int32) (fun r_1 => ((¬ r_1 = 0) → (wp_X7_fewestOf S0 (fun r_3 u_4 => ((¬ x1 = 0) → (Q (u_4.1 26) u_4)) ∧ ((x1 = 0) → (Q r_3 u_4))))) ∧ ((r_1 = 0) → (wp_X7_no S0 (-2 : Int32) (fun r_6 u_7 => Q r_6 u_7))))
abbrev rmX7_fewest : Room := { frames := 8, cells := 0, slots := 0, locals := 186 }
set_option maxRecDepth 100000 in
set_option maxHeartbeats 4000000 in
theorem c_X7_fewest (l : Launch) (D : va_G) (k : Nat → ClassId) (a : Nat → Nat) (S0 : St) (sz : Nat) (x1 : Int32) (Q : Int32 → St → Prop) (h : wp_X7_fewest S0 x1 Q) : Met l yX7_fewest wsX7_fewest rmX7_fewest (cPc D k (wMo k a S0) [.ref (a 0), .int x1] sz) (va_Qi (fun (r : Int32) (u : St) => Q r u) (cB D k (va_A (wMo k a S0) sz) (fun u : St => wMo k a u)) (va_A (wMo k a S0) sz)) 0 0 (va_A (wMo k a S0) sz) := by
  refine ct_entry (cc := cX7_fewest) (maxL := 3) (ret := (some .int)) (Rn := RX7) (Qc := fun A => (va_Qi (fun (r : Int32) (u : St) => Q r u) (cB D k A (fun u : St => wMo k a u)) A)) (by decide) rfl rfl (Nat.le_of_ble_eq_true rfl) ?_
  intro p e s m below meth c hx hb hr hlocks hml hts hown hnw hK A hA H locs hP hD hS ls hl
  have hl : lv_has ls 3 [(0, .ref (a 0)), (1, .int x1)] := hl
  have ln_202 := hts (.fieldLink RX7 202 "WithTheSameOneModel" "firstOfSet" "I") (by decide +kernel)
  have in_Mo : ∀ w ∈ wsX70, w ∈ wsX7_fewest := fun _ h => List.mem_cons_of_mem _ (List.mem_append_right _ h)
  unfold wp_X7_fewest at h
  refine lv_iload_n hx hb dX7_fewest_0 rfl (lv_at hl 1 rfl) ?_
  refine lv_iconst (v := (0 : Int32)) hx hb dX7_fewest_1 (by decide) ?_
  refine lv_iconst (v := (1 : Int32)) hx hb dX7_fewest_2 (by decide) ?_
  refine gs_i (va_runS (As := [.int x1, .int (0 : Int32), .int (1 : Int32)]) (rest := []) ⟨hx, hb, hml, hown, hts⟩ (c_X7_isIn l x1 (0 : Int32) (1 : Int32) _ h) (va_cwS 3 hts gX7_fewest_X7_isIn rfl rfl rfl (by decide +kernel) ⟨Nat.le_of_ble_eq_true rfl, Nat.le_of_ble_eq_true rfl⟩) preEq rfl rfl hl.1 rfl (lv_room (Nat.le_of_ble_eq_true rfl)) dX7_fewest_3 ⟨Nat.zero_le _, Nat.zero_le _⟩) (fun r_1 h => ?_)
  refine lv_if_ne (tgt := 16) hx hb dX7_fewest_6 (by decide) (fun c_2 => ?_) (fun c_2 => ?_)
  · have h := h.1 c_2
    refine lv_aload_n hx hb dX7_fewest_16 rfl (lv_at hl 0 rfl) ?_
    have hFc := fr_self hD hS hA
    refine gv_i (va_runV (As := []) (rest := []) ⟨hx, hb, hml, hown, hts⟩ (c_X7_fewestOf l D k a S0 H.size _ h) (cwV 0 hts gX7_fewest_X7_fewestOf rfl rfl rfl (by decide +kernel) ⟨Nat.le_of_ble_eq_true rfl, Nat.le_of_ble_eq_true rfl⟩) (gv_preV hK hnw hP hD (ci := 7) rfl 0 rfl) rfl rfl hl.1 rfl (lv_room (Nat.le_of_ble_eq_true rfl)) dX7_fewest_17 ⟨Nat.zero_le _, Nat.zero_le _⟩) hS hFc (fun r_3 u_4 H locs h hP1 hD1 hk1 hS => ?_)
    have hP := hP1
    have hD := hD1.weaken (fun _ _ _ z => hFc _ z)
    refine lv_istore_n (lv' := [(2, .int r_3), (0, .ref (a 0)), (1, .int x1)]) hx hb dX7_fewest_20 rfl hl (by decide) rfl (fun ls hl => ?_)
    refine lv_iload_n hx hb dX7_fewest_21 rfl (lv_at hl 2 rfl) ?_
    refine lv_if_ne (tgt := 29) hx hb dX7_fewest_22 (by decide) (fun c_5 => ?_) (fun c_5 => ?_)
    · have h := h.1 c_5
      refine lv_aload_n hx hb dX7_fewest_29 rfl (lv_at hl 1 rfl) ?_
      refine va_get (D := D) (ci := 7) (v := .int (u_4.1 26)) (C := RX7) (T := TX7) (N := 33) hx hb hts in_Mo hown hK hP 0 rfl rfl 26 (by decide) ln_202 (fun _ h9 => h9) rfl dX7_fewest_30 ?_
      exact W.iret (v := (u_4.1 26)) hx hb hr (fun t ht hW => ⟨⟨(u_4.1 26), u_4, rfl, h, by rw [ht]; exact hP, va_K.moved hW.alike hK, hD⟩, hS.F ht⟩) hS.2.2 dX7_fewest_33
    · have h := h.2 c_5
      refine lv_iload_n hx hb dX7_fewest_25 rfl (lv_at hl 0 rfl) ?_
      refine lv_goto (tgt := 33) hx hb dX7_fewest_26 (by decide) ?_
      exact W.iret (v := r_3) hx hb hr (fun t ht hW => ⟨⟨r_3, u_4, rfl, h, by rw [ht]; exact hP, va_K.moved hW.alike hK, hD⟩, hS.F ht⟩) hS.2.2 dX7_fewest_33
  · have h := h.2 c_2
    refine lv_aload_n hx hb dX7_fewest_9 rfl (lv_at hl 0 rfl) ?_
    refine lv_bipush (v := (-2 : Int32)) hx hb dX7_fewest_10 (by decide) ?_
    have hFc := fr_self hD hS hA
    refine gv_i (va_runV (As := [.int (-2 : Int32)]) (rest := []) ⟨hx, hb, hml, hown, hts⟩ (c_X7_no l D k a S0 H.size (-2 : Int32) _ h) (cwV 1 hts gX7_fewest_X7_no rfl rfl rfl (by decide +kernel) ⟨Nat.le_of_ble_eq_true rfl, Nat.le_of_ble_eq_true rfl⟩) (gv_preV hK hnw hP hD (ci := 7) rfl 0 rfl) rfl rfl hl.1 rfl (lv_room (Nat.le_of_ble_eq_true rfl)) dX7_fewest_12 ⟨Nat.zero_le _, Nat.zero_le _⟩) hS hFc (fun r_6 u_7 H locs h hP1 hD1 hk1 hS => ?_)
    have hP := hP1
    have hD := hD1.weaken (fun _ _ _ z => hFc _ z)
    exact W.iret (v := r_6) hx hb hr (fun t ht hW => ⟨⟨r_6, u_7, rfl, h, by rw [ht]; exact hP, va_K.moved hW.alike hK, hD⟩, hS.F ht⟩) hS.2.2 dX7_fewest_15
/-! X7_mayBehindOne2 -/
def wp_X7_mayBehindOne2_59 (K8 : St → Int32 → Prop) (x1 : Int32) (x2 : Int32) (Q : Int32 → St → Prop) : Nat → St → Int32 → Int32 → Int32 → Int32 → Prop
  | 0, _, _, _, _, _ => False
  | n + 1, S0, x3, x4, x5, x6 => (((9 : Int32) < x6) → (K8 S0 (x3 + 1))) ∧ ((¬ (9 : Int32) < x6) → (wp_X7_canBy S0 x4 x5 x6 (fun r_10 u_11 => ((¬ r_10 = 0) → (wp_X7_dances u_11 x4 x5 x6 (fun u_14 => wp_X7_mayDance u_14 x1 x2 (fun r_15 u_16 => wp_X7_passesAll u_16 (3 : Int32) (0 : Int32) (fun u_18 => ((r_15 = 0) → (wp_X7_mayBehindOne2_59 K8 x1 x2 Q n u_18 x3 x4 x5 (x6 + 1))) ∧ ((¬ r_15 = 0) → (Q (1 : Int32) u_18))))))) ∧ ((r_10 = 0) → (wp_X7_mayBehindOne2_59 K8 x1 x2 Q n u_11 x3 x4 x5 (x6 + 1))))))
def wp_X7_mayBehindOne2_8 (x1 : Int32) (x2 : Int32) (Q : Int32 → St → Prop) : Nat → St → Int32 → Prop
  | 0, _, _ => False
  | n + 1, S0, x3 => (((64 : Int32) ≤ x3) → (Q (0 : Int32) S0)) ∧ ((¬ (64 : Int32) ≤ x3) → ((((x3 - x3 / (8 : Int32) * (8 : Int32)) ≤ (x3 / (8 : Int32))) → (wp_X7_mayBehindOne2_8 x1 x2 Q n S0 (x3 + 1))) ∧ ((¬ (x3 - x3 / (8 : Int32) * (8 : Int32)) ≤ (x3 / (8 : Int32))) → ((((S0.1 5) ≤ (x3 - x3 / (8 : Int32) * (8 : Int32))) → (wp_X7_mayBehindOne2_8 x1 x2 Q n S0 (x3 + 1))) ∧ ((¬ (S0.1 5) ≤ (x3 - x3 / (8 : Int32) * (8 : Int32))) → (wp_X7_mayDance S0 (x3 / (8 : Int32)) (x3 - x3 / (8 : Int32) * (8 : Int32)) (fun r_6 u_7 => ((¬ r_6 = 0) → (∃ i, wp_X7_mayBehindOne2_59 (fun s0 v0 => wp_X7_mayBehindOne2_8 x1 x2 Q n s0 v0) x1 x2 Q i u_7 x3 (x3 / (8 : Int32)) (x3 - x3 / (8 : Int32) * (8 : Int32)) (0 : Int32))) ∧ ((r_6 = 0) → (wp_X7_mayBehindOne2_8 x1 x2 Q n u_7 (x3 + 1))))))))))
def wp_X7_mayBehindOne2 (S0 : St) (x1 : Int32) (x2 : Int32) (Q : Int32 → St → Prop) : Prop := wp_X7_passesAll S0 (3 : Int32) (1 : Int32) (fun u_2 => ∃ i, wp_X7_mayBehindOne2_8 x1 x2 Q i u_2 (0 : Int32))
abbrev rmX7_mayBehindOne2 : Room := { frames := 4, cells := 0, slots := 0, locals := 96 }
set_option maxRecDepth 100000 in
set_option maxHeartbeats 4000000 in
theorem c_X7_mayBehindOne2 (l : Launch) (D : va_G) (k : Nat → ClassId) (a : Nat → Nat) (S0 : St) (sz : Nat) (x1 : Int32) (x2 : Int32) (Q : Int32 → St → Prop) (h : wp_X7_mayBehindOne2 S0 x1 x2 Q) : Met l yX7_mayBehindOne2 wsX7_mayBehindOne2 rmX7_mayBehindOne2 (cPc D k (wMo k a S0) [.ref (a 0), .int x1, .int x2] sz) (va_Qi (fun (r : Int32) (u : St) => Q r u) (cB D k (va_A (wMo k a S0) sz) (fun u : St => wMo k a u)) (va_A (wMo k a S0) sz)) 0 0 (va_A (wMo k a S0) sz) := by
  refine ct_entry (cc := cX7_mayBehindOne2) (maxL := 8) (ret := (some .boolean)) (Rn := RX7) (Qc := fun A => (va_Qi (fun (r : Int32) (u : St) => Q r u) (cB D k A (fun u : St => wMo k a u)) A)) (by decide) rfl rfl (Nat.le_of_ble_eq_true rfl) ?_
  intro p e s m below meth c hx hb hr hlocks hml hts hown hnw hK A hA H locs hP hD hS ls hl
  have hl : lv_has ls 8 [(0, .ref (a 0)), (1, .int x1), (2, .int x2)] := hl
  have ln_70 := hts (.fieldLink RX7 70 "WithTheSameOneModel" "dancers" "I") (by decide +kernel)
  have in_Mo : ∀ w ∈ wsX70, w ∈ wsX7_mayBehindOne2 := fun _ h => List.mem_cons_of_mem _ (List.mem_append_right _ h)
  have L_59 : ∀ (K8 : St → Int32 → Prop), (∀ (S0 : St) (x3 : Int32), ∀ (H : Heap) (locs : List Loc) (ls : Array Slot), va_P D vwCl (wMo k a S0) H → va_D A (wMo k a S0) → va_S A s.heap H locs → lv_has ls 8 [(0, .ref (a 0)), (1, .int x1), (2, .int x2), (3, .int x3)] → K8 S0 x3 → W p l e rmX7_mayBehindOne2 s m ([.ref (a 0), .int x1, .int x2] : List Value).toArray below meth c H locs 0 0 (MQ below (va_Qi (fun (r : Int32) (u : St) => Q r u) (cB D k A (fun u : St => wMo k a u)) A) ([.ref (a 0), .int x1, .int x2] : List Value).toArray s 0 0 A) (F0 m 8 ls [])) → ∀ (n : Nat), ∀ (S0 : St) (x3 : Int32) (x4 : Int32) (x5 : Int32) (x6 : Int32), ∀ (H : Heap) (locs : List Loc) (ls : Array Slot), va_P D vwCl (wMo k a S0) H → va_D A (wMo k a S0) → va_S A s.heap H locs → lv_has ls 8 [(0, .ref (a 0)), (1, .int x1), (2, .int x2), (3, .int x3), (4, .int x4), (5, .int x5), (6, .int x6)] → wp_X7_mayBehindOne2_59 K8 x1 x2 Q n S0 x3 x4 x5 x6 → W p l e rmX7_mayBehindOne2 s m ([.ref (a 0), .int x1, .int x2] : List Value).toArray below meth c H locs 0 0 (MQ below (va_Qi (fun (r : Int32) (u : St) => Q r u) (cB D k A (fun u : St => wMo k a u)) A) ([.ref (a 0), .int x1, .int x2] : List Value).toArray s 0 0 A) (F0 m 59 ls []) := by
    intro K8 hK8
    intro n
    induction n with
    | zero => intro S0 x3 x4 x5 x6 H locs ls hP hD hS hl h; exact absurd h (by unfold wp_X7_mayBehindOne2_59; exact id)
    | succ n ih =>
      intro S0 x3 x4 x5 x6 H locs ls hP hD hS hl h
      unfold wp_X7_mayBehindOne2_59 at h
      refine lv_iload hx hb dX7_mayBehindOne2_59 (lv_at hl 6 rfl) ?_
      refine lv_bipush (v := (9 : Int32)) hx hb dX7_mayBehindOne2_61 (by decide) ?_
      refine lv_icmp_gt (tgt := 119) hx hb dX7_mayBehindOne2_63 (by decide) (fun c_9 => ?_) (fun c_9 => ?_)
      · have h := h.1 c_9
        refine lv_iinc (v := (x3 + 1)) (lv' := [(3, .int (x3 + 1)), (0, .ref (a 0)), (1, .int x1), (2, .int x2), (4, .int x4), (5, .int x5), (6, .int x6)]) hx hb dX7_mayBehindOne2_119 hl (k := 3) rfl rfl (by decide) rfl (fun ls hl => ?_)
        refine lv_goto (tgt := 8) hx hb dX7_mayBehindOne2_122 (by decide) ?_
        exact hK8 S0 (x3 + 1) H locs ls hP hD hS (lv_sub hl [1, 2, 3, 0] rfl) h
      · have h := h.2 c_9
        refine lv_aload_n hx hb dX7_mayBehindOne2_66 rfl (lv_at hl 0 rfl) ?_
        refine lv_iload hx hb dX7_mayBehindOne2_67 (lv_at hl 4 rfl) ?_
        refine lv_iload hx hb dX7_mayBehindOne2_69 (lv_at hl 5 rfl) ?_
        refine lv_iload hx hb dX7_mayBehindOne2_71 (lv_at hl 6 rfl) ?_
        have hFc := fr_self hD hS hA
        refine gv_i (va_runV (As := [.int x4, .int x5, .int x6]) (rest := []) ⟨hx, hb, hml, hown, hts⟩ (c_X7_canBy l D k a S0 H.size x4 x5 x6 _ h) (cwV 3 hts gX7_mayBehindOne2_X7_canBy rfl rfl rfl (by decide +kernel) ⟨Nat.le_of_ble_eq_true rfl, Nat.le_of_ble_eq_true rfl⟩) (gv_preV hK hnw hP hD (ci := 7) rfl 0 rfl) rfl rfl hl.1 rfl (lv_room (Nat.le_of_ble_eq_true rfl)) dX7_mayBehindOne2_73 ⟨Nat.zero_le _, Nat.zero_le _⟩) hS hFc (fun r_10 u_11 H locs h hP1 hD1 hk1 hS => ?_)
        have hP := hP1
        have hD := hD1.weaken (fun _ _ _ z => hFc _ z)
        refine lv_if_ne (tgt := 82) hx hb dX7_mayBehindOne2_76 (by decide) (fun c_12 => ?_) (fun c_12 => ?_)
        · have h := h.1 c_12
          refine lv_aload_n hx hb dX7_mayBehindOne2_82 rfl (lv_at hl 0 rfl) ?_
          refine lv_iload hx hb dX7_mayBehindOne2_83 (lv_at hl 4 rfl) ?_
          refine lv_iload hx hb dX7_mayBehindOne2_85 (lv_at hl 5 rfl) ?_
          refine lv_iload hx hb dX7_mayBehindOne2_87 (lv_at hl 6 rfl) ?_
          have hFc := fr_self hD hS hA
          refine gv_v (va_runV (As := [.int x4, .int x5, .int x6]) (rest := []) ⟨hx, hb, hml, hown, hts⟩ (c_X7_dances l D k a u_11 H.size x4 x5 x6 _ h) (cwV 3 hts gX7_mayBehindOne2_X7_dances rfl rfl rfl (by decide +kernel) ⟨Nat.le_of_ble_eq_true rfl, Nat.le_of_ble_eq_true rfl⟩) (gv_preV hK hnw hP hD (ci := 7) rfl 0 rfl) rfl rfl hl.1 rfl (lv_room (Nat.le_of_ble_eq_true rfl)) dX7_mayBehindOne2_89 ⟨Nat.zero_le _, Nat.zero_le _⟩) hS hFc (fun u_14 H locs h hP1 hD1 hk1 hS => ?_)
          have hP := hP1
          have hD := hD1.weaken (fun _ _ _ z => hFc _ z)
          refine lv_aload_n hx hb dX7_mayBehindOne2_92 rfl (lv_at hl 0 rfl) ?_
          refine lv_iload_n hx hb dX7_mayBehindOne2_93 rfl (lv_at hl 1 rfl) ?_
          refine lv_iload_n hx hb dX7_mayBehindOne2_94 rfl (lv_at hl 2 rfl) ?_
          have hFc := fr_self hD hS hA
          refine gv_i (va_runV (As := [.int x1, .int x2]) (rest := []) ⟨hx, hb, hml, hown, hts⟩ (c_X7_mayDance l D k a u_14 H.size x1 x2 _ h) (cwV 2 hts gX7_mayBehindOne2_X7_mayDance rfl rfl rfl (by decide +kernel) ⟨Nat.le_of_ble_eq_true rfl, Nat.le_of_ble_eq_true rfl⟩) (gv_preV hK hnw hP hD (ci := 7) rfl 0 rfl) rfl rfl hl.1 rfl (lv_room (Nat.le_of_ble_eq_true rfl)) dX7_mayBehindOne2_95 ⟨Nat.zero_le _, Nat.zero_le _⟩) hS hFc (fun r_15 u_16 H locs h hP1 hD1 hk1 hS => ?_)
          have hP := hP1
          have hD := hD1.weaken (fun _ _ _ z => hFc _ z)
          refine lv_istore (lv' := [(7, .int r_15), (0, .ref (a 0)), (1, .int x1), (2, .int x2), (3, .int x3), (4, .int x4), (5, .int x5), (6, .int x6)]) hx hb dX7_mayBehindOne2_98 hl (by decide) rfl (fun ls hl => ?_)
          refine lv_aload_n hx hb dX7_mayBehindOne2_100 rfl (lv_at hl 1 rfl) ?_
          refine lv_iconst (v := (3 : Int32)) hx hb dX7_mayBehindOne2_101 (by decide) ?_
          refine lv_iconst (v := (0 : Int32)) hx hb dX7_mayBehindOne2_102 (by decide) ?_
          have hFc := fr_self hD hS hA
          refine gv_v (va_runV (As := [.int (3 : Int32), .int (0 : Int32)]) (rest := []) ⟨hx, hb, hml, hown, hts⟩ (c_X7_passesAll l D k a u_16 H.size (3 : Int32) (0 : Int32) _ h) (cwV 2 hts gX7_mayBehindOne2_X7_passesAll rfl rfl rfl (by decide +kernel) ⟨Nat.le_of_ble_eq_true rfl, Nat.le_of_ble_eq_true rfl⟩) (gv_preV hK hnw hP hD (ci := 7) rfl 0 rfl) rfl rfl hl.1 rfl (lv_room (Nat.le_of_ble_eq_true rfl)) dX7_mayBehindOne2_103 ⟨Nat.zero_le _, Nat.zero_le _⟩) hS hFc (fun u_18 H locs h hP1 hD1 hk1 hS => ?_)
          have hP := hP1
          have hD := hD1.weaken (fun _ _ _ z => hFc _ z)
          refine lv_iload hx hb dX7_mayBehindOne2_106 (lv_at hl 0 rfl) ?_
          refine lv_if_eq (tgt := 113) hx hb dX7_mayBehindOne2_108 (by decide) (fun c_19 => ?_) (fun c_19 => ?_)
          · have h := h.1 c_19
            refine lv_iinc (v := (x6 + 1)) (lv' := [(6, .int (x6 + 1)), (7, .int r_15), (0, .ref (a 0)), (1, .int x1), (2, .int x2), (3, .int x3), (4, .int x4), (5, .int x5)]) hx hb dX7_mayBehindOne2_113 hl (k := 7) rfl rfl (by decide) rfl (fun ls hl => ?_)
            refine lv_goto (tgt := 59) hx hb dX7_mayBehindOne2_116 (by decide) ?_
            exact ih u_18 x3 x4 x5 (x6 + 1) H locs ls hP hD hS (lv_sub hl [2, 3, 4, 5, 6, 7, 0] rfl) h
          · have h := h.2 c_19
            refine lv_iconst (v := (1 : Int32)) hx hb dX7_mayBehindOne2_111 (by decide) ?_
            exact W.zret (v := (1 : Int32)) hx hb hr rfl (fun t ht hW => ⟨⟨(1 : Int32), u_18, rfl, h, by rw [ht]; exact hP, va_K.moved hW.alike hK, hD⟩, hS.F ht⟩) hS.2.2 dX7_mayBehindOne2_112
        · have h := h.2 c_12
          refine lv_goto (tgt := 113) hx hb dX7_mayBehindOne2_79 (by decide) ?_
          refine lv_iinc (v := (x6 + 1)) (lv' := [(6, .int (x6 + 1)), (0, .ref (a 0)), (1, .int x1), (2, .int x2), (3, .int x3), (4, .int x4), (5, .int x5)]) hx hb dX7_mayBehindOne2_113 hl (k := 6) rfl rfl (by decide) rfl (fun ls hl => ?_)
          refine lv_goto (tgt := 59) hx hb dX7_mayBehindOne2_116 (by decide) ?_
          exact ih u_11 x3 x4 x5 (x6 + 1) H locs ls hP hD hS (lv_sub hl [1, 2, 3, 4, 5, 6, 0] rfl) h
  have L_8 : ∀ (n : Nat), ∀ (S0 : St) (x3 : Int32), ∀ (H : Heap) (locs : List Loc) (ls : Array Slot), va_P D vwCl (wMo k a S0) H → va_D A (wMo k a S0) → va_S A s.heap H locs → lv_has ls 8 [(0, .ref (a 0)), (1, .int x1), (2, .int x2), (3, .int x3)] → wp_X7_mayBehindOne2_8 x1 x2 Q n S0 x3 → W p l e rmX7_mayBehindOne2 s m ([.ref (a 0), .int x1, .int x2] : List Value).toArray below meth c H locs 0 0 (MQ below (va_Qi (fun (r : Int32) (u : St) => Q r u) (cB D k A (fun u : St => wMo k a u)) A) ([.ref (a 0), .int x1, .int x2] : List Value).toArray s 0 0 A) (F0 m 8 ls []) := by
    intro n
    induction n with
    | zero => intro S0 x3 H locs ls hP hD hS hl h; exact absurd h (by unfold wp_X7_mayBehindOne2_8; exact id)
    | succ n ih =>
      intro S0 x3 H locs ls hP hD hS hl h
      unfold wp_X7_mayBehindOne2_8 at h
      refine lv_iload_n hx hb dX7_mayBehindOne2_8 rfl (lv_at hl 3 rfl) ?_
      refine lv_bipush (v := (64 : Int32)) hx hb dX7_mayBehindOne2_9 (by decide) ?_
      refine lv_icmp_ge (tgt := 125) hx hb dX7_mayBehindOne2_11 (by decide) (fun c_3 => ?_) (fun c_3 => ?_)
      · have h := h.1 c_3
        refine lv_iconst (v := (0 : Int32)) hx hb dX7_mayBehindOne2_125 (by decide) ?_
        exact W.zret (v := (0 : Int32)) hx hb hr rfl (fun t ht hW => ⟨⟨(0 : Int32), S0, rfl, h, by rw [ht]; exact hP, va_K.moved hW.alike hK, hD⟩, hS.F ht⟩) hS.2.2 dX7_mayBehindOne2_126
      · have h := h.2 c_3
        refine lv_iload_n hx hb dX7_mayBehindOne2_14 rfl (lv_at hl 3 rfl) ?_
        refine lv_bipush (v := (8 : Int32)) hx hb dX7_mayBehindOne2_15 (by decide) ?_
        refine lv_idiv hx hb dX7_mayBehindOne2_17 (by decide) ?_
        refine lv_istore (lv' := [(4, .int (x3 / (8 : Int32))), (0, .ref (a 0)), (1, .int x1), (2, .int x2), (3, .int x3)]) hx hb dX7_mayBehindOne2_18 hl (by decide) rfl (fun ls hl => ?_)
        refine lv_iload_n hx hb dX7_mayBehindOne2_20 rfl (lv_at hl 4 rfl) ?_
        refine lv_bipush (v := (8 : Int32)) hx hb dX7_mayBehindOne2_21 (by decide) ?_
        refine lv_irem hx hb dX7_mayBehindOne2_23 (by decide) ?_
        refine lv_istore (lv' := [(5, .int (x3 - x3 / (8 : Int32) * (8 : Int32))), (4, .int (x3 / (8 : Int32))), (0, .ref (a 0)), (1, .int x1), (2, .int x2), (3, .int x3)]) hx hb dX7_mayBehindOne2_24 hl (by decide) rfl (fun ls hl => ?_)
        refine lv_iload hx hb dX7_mayBehindOne2_26 (lv_at hl 1 rfl) ?_
        refine lv_iload hx hb dX7_mayBehindOne2_28 (lv_at hl 0 rfl) ?_
        refine lv_icmp_ge (tgt := 119) hx hb dX7_mayBehindOne2_30 (by decide) (fun c_4 => ?_) (fun c_4 => ?_)
        · have h := h.1 c_4
          refine lv_iinc (v := (x3 + 1)) (lv' := [(3, .int (x3 + 1)), (5, .int (x3 - x3 / (8 : Int32) * (8 : Int32))), (4, .int (x3 / (8 : Int32))), (0, .ref (a 0)), (1, .int x1), (2, .int x2)]) hx hb dX7_mayBehindOne2_119 hl (k := 5) rfl rfl (by decide) rfl (fun ls hl => ?_)
          refine lv_goto (tgt := 8) hx hb dX7_mayBehindOne2_122 (by decide) ?_
          exact ih S0 (x3 + 1) H locs ls hP hD hS (lv_sub hl [3, 4, 5, 0] rfl) h
        · have h := h.2 c_4
          refine lv_iload hx hb dX7_mayBehindOne2_33 (lv_at hl 0 rfl) ?_
          refine lv_aload_n hx hb dX7_mayBehindOne2_35 rfl (lv_at hl 2 rfl) ?_
          refine va_get (D := D) (ci := 7) (v := .int (S0.1 5)) (C := RX7) (T := TX7) (N := 33) hx hb hts in_Mo hown hK hP 0 rfl rfl 5 (by decide) ln_70 (fun _ h9 => h9) rfl dX7_mayBehindOne2_36 ?_
          refine lv_icmp_ge (tgt := 119) hx hb dX7_mayBehindOne2_39 (by decide) (fun c_5 => ?_) (fun c_5 => ?_)
          · have h := h.1 c_5
            refine lv_iinc (v := (x3 + 1)) (lv' := [(3, .int (x3 + 1)), (5, .int (x3 - x3 / (8 : Int32) * (8 : Int32))), (4, .int (x3 / (8 : Int32))), (0, .ref (a 0)), (1, .int x1), (2, .int x2)]) hx hb dX7_mayBehindOne2_119 hl (k := 5) rfl rfl (by decide) rfl (fun ls hl => ?_)
            refine lv_goto (tgt := 8) hx hb dX7_mayBehindOne2_122 (by decide) ?_
            exact ih S0 (x3 + 1) H locs ls hP hD hS (lv_sub hl [3, 4, 5, 0] rfl) h
          · have h := h.2 c_5
            refine lv_aload_n hx hb dX7_mayBehindOne2_42 rfl (lv_at hl 2 rfl) ?_
            refine lv_iload hx hb dX7_mayBehindOne2_43 (lv_at hl 1 rfl) ?_
            refine lv_iload hx hb dX7_mayBehindOne2_45 (lv_at hl 0 rfl) ?_
            have hFc := fr_self hD hS hA
            refine gv_i (va_runV (As := [.int (x3 / (8 : Int32)), .int (x3 - x3 / (8 : Int32) * (8 : Int32))]) (rest := []) ⟨hx, hb, hml, hown, hts⟩ (c_X7_mayDance l D k a S0 H.size (x3 / (8 : Int32)) (x3 - x3 / (8 : Int32) * (8 : Int32)) _ h) (cwV 2 hts gX7_mayBehindOne2_X7_mayDance rfl rfl rfl (by decide +kernel) ⟨Nat.le_of_ble_eq_true rfl, Nat.le_of_ble_eq_true rfl⟩) (gv_preV hK hnw hP hD (ci := 7) rfl 0 rfl) rfl rfl hl.1 rfl (lv_room (Nat.le_of_ble_eq_true rfl)) dX7_mayBehindOne2_47 ⟨Nat.zero_le _, Nat.zero_le _⟩) hS hFc (fun r_6 u_7 H locs h hP1 hD1 hk1 hS => ?_)
            have hP := hP1
            have hD := hD1.weaken (fun _ _ _ z => hFc _ z)
            refine lv_if_ne (tgt := 56) hx hb dX7_mayBehindOne2_50 (by decide) (fun c_8 => ?_) (fun c_8 => ?_)
            · have h := h.1 c_8
              refine lv_iconst (v := (0 : Int32)) hx hb dX7_mayBehindOne2_56 (by decide) ?_
              refine lv_istore (lv' := [(6, .int (0 : Int32)), (5, .int (x3 - x3 / (8 : Int32) * (8 : Int32))), (4, .int (x3 / (8 : Int32))), (0, .ref (a 0)), (1, .int x1), (2, .int x2), (3, .int x3)]) hx hb dX7_mayBehindOne2_57 hl (by decide) rfl (fun ls hl => ?_)
              obtain ⟨n_20, h⟩ := h
              exact L_59 (fun s0 v0 => wp_X7_mayBehindOne2_8 x1 x2 Q n s0 v0) ih n_20 u_7 x3 (x3 / (8 : Int32)) (x3 - x3 / (8 : Int32) * (8 : Int32)) (0 : Int32) H locs ls hP hD hS (lv_sub hl [3, 4, 5, 6, 2, 1, 0] rfl) h
            · have h := h.2 c_8
              refine lv_goto (tgt := 119) hx hb dX7_mayBehindOne2_53 (by decide) ?_
              refine lv_iinc (v := (x3 + 1)) (lv' := [(3, .int (x3 + 1)), (5, .int (x3 - x3 / (8 : Int32) * (8 : Int32))), (4, .int (x3 / (8 : Int32))), (0, .ref (a 0)), (1, .int x1), (2, .int x2)]) hx hb dX7_mayBehindOne2_119 hl (k := 5) rfl rfl (by decide) rfl (fun ls hl => ?_)
              refine lv_goto (tgt := 8) hx hb dX7_mayBehindOne2_122 (by decide) ?_
              exact ih u_7 (x3 + 1) H locs ls hP hD hS (lv_sub hl [3, 4, 5, 0] rfl) h
  unfold wp_X7_mayBehindOne2 at h
  refine lv_aload_n hx hb dX7_mayBehindOne2_0 rfl (lv_at hl 0 rfl) ?_
  refine lv_iconst (v := (3 : Int32)) hx hb dX7_mayBehindOne2_1 (by decide) ?_
  refine lv_iconst (v := (1 : Int32)) hx hb dX7_mayBehindOne2_2 (by decide) ?_
  have hFc := fr_self hD hS hA
  refine gv_v (va_runV (As := [.int (3 : Int32), .int (1 : Int32)]) (rest := []) ⟨hx, hb, hml, hown, hts⟩ (c_X7_passesAll l D k a S0 H.size (3 : Int32) (1 : Int32) _ h) (cwV 2 hts gX7_mayBehindOne2_X7_passesAll rfl rfl rfl (by decide +kernel) ⟨Nat.le_of_ble_eq_true rfl, Nat.le_of_ble_eq_true rfl⟩) (gv_preV hK hnw hP hD (ci := 7) rfl 0 rfl) rfl rfl hl.1 rfl (lv_room (Nat.le_of_ble_eq_true rfl)) dX7_mayBehindOne2_3 ⟨Nat.zero_le _, Nat.zero_le _⟩) hS hFc (fun u_2 H locs h hP1 hD1 hk1 hS => ?_)
  have hP := hP1
  have hD := hD1.weaken (fun _ _ _ z => hFc _ z)
  refine lv_iconst (v := (0 : Int32)) hx hb dX7_mayBehindOne2_6 (by decide) ?_
  refine lv_istore_n (lv' := [(3, .int (0 : Int32)), (0, .ref (a 0)), (1, .int x1), (2, .int x2)]) hx hb dX7_mayBehindOne2_7 rfl hl (by decide) rfl (fun ls hl => ?_)
  obtain ⟨n_21, h⟩ := h
  exact L_8 n_21 u_2 (0 : Int32) H locs ls hP hD hS (lv_sub hl [1, 2, 3, 0] rfl) h
/-! X7_mayBehindOne -/
def wp_X7_mayBehindOne_116 (K63 : St → Int32 → Int32 → Int32 → Int32 → Prop) (K9 : St → Int32 → Prop) (x1 : Int32) (x2 : Int32) (x3 : Int32) (x4 : Int32) (Q : Int32 → St → Prop) (S0 : St) (x5 : Int32) (x6 : Int32) (x7 : Int32) (x8 : Int32) (y0 : Int32) : Prop := wp_X7_passesAll S0 x3 (0 : Int32) (fun u_19 => ((y0 = 0) → (K63 u_19 x5 x6 x7 (x8 + 1))) ∧ ((¬ y0 = 0) → (Q (1 : Int32) u_19)))
def wp_X7_mayBehindOne_63 (K9 : St → Int32 → Prop) (x1 : Int32) (x2 : Int32) (x3 : Int32) (x4 : Int32) (Q : Int32 → St → Prop) : Nat → St → Int32 → Int32 → Int32 → Int32 → Prop
  | 0, _, _, _, _, _ => False
  | n + 1, S0, x5, x6, x7, x8 => (((9 : Int32) < x8) → (K9 S0 (x5 + 1))) ∧ ((¬ (9 : Int32) < x8) → (wp_X7_canBy S0 x6 x7 x8 (fun r_10 u_11 => ((¬ r_10 = 0) → (wp_X7_dances u_11 x6 x7 x8 (fun u_14 => ((x4 = 0) → (wp_X7_mayDance u_14 x1 x2 (fun r_16 u_17 => wp_X7_mayBehindOne_116 (fun s0 v0 v1 v2 v3 => wp_X7_mayBehindOne_63 K9 x1 x2 x3 x4 Q n s0 v0 v1 v2 v3) K9 x1 x2 x3 x4 Q u_17 x5 x6 x7 x8 r_16))) ∧ ((¬ x4 = 0) → (wp_X7_mayBehindOne2 u_14 x1 x2 (fun r_21 u_22 => wp_X7_mayBehindOne_116 (fun s0 v0 v1 v2 v3 => wp_X7_mayBehindOne_63 K9 x1 x2 x3 x4 Q n s0 v0 v1 v2 v3) K9 x1 x2 x3 x4 Q u_22 x5 x6 x7 x8 r_21)))))) ∧ ((r_10 = 0) → (wp_X7_mayBehindOne_63 K9 x1 x2 x3 x4 Q n u_11 x5 x6 x7 (x8 + 1))))))
def wp_X7_mayBehindOne_9 (x1 : Int32) (x2 : Int32) (x3 : Int32) (x4 : Int32) (Q : Int32 → St → Prop) : Nat → St → Int32 → Prop
  | 0, _, _ => False
  | n + 1, S0, x5 => (((64 : Int32) ≤ x5) → (Q (0 : Int32) S0)) ∧ ((¬ (64 : Int32) ≤ x5) → ((((x5 - x5 / (8 : Int32) * (8 : Int32)) ≤ (x5 / (8 : Int32))) → (wp_X7_mayBehindOne_9 x1 x2 x3 x4 Q n S0 (x5 + 1))) ∧ ((¬ (x5 - x5 / (8 : Int32) * (8 : Int32)) ≤ (x5 / (8 : Int32))) → ((((S0.1 5) ≤ (x5 - x5 / (8 : Int32) * (8 : Int32))) → (wp_X7_mayBehindOne_9 x1 x2 x3 x4 Q n S0 (x5 + 1))) ∧ ((¬ (S0.1 5) ≤ (x5 - x5 / (8 : Int32) * (8 : Int32))) → (wp_X7_mayDance S0 (x5 / (8 : Int32)) (x5 - x5 / (8 : Int32) * (8 : Int32)) (fun r_6 u_7 => ((¬ r_6 = 0) → (∃ i, wp_X7_mayBehindOne_63 (fun s0 v0 => wp_X7_mayBehindOne_9 x1 x2 x3 x4 Q n s0 v0) x1 x2 x3 x4 Q i u_7 x5 (x5 / (8 : Int32)) (x5 - x5 / (8 : Int32) * (8 : Int32)) (0 : Int32))) ∧ ((r_6 = 0) → (wp_X7_mayBehindOne_9 x1 x2 x3 x4 Q n u_7 (x5 + 1))))))))))
def wp_X7_mayBehindOne (S0 : St) (x1 : Int32) (x2 : Int32) (x3 : Int32) (x4 : Int32) (Q : Int32 → St → Prop) : Prop := wp_X7_passesAll S0 x3 (1 : Int32) (fun u_2 => ∃ i, wp_X7_mayBehindOne_9 x1 x2 x3 x4 Q i u_2 (0 : Int32))
abbrev rmX7_mayBehindOne : Room := { frames := 5, cells := 0, slots := 0, locals := 123 }
set_option maxRecDepth 100000 in
set_option maxHeartbeats 4000000 in
theorem c_X7_mayBehindOne (l : Launch) (D : va_G) (k : Nat → ClassId) (a : Nat → Nat) (S0 : St) (sz : Nat) (x1 : Int32) (x2 : Int32) (x3 : Int32) (x4 : Int32) (Q : Int32 → St → Prop) (h : wp_X7_mayBehindOne S0 x1 x2 x3 x4 Q) : Met l yX7_mayBehindOne wsX7_mayBehindOne rmX7_mayBehindOne (cPc D k (wMo k a S0) [.ref (a 0), .int x1, .int x2, .int x3, .int x4] sz) (va_Qi (fun (r : Int32) (u : St) => Q r u) (cB D k (va_A (wMo k a S0) sz) (fun u : St => wMo k a u)) (va_A (wMo k a S0) sz)) 0 0 (va_A (wMo k a S0) sz) := by
  refine ct_entry (cc := cX7_mayBehindOne) (maxL := 10) (ret := (some .boolean)) (Rn := RX7) (Qc := fun A => (va_Qi (fun (r : Int32) (u : St) => Q r u) (cB D k A (fun u : St => wMo k a u)) A)) (by decide) rfl rfl (Nat.le_of_ble_eq_true rfl) ?_
  intro p e s m below meth c hx hb hr hlocks hml hts hown hnw hK A hA H locs hP hD hS ls hl
  have hl : lv_has ls 10 [(0, .ref (a 0)), (1, .int x1), (2, .int x2), (3, .int x3), (4, .int x4)] := hl
  have ln_70 := hts (.fieldLink RX7 70 "WithTheSameOneModel" "dancers" "I") (by decide +kernel)
  have in_Mo : ∀ w ∈ wsX70, w ∈ wsX7_mayBehindOne := fun _ h => List.mem_cons_of_mem _ (List.mem_append_right _ h)
  have L_116 : ∀ (K63 : St → Int32 → Int32 → Int32 → Int32 → Prop), (∀ (S0 : St) (x5 : Int32) (x6 : Int32) (x7 : Int32) (x8 : Int32), ∀ (H : Heap) (locs : List Loc) (ls : Array Slot), va_P D vwCl (wMo k a S0) H → va_D A (wMo k a S0) → va_S A s.heap H locs → lv_has ls 10 [(0, .ref (a 0)), (1, .int x1), (2, .int x2), (3, .int x3), (4, .int x4), (5, .int x5), (6, .int x6), (7, .int x7), (8, .int x8)] → K63 S0 x5 x6 x7 x8 → W p l e rmX7_mayBehindOne s m ([.ref (a 0), .int x1, .int x2, .int x3, .int x4] : List Value).toArray below meth c H locs 0 0 (MQ below (va_Qi (fun (r : Int32) (u : St) => Q r u) (cB D k A (fun u : St => wMo k a u)) A) ([.ref (a 0), .int x1, .int x2, .int x3, .int x4] : List Value).toArray s 0 0 A) (F0 m 63 ls [])) → ∀ (K9 : St → Int32 → Prop), (∀ (S0 : St) (x5 : Int32), ∀ (H : Heap) (locs : List Loc) (ls : Array Slot), va_P D vwCl (wMo k a S0) H → va_D A (wMo k a S0) → va_S A s.heap H locs → lv_has ls 10 [(0, .ref (a 0)), (1, .int x1), (2, .int x2), (3, .int x3), (4, .int x4), (5, .int x5)] → K9 S0 x5 → W p l e rmX7_mayBehindOne s m ([.ref (a 0), .int x1, .int x2, .int x3, .int x4] : List Value).toArray below meth c H locs 0 0 (MQ below (va_Qi (fun (r : Int32) (u : St) => Q r u) (cB D k A (fun u : St => wMo k a u)) A) ([.ref (a 0), .int x1, .int x2, .int x3, .int x4] : List Value).toArray s 0 0 A) (F0 m 9 ls [])) → ∀ (S0 : St) (x5 : Int32) (x6 : Int32) (x7 : Int32) (x8 : Int32) (y0 : Int32), ∀ (H : Heap) (locs : List Loc) (ls : Array Slot), va_P D vwCl (wMo k a S0) H → va_D A (wMo k a S0) → va_S A s.heap H locs → lv_has ls 10 [(0, .ref (a 0)), (1, .int x1), (2, .int x2), (3, .int x3), (4, .int x4), (5, .int x5), (6, .int x6), (7, .int x7), (8, .int x8)] → wp_X7_mayBehindOne_116 K63 K9 x1 x2 x3 x4 Q S0 x5 x6 x7 x8 y0 → W p l e rmX7_mayBehindOne s m ([.ref (a 0), .int x1, .int x2, .int x3, .int x4] : List Value).toArray below meth c H locs 0 0 (MQ below (va_Qi (fun (r : Int32) (u : St) => Q r u) (cB D k A (fun u : St => wMo k a u)) A) ([.ref (a 0), .int x1, .int x2, .int x3, .int x4] : List Value).toArray s 0 0 A) (F0 m 116 ls [.int y0]) := by
    intro K63 hK63 K9 hK9 S0 x5 x6 x7 x8 y0 H locs ls hP hD hS hl h
    unfold wp_X7_mayBehindOne_116 at h
    refine lv_istore (lv' := [(9, .int y0), (0, .ref (a 0)), (1, .int x1), (2, .int x2), (3, .int x3), (4, .int x4), (5, .int x5), (6, .int x6), (7, .int x7), (8, .int x8)]) hx hb dX7_mayBehindOne_116 hl (by decide) rfl (fun ls hl => ?_)
    refine lv_aload_n hx hb dX7_mayBehindOne_118 rfl (lv_at hl 1 rfl) ?_
    refine lv_iload_n hx hb dX7_mayBehindOne_119 rfl (lv_at hl 4 rfl) ?_
    refine lv_iconst (v := (0 : Int32)) hx hb dX7_mayBehindOne_120 (by decide) ?_
    have hFc := fr_self hD hS hA
    refine gv_v (va_runV (As := [.int x3, .int (0 : Int32)]) (rest := []) ⟨hx, hb, hml, hown, hts⟩ (c_X7_passesAll l D k a S0 H.size x3 (0 : Int32) _ h) (cwV 2 hts gX7_mayBehindOne_X7_passesAll rfl rfl rfl (by decide +kernel) ⟨Nat.le_of_ble_eq_true rfl, Nat.le_of_ble_eq_true rfl⟩) (gv_preV hK hnw hP hD (ci := 7) rfl 0 rfl) rfl rfl hl.1 rfl (lv_room (Nat.le_of_ble_eq_true rfl)) dX7_mayBehindOne_121 ⟨Nat.zero_le _, Nat.zero_le _⟩) hS hFc (fun u_19 H locs h hP1 hD1 hk1 hS => ?_)
    have hP := hP1
    have hD := hD1.weaken (fun _ _ _ z => hFc _ z)
    refine lv_iload hx hb dX7_mayBehindOne_124 (lv_at hl 0 rfl) ?_
    refine lv_if_eq (tgt := 131) hx hb dX7_mayBehindOne_126 (by decide) (fun c_20 => ?_) (fun c_20 => ?_)
    · have h := h.1 c_20
      refine lv_iinc (v := (x8 + 1)) (lv' := [(8, .int (x8 + 1)), (9, .int y0), (0, .ref (a 0)), (1, .int x1), (2, .int x2), (3, .int x3), (4, .int x4), (5, .int x5), (6, .int x6), (7, .int x7)]) hx hb dX7_mayBehindOne_131 hl (k := 9) rfl rfl (by decide) rfl (fun ls hl => ?_)
      refine lv_goto (tgt := 63) hx hb dX7_mayBehindOne_134 (by decide) ?_
      exact hK63 u_19 x5 x6 x7 (x8 + 1) H locs ls hP hD hS (lv_sub hl [2, 3, 4, 5, 6, 7, 8, 9, 0] rfl) h
    · have h := h.2 c_20
      refine lv_iconst (v := (1 : Int32)) hx hb dX7_mayBehindOne_129 (by decide) ?_
      exact W.zret (v := (1 : Int32)) hx hb hr rfl (fun t ht hW => ⟨⟨(1 : Int32), u_19, rfl, h, by rw [ht]; exact hP, va_K.moved hW.alike hK, hD⟩, hS.F ht⟩) hS.2.2 dX7_mayBehindOne_130
  have L_63 : ∀ (K9 : St → Int32 → Prop), (∀ (S0 : St) (x5 : Int32), ∀ (H : Heap) (locs : List Loc) (ls : Array Slot), va_P D vwCl (wMo k a S0) H → va_D A (wMo k a S0) → va_S A s.heap H locs → lv_has ls 10 [(0, .ref (a 0)), (1, .int x1), (2, .int x2), (3, .int x3), (4, .int x4), (5, .int x5)] → K9 S0 x5 → W p l e rmX7_mayBehindOne s m ([.ref (a 0), .int x1, .int x2, .int x3, .int x4] : List Value).toArray below meth c H locs 0 0 (MQ below (va_Qi (fun (r : Int32) (u : St) => Q r u) (cB D k A (fun u : St => wMo k a u)) A) ([.ref (a 0), .int x1, .int x2, .int x3, .int x4] : List Value).toArray s 0 0 A) (F0 m 9 ls [])) → ∀ (n : Nat), ∀ (S0 : St) (x5 : Int32) (x6 : Int32) (x7 : Int32) (x8 : Int32), ∀ (H : Heap) (locs : List Loc) (ls : Array Slot), va_P D vwCl (wMo k a S0) H → va_D A (wMo k a S0) → va_S A s.heap H locs → lv_has ls 10 [(0, .ref (a 0)), (1, .int x1), (2, .int x2), (3, .int x3), (4, .int x4), (5, .int x5), (6, .int x6), (7, .int x7), (8, .int x8)] → wp_X7_mayBehindOne_63 K9 x1 x2 x3 x4 Q n S0 x5 x6 x7 x8 → W p l e rmX7_mayBehindOne s m ([.ref (a 0), .int x1, .int x2, .int x3, .int x4] : List Value).toArray below meth c H locs 0 0 (MQ below (va_Qi (fun (r : Int32) (u : St) => Q r u) (cB D k A (fun u : St => wMo k a u)) A) ([.ref (a 0), .int x1, .int x2, .int x3, .int x4] : List Value).toArray s 0 0 A) (F0 m 63 ls []) := by
    intro K9 hK9
    intro n
    induction n with
    | zero => intro S0 x5 x6 x7 x8 H locs ls hP hD hS hl h; exact absurd h (by unfold wp_X7_mayBehindOne_63; exact id)
    | succ n ih =>
      intro S0 x5 x6 x7 x8 H locs ls hP hD hS hl h
      unfold wp_X7_mayBehindOne_63 at h
      refine lv_iload hx hb dX7_mayBehindOne_63 (lv_at hl 8 rfl) ?_
      refine lv_bipush (v := (9 : Int32)) hx hb dX7_mayBehindOne_65 (by decide) ?_
      refine lv_icmp_gt (tgt := 137) hx hb dX7_mayBehindOne_67 (by decide) (fun c_9 => ?_) (fun c_9 => ?_)
      · have h := h.1 c_9
        refine lv_iinc (v := (x5 + 1)) (lv' := [(5, .int (x5 + 1)), (0, .ref (a 0)), (1, .int x1), (2, .int x2), (3, .int x3), (4, .int x4), (6, .int x6), (7, .int x7), (8, .int x8)]) hx hb dX7_mayBehindOne_137 hl (k := 5) rfl rfl (by decide) rfl (fun ls hl => ?_)
        refine lv_goto (tgt := 9) hx hb dX7_mayBehindOne_140 (by decide) ?_
        exact hK9 S0 (x5 + 1) H locs ls hP hD hS (lv_sub hl [1, 2, 3, 4, 5, 0] rfl) h
      · have h := h.2 c_9
        refine lv_aload_n hx hb dX7_mayBehindOne_70 rfl (lv_at hl 0 rfl) ?_
        refine lv_iload hx hb dX7_mayBehindOne_71 (lv_at hl 6 rfl) ?_
        refine lv_iload hx hb dX7_mayBehindOne_73 (lv_at hl 7 rfl) ?_
        refine lv_iload hx hb dX7_mayBehindOne_75 (lv_at hl 8 rfl) ?_
        have hFc := fr_self hD hS hA
        refine gv_i (va_runV (As := [.int x6, .int x7, .int x8]) (rest := []) ⟨hx, hb, hml, hown, hts⟩ (c_X7_canBy l D k a S0 H.size x6 x7 x8 _ h) (cwV 3 hts gX7_mayBehindOne_X7_canBy rfl rfl rfl (by decide +kernel) ⟨Nat.le_of_ble_eq_true rfl, Nat.le_of_ble_eq_true rfl⟩) (gv_preV hK hnw hP hD (ci := 7) rfl 0 rfl) rfl rfl hl.1 rfl (lv_room (Nat.le_of_ble_eq_true rfl)) dX7_mayBehindOne_77 ⟨Nat.zero_le _, Nat.zero_le _⟩) hS hFc (fun r_10 u_11 H locs h hP1 hD1 hk1 hS => ?_)
        have hP := hP1
        have hD := hD1.weaken (fun _ _ _ z => hFc _ z)
        refine lv_if_ne (tgt := 86) hx hb dX7_mayBehindOne_80 (by decide) (fun c_12 => ?_) (fun c_12 => ?_)
        · have h := h.1 c_12
          refine lv_aload_n hx hb dX7_mayBehindOne_86 rfl (lv_at hl 0 rfl) ?_
          refine lv_iload hx hb dX7_mayBehindOne_87 (lv_at hl 6 rfl) ?_
          refine lv_iload hx hb dX7_mayBehindOne_89 (lv_at hl 7 rfl) ?_
          refine lv_iload hx hb dX7_mayBehindOne_91 (lv_at hl 8 rfl) ?_
          have hFc := fr_self hD hS hA
          refine gv_v (va_runV (As := [.int x6, .int x7, .int x8]) (rest := []) ⟨hx, hb, hml, hown, hts⟩ (c_X7_dances l D k a u_11 H.size x6 x7 x8 _ h) (cwV 3 hts gX7_mayBehindOne_X7_dances rfl rfl rfl (by decide +kernel) ⟨Nat.le_of_ble_eq_true rfl, Nat.le_of_ble_eq_true rfl⟩) (gv_preV hK hnw hP hD (ci := 7) rfl 0 rfl) rfl rfl hl.1 rfl (lv_room (Nat.le_of_ble_eq_true rfl)) dX7_mayBehindOne_93 ⟨Nat.zero_le _, Nat.zero_le _⟩) hS hFc (fun u_14 H locs h hP1 hD1 hk1 hS => ?_)
          have hP := hP1
          have hD := hD1.weaken (fun _ _ _ z => hFc _ z)
          refine lv_iload hx hb dX7_mayBehindOne_96 (lv_at hl 4 rfl) ?_
          refine lv_if_eq (tgt := 110) hx hb dX7_mayBehindOne_98 (by decide) (fun c_15 => ?_) (fun c_15 => ?_)
          · have h := h.1 c_15
            refine lv_aload_n hx hb dX7_mayBehindOne_110 rfl (lv_at hl 0 rfl) ?_
            refine lv_iload_n hx hb dX7_mayBehindOne_111 rfl (lv_at hl 1 rfl) ?_
            refine lv_iload_n hx hb dX7_mayBehindOne_112 rfl (lv_at hl 2 rfl) ?_
            have hFc := fr_self hD hS hA
            refine gv_i (va_runV (As := [.int x1, .int x2]) (rest := []) ⟨hx, hb, hml, hown, hts⟩ (c_X7_mayDance l D k a u_14 H.size x1 x2 _ h) (cwV 2 hts gX7_mayBehindOne_X7_mayDance rfl rfl rfl (by decide +kernel) ⟨Nat.le_of_ble_eq_true rfl, Nat.le_of_ble_eq_true rfl⟩) (gv_preV hK hnw hP hD (ci := 7) rfl 0 rfl) rfl rfl hl.1 rfl (lv_room (Nat.le_of_ble_eq_true rfl)) dX7_mayBehindOne_113 ⟨Nat.zero_le _, Nat.zero_le _⟩) hS hFc (fun r_16 u_17 H locs h hP1 hD1 hk1 hS => ?_)
            have hP := hP1
            have hD := hD1.weaken (fun _ _ _ z => hFc _ z)
            exact L_116 (fun s0 v0 v1 v2 v3 => wp_X7_mayBehindOne_63 K9 x1 x2 x3 x4 Q n s0 v0 v1 v2 v3) ih K9 hK9 u_17 x5 x6 x7 x8 r_16 H locs ls hP hD hS (lv_sub hl [0, 1, 2, 3, 4, 5, 6, 7, 8] rfl) h
          · have h := h.2 c_15
            refine lv_aload_n hx hb dX7_mayBehindOne_101 rfl (lv_at hl 0 rfl) ?_
            refine lv_iload_n hx hb dX7_mayBehindOne_102 rfl (lv_at hl 1 rfl) ?_
            refine lv_iload_n hx hb dX7_mayBehindOne_103 rfl (lv_at hl 2 rfl) ?_
            have hFc := fr_self hD hS hA
            refine gv_i (va_runV (As := [.int x1, .int x2]) (rest := []) ⟨hx, hb, hml, hown, hts⟩ (c_X7_mayBehindOne2 l D k a u_14 H.size x1 x2 _ h) (cwV 2 hts gX7_mayBehindOne_X7_mayBehindOne2 rfl rfl rfl (by decide +kernel) ⟨Nat.le_of_ble_eq_true rfl, Nat.le_of_ble_eq_true rfl⟩) (gv_preV hK hnw hP hD (ci := 7) rfl 0 rfl) rfl rfl hl.1 rfl (lv_room (Nat.le_of_ble_eq_true rfl)) dX7_mayBehindOne_104 ⟨Nat.zero_le _, Nat.zero_le _⟩) hS hFc (fun r_21 u_22 H locs h hP1 hD1 hk1 hS => ?_)
            have hP := hP1
            have hD := hD1.weaken (fun _ _ _ z => hFc _ z)
            refine lv_goto (tgt := 116) hx hb dX7_mayBehindOne_107 (by decide) ?_
            exact L_116 (fun s0 v0 v1 v2 v3 => wp_X7_mayBehindOne_63 K9 x1 x2 x3 x4 Q n s0 v0 v1 v2 v3) ih K9 hK9 u_22 x5 x6 x7 x8 r_21 H locs ls hP hD hS (lv_sub hl [0, 1, 2, 3, 4, 5, 6, 7, 8] rfl) h
        · have h := h.2 c_12
          refine lv_goto (tgt := 131) hx hb dX7_mayBehindOne_83 (by decide) ?_
          refine lv_iinc (v := (x8 + 1)) (lv' := [(8, .int (x8 + 1)), (0, .ref (a 0)), (1, .int x1), (2, .int x2), (3, .int x3), (4, .int x4), (5, .int x5), (6, .int x6), (7, .int x7)]) hx hb dX7_mayBehindOne_131 hl (k := 8) rfl rfl (by decide) rfl (fun ls hl => ?_)
          refine lv_goto (tgt := 63) hx hb dX7_mayBehindOne_134 (by decide) ?_
          exact ih u_11 x5 x6 x7 (x8 + 1) H locs ls hP hD hS (lv_sub hl [1, 2, 3, 4, 5, 6, 7, 8, 0] rfl) h
  have L_9 : ∀ (n : Nat), ∀ (S0 : St) (x5 : Int32), ∀ (H : Heap) (locs : List Loc) (ls : Array Slot), va_P D vwCl (wMo k a S0) H → va_D A (wMo k a S0) → va_S A s.heap H locs → lv_has ls 10 [(0, .ref (a 0)), (1, .int x1), (2, .int x2), (3, .int x3), (4, .int x4), (5, .int x5)] → wp_X7_mayBehindOne_9 x1 x2 x3 x4 Q n S0 x5 → W p l e rmX7_mayBehindOne s m ([.ref (a 0), .int x1, .int x2, .int x3, .int x4] : List Value).toArray below meth c H locs 0 0 (MQ below (va_Qi (fun (r : Int32) (u : St) => Q r u) (cB D k A (fun u : St => wMo k a u)) A) ([.ref (a 0), .int x1, .int x2, .int x3, .int x4] : List Value).toArray s 0 0 A) (F0 m 9 ls []) := by
    intro n
    induction n with
    | zero => intro S0 x5 H locs ls hP hD hS hl h; exact absurd h (by unfold wp_X7_mayBehindOne_9; exact id)
    | succ n ih =>
      intro S0 x5 H locs ls hP hD hS hl h
      unfold wp_X7_mayBehindOne_9 at h
      refine lv_iload hx hb dX7_mayBehindOne_9 (lv_at hl 5 rfl) ?_
      refine lv_bipush (v := (64 : Int32)) hx hb dX7_mayBehindOne_11 (by decide) ?_
      refine lv_icmp_ge (tgt := 143) hx hb dX7_mayBehindOne_13 (by decide) (fun c_3 => ?_) (fun c_3 => ?_)
      · have h := h.1 c_3
        refine lv_iconst (v := (0 : Int32)) hx hb dX7_mayBehindOne_143 (by decide) ?_
        exact W.zret (v := (0 : Int32)) hx hb hr rfl (fun t ht hW => ⟨⟨(0 : Int32), S0, rfl, h, by rw [ht]; exact hP, va_K.moved hW.alike hK, hD⟩, hS.F ht⟩) hS.2.2 dX7_mayBehindOne_144
      · have h := h.2 c_3
        refine lv_iload hx hb dX7_mayBehindOne_16 (lv_at hl 5 rfl) ?_
        refine lv_bipush (v := (8 : Int32)) hx hb dX7_mayBehindOne_18 (by decide) ?_
        refine lv_idiv hx hb dX7_mayBehindOne_20 (by decide) ?_
        refine lv_istore (lv' := [(6, .int (x5 / (8 : Int32))), (0, .ref (a 0)), (1, .int x1), (2, .int x2), (3, .int x3), (4, .int x4), (5, .int x5)]) hx hb dX7_mayBehindOne_21 hl (by decide) rfl (fun ls hl => ?_)
        refine lv_iload hx hb dX7_mayBehindOne_23 (lv_at hl 6 rfl) ?_
        refine lv_bipush (v := (8 : Int32)) hx hb dX7_mayBehindOne_25 (by decide) ?_
        refine lv_irem hx hb dX7_mayBehindOne_27 (by decide) ?_
        refine lv_istore (lv' := [(7, .int (x5 - x5 / (8 : Int32) * (8 : Int32))), (6, .int (x5 / (8 : Int32))), (0, .ref (a 0)), (1, .int x1), (2, .int x2), (3, .int x3), (4, .int x4), (5, .int x5)]) hx hb dX7_mayBehindOne_28 hl (by decide) rfl (fun ls hl => ?_)
        refine lv_iload hx hb dX7_mayBehindOne_30 (lv_at hl 1 rfl) ?_
        refine lv_iload hx hb dX7_mayBehindOne_32 (lv_at hl 0 rfl) ?_
        refine lv_icmp_ge (tgt := 137) hx hb dX7_mayBehindOne_34 (by decide) (fun c_4 => ?_) (fun c_4 => ?_)
        · have h := h.1 c_4
          refine lv_iinc (v := (x5 + 1)) (lv' := [(5, .int (x5 + 1)), (7, .int (x5 - x5 / (8 : Int32) * (8 : Int32))), (6, .int (x5 / (8 : Int32))), (0, .ref (a 0)), (1, .int x1), (2, .int x2), (3, .int x3), (4, .int x4)]) hx hb dX7_mayBehindOne_137 hl (k := 7) rfl rfl (by decide) rfl (fun ls hl => ?_)
          refine lv_goto (tgt := 9) hx hb dX7_mayBehindOne_140 (by decide) ?_
          exact ih S0 (x5 + 1) H locs ls hP hD hS (lv_sub hl [3, 4, 5, 6, 7, 0] rfl) h
        · have h := h.2 c_4
          refine lv_iload hx hb dX7_mayBehindOne_37 (lv_at hl 0 rfl) ?_
          refine lv_aload_n hx hb dX7_mayBehindOne_39 rfl (lv_at hl 2 rfl) ?_
          refine va_get (D := D) (ci := 7) (v := .int (S0.1 5)) (C := RX7) (T := TX7) (N := 33) hx hb hts in_Mo hown hK hP 0 rfl rfl 5 (by decide) ln_70 (fun _ h9 => h9) rfl dX7_mayBehindOne_40 ?_
          refine lv_icmp_ge (tgt := 137) hx hb dX7_mayBehindOne_43 (by decide) (fun c_5 => ?_) (fun c_5 => ?_)
          · have h := h.1 c_5
            refine lv_iinc (v := (x5 + 1)) (lv' := [(5, .int (x5 + 1)), (7, .int (x5 - x5 / (8 : Int32) * (8 : Int32))), (6, .int (x5 / (8 : Int32))), (0, .ref (a 0)), (1, .int x1), (2, .int x2), (3, .int x3), (4, .int x4)]) hx hb dX7_mayBehindOne_137 hl (k := 7) rfl rfl (by decide) rfl (fun ls hl => ?_)
            refine lv_goto (tgt := 9) hx hb dX7_mayBehindOne_140 (by decide) ?_
            exact ih S0 (x5 + 1) H locs ls hP hD hS (lv_sub hl [3, 4, 5, 6, 7, 0] rfl) h
          · have h := h.2 c_5
            refine lv_aload_n hx hb dX7_mayBehindOne_46 rfl (lv_at hl 2 rfl) ?_
            refine lv_iload hx hb dX7_mayBehindOne_47 (lv_at hl 1 rfl) ?_
            refine lv_iload hx hb dX7_mayBehindOne_49 (lv_at hl 0 rfl) ?_
            have hFc := fr_self hD hS hA
            refine gv_i (va_runV (As := [.int (x5 / (8 : Int32)), .int (x5 - x5 / (8 : Int32) * (8 : Int32))]) (rest := []) ⟨hx, hb, hml, hown, hts⟩ (c_X7_mayDance l D k a S0 H.size (x5 / (8 : Int32)) (x5 - x5 / (8 : Int32) * (8 : Int32)) _ h) (cwV 2 hts gX7_mayBehindOne_X7_mayDance rfl rfl rfl (by decide +kernel) ⟨Nat.le_of_ble_eq_true rfl, Nat.le_of_ble_eq_true rfl⟩) (gv_preV hK hnw hP hD (ci := 7) rfl 0 rfl) rfl rfl hl.1 rfl (lv_room (Nat.le_of_ble_eq_true rfl)) dX7_mayBehindOne_51 ⟨Nat.zero_le _, Nat.zero_le _⟩) hS hFc (fun r_6 u_7 H locs h hP1 hD1 hk1 hS => ?_)
            have hP := hP1
            have hD := hD1.weaken (fun _ _ _ z => hFc _ z)
            refine lv_if_ne (tgt := 60) hx hb dX7_mayBehindOne_54 (by decide) (fun c_8 => ?_) (fun c_8 => ?_)
            · have h := h.1 c_8
              refine lv_iconst (v := (0 : Int32)) hx hb dX7_mayBehindOne_60 (by decide) ?_
              refine lv_istore (lv' := [(8, .int (0 : Int32)), (7, .int (x5 - x5 / (8 : Int32) * (8 : Int32))), (6, .int (x5 / (8 : Int32))), (0, .ref (a 0)), (1, .int x1), (2, .int x2), (3, .int x3), (4, .int x4), (5, .int x5)]) hx hb dX7_mayBehindOne_61 hl (by decide) rfl (fun ls hl => ?_)
              obtain ⟨n_23, h⟩ := h
              exact L_63 (fun s0 v0 => wp_X7_mayBehindOne_9 x1 x2 x3 x4 Q n s0 v0) ih n_23 u_7 x5 (x5 / (8 : Int32)) (x5 - x5 / (8 : Int32) * (8 : Int32)) (0 : Int32) H locs ls hP hD hS (lv_sub hl [3, 4, 5, 6, 7, 8, 2, 1, 0] rfl) h
            · have h := h.2 c_8
              refine lv_goto (tgt := 137) hx hb dX7_mayBehindOne_57 (by decide) ?_
              refine lv_iinc (v := (x5 + 1)) (lv' := [(5, .int (x5 + 1)), (7, .int (x5 - x5 / (8 : Int32) * (8 : Int32))), (6, .int (x5 / (8 : Int32))), (0, .ref (a 0)), (1, .int x1), (2, .int x2), (3, .int x3), (4, .int x4)]) hx hb dX7_mayBehindOne_137 hl (k := 7) rfl rfl (by decide) rfl (fun ls hl => ?_)
              refine lv_goto (tgt := 9) hx hb dX7_mayBehindOne_140 (by decide) ?_
              exact ih u_7 (x5 + 1) H locs ls hP hD hS (lv_sub hl [3, 4, 5, 6, 7, 0] rfl) h
  unfold wp_X7_mayBehindOne at h
  refine lv_aload_n hx hb dX7_mayBehindOne_0 rfl (lv_at hl 0 rfl) ?_
  refine lv_iload_n hx hb dX7_mayBehindOne_1 rfl (lv_at hl 3 rfl) ?_
  refine lv_iconst (v := (1 : Int32)) hx hb dX7_mayBehindOne_2 (by decide) ?_
  have hFc := fr_self hD hS hA
  refine gv_v (va_runV (As := [.int x3, .int (1 : Int32)]) (rest := []) ⟨hx, hb, hml, hown, hts⟩ (c_X7_passesAll l D k a S0 H.size x3 (1 : Int32) _ h) (cwV 2 hts gX7_mayBehindOne_X7_passesAll rfl rfl rfl (by decide +kernel) ⟨Nat.le_of_ble_eq_true rfl, Nat.le_of_ble_eq_true rfl⟩) (gv_preV hK hnw hP hD (ci := 7) rfl 0 rfl) rfl rfl hl.1 rfl (lv_room (Nat.le_of_ble_eq_true rfl)) dX7_mayBehindOne_3 ⟨Nat.zero_le _, Nat.zero_le _⟩) hS hFc (fun u_2 H locs h hP1 hD1 hk1 hS => ?_)
  have hP := hP1
  have hD := hD1.weaken (fun _ _ _ z => hFc _ z)
  refine lv_iconst (v := (0 : Int32)) hx hb dX7_mayBehindOne_6 (by decide) ?_
  refine lv_istore (lv' := [(5, .int (0 : Int32)), (0, .ref (a 0)), (1, .int x1), (2, .int x2), (3, .int x3), (4, .int x4)]) hx hb dX7_mayBehindOne_7 hl (by decide) rfl (fun ls hl => ?_)
  obtain ⟨n_24, h⟩ := h
  exact L_9 n_24 u_2 (0 : Int32) H locs ls hP hD hS (lv_sub hl [1, 2, 3, 4, 5, 0] rfl) h
