abbrev rmX2_init : Room := { frames := 1, cells := 4, slots := 32, locals := 12 }
set_option maxRecDepth 100000 in
set_option maxHeartbeats 8000000 in
theorem c_X2_init (l : Launch) (D : va_G) (k : Nat → ClassId) (h0 : Nat) (sz : Nat) : Met l yX2_init wsX2_init rmX2_init (cPc D k ([(h0, .inr (2, [.int 0, .int 0, .null, .null, .null, .null]))]) [.ref h0] sz) (va_Qv (fun a : Nat → Nat => a 0 = h0) (cB D k (va_A ([(h0, .inr (2, [.int 0, .int 0, .null, .null, .null, .null]))]) sz) (fun a : Nat → Nat => wFl k a z0)) (va_A ([(h0, .inr (2, [.int 0, .int 0, .null, .null, .null, .null]))]) sz)) 4 32 (va_A ([(h0, .inr (2, [.int 0, .int 0, .null, .null, .null, .null]))]) sz) := by
  refine ci_entry (cc := cX2_init) (maxL := 1) (ret := none) (Rn := RX2) (Qc := fun A => (va_Qv (fun a : Nat → Nat => a 0 = h0) (cB D k (A) (fun a : Nat → Nat => wFl k a z0)) (A))) (by decide) rfl rfl (Nat.le_of_ble_eq_true rfl) ?_
  intro p e s m below meth c hx hb hr hlocks hml hts hown hnw hK hin A hA H locs hP hD hS ls hl
  have hl : lv_has ls 1 [(0, .ref h0)] := hl
  have ln_15 := hts (.fieldLink RX2 15 "WithTheSameOne$Floor" "law" "I") (by decide +kernel)
  have ln_18 := hts (.fieldLink RX2 18 "WithTheSameOne$Floor" "kind" "[I") (by decide +kernel)
  have ln_22 := hts (.fieldLink RX2 22 "WithTheSameOne$Floor" "figure" "[I") (by decide +kernel)
  have ln_25 := hts (.fieldLink RX2 25 "WithTheSameOne$Floor" "brought" "[I") (by decide +kernel)
  have ln_28 := hts (.fieldLink RX2 28 "WithTheSameOne$Floor" "partners" "[I") (by decide +kernel)
  have ln_9 := hts (.fieldLink RX2 9 "WithTheSameOne$Floor" "size" "I") (by decide +kernel)
  have in_Fl : ∀ w ∈ wsX20, w ∈ wsX2_init := fun _ h => List.mem_cons_of_mem _ (List.mem_append_right _ h)
  refine lv_aload_n hx hb dX2_init_0 rfl (lv_at hl 0 rfl) ?_
  refine W.objInit hx hb hown (hts (.methodLink RX2 3 objectInit) (by decide +kernel)) (hts (.instanceMethod objectInit) (by decide +kernel)) (hts _ (List.mem_of_getElem? (l := wsX2_init) (i := 3) rfl)) rfl (by rw [hml]; exact hl.1) rfl dX2_init_1 (Nat.le_of_ble_eq_true rfl) (Nat.le_of_ble_eq_true rfl) ?_
  refine W.eq (g2 := F0 m 4 ls []) rfl ?_
  refine lv_aload_n hx hb dX2_init_4 rfl (lv_at hl 0 rfl) ?_
  refine lv_iconst (v := (0 : Int32)) hx hb dX2_init_5 (by decide) ?_
  refine va_put (D := D) (ci := 2) (v := .int (0 : Int32)) (ty := .int) (C := RX2) (T := TX2) (N := 6) hx hb hts in_Fl tyX2 tyX2_ok nmX2 hown hK hP hD hS 0 rfl rfl 0 (by decide) ln_9 (fun _ h9 => h9) rfl (by decide +kernel) rfl rfl (Nat.le_of_ble_eq_true rfl) dX2_init_6 (fun H locs hP hD hS => ?_)
  have hP : va_P D vwCl ([(h0, .inr (2, [.int 0, .int 0, .null, .null, .null, .null]))]) H := hP
  have hD : va_D A ([(h0, .inr (2, [.int 0, .int 0, .null, .null, .null, .null]))]) := hD
  refine lv_aload_n hx hb dX2_init_9 rfl (lv_at hl 0 rfl) ?_
  refine lv_iconst (v := (0 : Int32)) hx hb dX2_init_10 (by decide) ?_
  refine va_put (D := D) (ci := 2) (v := .int (0 : Int32)) (ty := .int) (C := RX2) (T := TX2) (N := 6) hx hb hts in_Fl tyX2 tyX2_ok nmX2 hown hK hP hD hS 0 rfl rfl 1 (by decide) ln_15 (fun _ h9 => h9) rfl (by decide +kernel) rfl rfl (Nat.le_of_ble_eq_true rfl) dX2_init_11 (fun H locs hP hD hS => ?_)
  have hP : va_P D vwCl ([(h0, .inr (2, [.int 0, .int 0, .null, .null, .null, .null]))]) H := hP
  have hD : va_D A ([(h0, .inr (2, [.int 0, .int 0, .null, .null, .null, .null]))]) := hD
  refine lv_aload_n hx hb dX2_init_14 rfl (lv_at hl 0 rfl) ?_
  refine lv_bipush (v := (8 : Int32)) hx hb dX2_init_15 (by decide) ?_
  refine va_newa (atype := .int) hx hb (hts (.arrayClass .int) (by decide +kernel)) (ty := .int) rfl hK hP hD hS hA (n := 8) (N' := 8) (a0 := (8, .inl (fun _ => 0))) (fun cA => rfl) (by decide) rfl (Nat.le_of_ble_eq_true rfl) (Nat.le_of_ble_eq_true rfl) (Nat.le_of_ble_eq_true rfl) dX2_init_17 (fun q1 cA H hK1 hP hD hS => ?_)
  obtain rfl := arr_same hK1
  have hP : va_P D vwCl ([(h0, .inr (2, [.int 0, .int 0, .null, .null, .null, .null]))] ++ ([(q1, .inl (k 0, 8, .inl (fun _ => 0)))])) H := pm_P (by refine pm_iff (fun _ x => ?_); simp only [List.count_append]; try omega) hP
  have hD : va_D A ([(h0, .inr (2, [.int 0, .int 0, .null, .null, .null, .null]))] ++ ([(q1, .inl (k 0, 8, .inl (fun _ => 0)))])) := pm_D (by refine pm_iff (fun _ x => ?_); simp only [List.count_append]; try omega) hD
  refine W.widen (k := 1) (n := 8) (Nat.le_of_ble_eq_true rfl) (Nat.le_of_ble_eq_true rfl) ?_
  refine va_putF (D := D) (ci := 2) (v := .ref q1) (ty := .array .int) (C := RX2) (T := TX2) (N := 6) hx hb hts in_Fl tyX2 tyX2_ok nmX2 hown hK hP hD hS 0 rfl rfl 2 (by decide) ln_18 (fun _ h9 => h9) rfl hin rfl (by decide +kernel) rfl rfl (Nat.le_of_ble_eq_true rfl) dX2_init_19 (fun H locs hP hD hS => ?_)
  have hP : va_P D vwCl ([(h0, .inr (2, [.int 0, .int 0, .ref q1, .null, .null, .null]))] ++ ([(q1, .inl (k 0, 8, .inl (fun _ => 0)))])) H := hP
  have hD : va_D A ([(h0, .inr (2, [.int 0, .int 0, .ref q1, .null, .null, .null]))] ++ ([(q1, .inl (k 0, 8, .inl (fun _ => 0)))])) := hD
  refine lv_aload_n hx hb dX2_init_22 rfl (lv_at hl 0 rfl) ?_
  refine lv_bipush (v := (8 : Int32)) hx hb dX2_init_23 (by decide) ?_
  refine va_newa (atype := .int) hx hb (hts (.arrayClass .int) (by decide +kernel)) (ty := .int) rfl hK hP hD hS hA (n := 8) (N' := 8) (a0 := (8, .inl (fun _ => 0))) (fun cA => rfl) (by decide) rfl (Nat.le_of_ble_eq_true rfl) (Nat.le_of_ble_eq_true rfl) (Nat.le_of_ble_eq_true rfl) dX2_init_25 (fun q2 cA H hK1 hP hD hS => ?_)
  obtain rfl := arr_same hK1
  have hP : va_P D vwCl ([(h0, .inr (2, [.int 0, .int 0, .ref q1, .null, .null, .null]))] ++ ([(q1, .inl (k 0, 8, .inl (fun _ => 0)))] ++ ([(q2, .inl (k 0, 8, .inl (fun _ => 0)))]))) H := pm_P (by refine pm_iff (fun _ x => ?_); simp only [List.count_append]; try omega) hP
  have hD : va_D A ([(h0, .inr (2, [.int 0, .int 0, .ref q1, .null, .null, .null]))] ++ ([(q1, .inl (k 0, 8, .inl (fun _ => 0)))] ++ ([(q2, .inl (k 0, 8, .inl (fun _ => 0)))]))) := pm_D (by refine pm_iff (fun _ x => ?_); simp only [List.count_append]; try omega) hD
  refine W.widen (k := 2) (n := 16) (Nat.le_of_ble_eq_true rfl) (Nat.le_of_ble_eq_true rfl) ?_
  refine va_putF (D := D) (ci := 2) (v := .ref q2) (ty := .array .int) (C := RX2) (T := TX2) (N := 6) hx hb hts in_Fl tyX2 tyX2_ok nmX2 hown hK hP hD hS 0 rfl rfl 3 (by decide) ln_22 (fun _ h9 => h9) rfl hin rfl (by decide +kernel) rfl rfl (Nat.le_of_ble_eq_true rfl) dX2_init_27 (fun H locs hP hD hS => ?_)
  have hP : va_P D vwCl ([(h0, .inr (2, [.int 0, .int 0, .ref q1, .ref q2, .null, .null]))] ++ ([(q1, .inl (k 0, 8, .inl (fun _ => 0)))] ++ ([(q2, .inl (k 0, 8, .inl (fun _ => 0)))]))) H := hP
  have hD : va_D A ([(h0, .inr (2, [.int 0, .int 0, .ref q1, .ref q2, .null, .null]))] ++ ([(q1, .inl (k 0, 8, .inl (fun _ => 0)))] ++ ([(q2, .inl (k 0, 8, .inl (fun _ => 0)))]))) := hD
  refine lv_aload_n hx hb dX2_init_30 rfl (lv_at hl 0 rfl) ?_
  refine lv_bipush (v := (8 : Int32)) hx hb dX2_init_31 (by decide) ?_
  refine va_newa (atype := .int) hx hb (hts (.arrayClass .int) (by decide +kernel)) (ty := .int) rfl hK hP hD hS hA (n := 8) (N' := 8) (a0 := (8, .inl (fun _ => 0))) (fun cA => rfl) (by decide) rfl (Nat.le_of_ble_eq_true rfl) (Nat.le_of_ble_eq_true rfl) (Nat.le_of_ble_eq_true rfl) dX2_init_33 (fun q3 cA H hK1 hP hD hS => ?_)
  obtain rfl := arr_same hK1
  have hP : va_P D vwCl ([(h0, .inr (2, [.int 0, .int 0, .ref q1, .ref q2, .null, .null]))] ++ ([(q1, .inl (k 0, 8, .inl (fun _ => 0)))] ++ ([(q2, .inl (k 0, 8, .inl (fun _ => 0)))] ++ ([(q3, .inl (k 0, 8, .inl (fun _ => 0)))])))) H := pm_P (by refine pm_iff (fun _ x => ?_); simp only [List.count_append]; try omega) hP
  have hD : va_D A ([(h0, .inr (2, [.int 0, .int 0, .ref q1, .ref q2, .null, .null]))] ++ ([(q1, .inl (k 0, 8, .inl (fun _ => 0)))] ++ ([(q2, .inl (k 0, 8, .inl (fun _ => 0)))] ++ ([(q3, .inl (k 0, 8, .inl (fun _ => 0)))])))) := pm_D (by refine pm_iff (fun _ x => ?_); simp only [List.count_append]; try omega) hD
  refine W.widen (k := 3) (n := 24) (Nat.le_of_ble_eq_true rfl) (Nat.le_of_ble_eq_true rfl) ?_
  refine va_putF (D := D) (ci := 2) (v := .ref q3) (ty := .array .int) (C := RX2) (T := TX2) (N := 6) hx hb hts in_Fl tyX2 tyX2_ok nmX2 hown hK hP hD hS 0 rfl rfl 4 (by decide) ln_25 (fun _ h9 => h9) rfl hin rfl (by decide +kernel) rfl rfl (Nat.le_of_ble_eq_true rfl) dX2_init_35 (fun H locs hP hD hS => ?_)
  have hP : va_P D vwCl ([(h0, .inr (2, [.int 0, .int 0, .ref q1, .ref q2, .ref q3, .null]))] ++ ([(q1, .inl (k 0, 8, .inl (fun _ => 0)))] ++ ([(q2, .inl (k 0, 8, .inl (fun _ => 0)))] ++ ([(q3, .inl (k 0, 8, .inl (fun _ => 0)))])))) H := hP
  have hD : va_D A ([(h0, .inr (2, [.int 0, .int 0, .ref q1, .ref q2, .ref q3, .null]))] ++ ([(q1, .inl (k 0, 8, .inl (fun _ => 0)))] ++ ([(q2, .inl (k 0, 8, .inl (fun _ => 0)))] ++ ([(q3, .inl (k 0, 8, .inl (fun _ => 0)))])))) := hD
  refine lv_aload_n hx hb dX2_init_38 rfl (lv_at hl 0 rfl) ?_
  refine lv_bipush (v := (8 : Int32)) hx hb dX2_init_39 (by decide) ?_
  refine va_newa (atype := .int) hx hb (hts (.arrayClass .int) (by decide +kernel)) (ty := .int) rfl hK hP hD hS hA (n := 8) (N' := 8) (a0 := (8, .inl (fun _ => 0))) (fun cA => rfl) (by decide) rfl (Nat.le_of_ble_eq_true rfl) (Nat.le_of_ble_eq_true rfl) (Nat.le_of_ble_eq_true rfl) dX2_init_41 (fun q4 cA H hK1 hP hD hS => ?_)
  obtain rfl := arr_same hK1
  have hP : va_P D vwCl ([(h0, .inr (2, [.int 0, .int 0, .ref q1, .ref q2, .ref q3, .null]))] ++ ([(q1, .inl (k 0, 8, .inl (fun _ => 0)))] ++ ([(q2, .inl (k 0, 8, .inl (fun _ => 0)))] ++ ([(q3, .inl (k 0, 8, .inl (fun _ => 0)))] ++ ([(q4, .inl (k 0, 8, .inl (fun _ => 0)))]))))) H := pm_P (by refine pm_iff (fun _ x => ?_); simp only [List.count_append]; try omega) hP
  have hD : va_D A ([(h0, .inr (2, [.int 0, .int 0, .ref q1, .ref q2, .ref q3, .null]))] ++ ([(q1, .inl (k 0, 8, .inl (fun _ => 0)))] ++ ([(q2, .inl (k 0, 8, .inl (fun _ => 0)))] ++ ([(q3, .inl (k 0, 8, .inl (fun _ => 0)))] ++ ([(q4, .inl (k 0, 8, .inl (fun _ => 0)))]))))) := pm_D (by refine pm_iff (fun _ x => ?_); simp only [List.count_append]; try omega) hD
  refine W.widen (k := 4) (n := 32) (Nat.le_of_ble_eq_true rfl) (Nat.le_of_ble_eq_true rfl) ?_
  refine va_putF (D := D) (ci := 2) (v := .ref q4) (ty := .array .int) (C := RX2) (T := TX2) (N := 6) hx hb hts in_Fl tyX2 tyX2_ok nmX2 hown hK hP hD hS 0 rfl rfl 5 (by decide) ln_28 (fun _ h9 => h9) rfl hin rfl (by decide +kernel) rfl rfl (Nat.le_of_ble_eq_true rfl) dX2_init_43 (fun H locs hP hD hS => ?_)
  have hP : va_P D vwCl ([(h0, .inr (2, [.int 0, .int 0, .ref q1, .ref q2, .ref q3, .ref q4]))] ++ ([(q1, .inl (k 0, 8, .inl (fun _ => 0)))] ++ ([(q2, .inl (k 0, 8, .inl (fun _ => 0)))] ++ ([(q3, .inl (k 0, 8, .inl (fun _ => 0)))] ++ ([(q4, .inl (k 0, 8, .inl (fun _ => 0)))]))))) H := hP
  have hD : va_D A ([(h0, .inr (2, [.int 0, .int 0, .ref q1, .ref q2, .ref q3, .ref q4]))] ++ ([(q1, .inl (k 0, 8, .inl (fun _ => 0)))] ++ ([(q2, .inl (k 0, 8, .inl (fun _ => 0)))] ++ ([(q3, .inl (k 0, 8, .inl (fun _ => 0)))] ++ ([(q4, .inl (k 0, 8, .inl (fun _ => 0)))]))))) := hD
  have hP : va_P D vwCl ([(h0, .inr (2, [.int 0, .int 0, .ref q1, .ref q2, .ref q3, .ref q4]))] ++ ([(q1, .inl (k 0, 8, .inl (fun _ => 0)))] ++ ([(q2, .inl (k 0, 8, .inl (fun _ => 0)))] ++ ([(q3, .inl (k 0, 8, .inl (fun _ => 0)))] ++ ([(q4, .inl (k 0, 8, .inl (fun _ => 0)))]))))) H := pm_P (by refine pm_iff (fun _ x => ?_); simp only [List.count_append]; try omega) hP
  have hD : va_D A ([(h0, .inr (2, [.int 0, .int 0, .ref q1, .ref q2, .ref q3, .ref q4]))] ++ ([(q1, .inl (k 0, 8, .inl (fun _ => 0)))] ++ ([(q2, .inl (k 0, 8, .inl (fun _ => 0)))] ++ ([(q3, .inl (k 0, 8, .inl (fun _ => 0)))] ++ ([(q4, .inl (k 0, 8, .inl (fun _ => 0)))]))))) := pm_D (by refine pm_iff (fun _ x => ?_); simp only [List.count_append]; try omega) hD
  exact W.vret hx hb hr (fun t ht hW => ⟨⟨(fun i => ([h0, q1, q2, q3, q4] : List Nat).getD i 0), rfl, rfl, by rw [ht]; exact hP, va_K.moved hW.alike hK, hD⟩, hS.F ht⟩) hS.2.2 dX2_init_46
