abbrev rmX0_init : Room := { frames := 1, cells := 3, slots := 24, locals := 12 }
set_option maxRecDepth 100000 in
set_option maxHeartbeats 8000000 in
theorem c_X0_init (l : Launch) (D : va_G) (k : Nat → ClassId) (h0 : Nat) (sz : Nat) : Met l yX0_init wsX0_init rmX0_init (cPc D k ([(h0, .inr (0, [.int 0, .int 0, .int 0, .int 0, .null, .null, .null]))]) [.ref h0] sz) (va_Qv (fun a : Nat → Nat => a 0 = h0) (cB D k (va_A ([(h0, .inr (0, [.int 0, .int 0, .int 0, .int 0, .null, .null, .null]))]) sz) (fun a : Nat → Nat => wEn k a z0)) (va_A ([(h0, .inr (0, [.int 0, .int 0, .int 0, .int 0, .null, .null, .null]))]) sz)) 3 24 (va_A ([(h0, .inr (0, [.int 0, .int 0, .int 0, .int 0, .null, .null, .null]))]) sz) := by
  refine ci_entry (cc := cX0_init) (maxL := 1) (ret := none) (Rn := RX0) (Qc := fun A => (va_Qv (fun a : Nat → Nat => a 0 = h0) (cB D k (A) (fun a : Nat → Nat => wEn k a z0)) (A))) (by decide) rfl rfl (Nat.le_of_ble_eq_true rfl) ?_
  intro p e s m below meth c hx hb hr hlocks hml hts hown hnw hK hin A hA H locs hP hD hS ls hl
  have hl : lv_has ls 1 [(0, .ref h0)] := hl
  have ln_15 := hts (.fieldLink RX0 15 "WithTheSameOne$Ending" "law" "I") (by decide +kernel)
  have ln_18 := hts (.fieldLink RX0 18 "WithTheSameOne$Ending" "helpers" "I") (by decide +kernel)
  have ln_21 := hts (.fieldLink RX0 21 "WithTheSameOne$Ending" "rounds" "I") (by decide +kernel)
  have ln_24 := hts (.fieldLink RX0 24 "WithTheSameOne$Ending" "partners" "[I") (by decide +kernel)
  have ln_28 := hts (.fieldLink RX0 28 "WithTheSameOne$Ending" "next" "[I") (by decide +kernel)
  have ln_31 := hts (.fieldLink RX0 31 "WithTheSameOne$Ending" "cousins" "[I") (by decide +kernel)
  have ln_9 := hts (.fieldLink RX0 9 "WithTheSameOne$Ending" "size" "I") (by decide +kernel)
  have in_En : ∀ w ∈ wsX00, w ∈ wsX0_init := fun _ h => List.mem_cons_of_mem _ (List.mem_append_right _ h)
  refine lv_aload_n hx hb dX0_init_0 rfl (lv_at hl 0 rfl) ?_
  refine W.objInit hx hb hown (hts (.methodLink RX0 3 objectInit) (by decide +kernel)) (hts (.instanceMethod objectInit) (by decide +kernel)) (hts _ (List.mem_of_getElem? (l := wsX0_init) (i := 3) rfl)) rfl (by rw [hml]; exact hl.1) rfl dX0_init_1 (Nat.le_of_ble_eq_true rfl) (Nat.le_of_ble_eq_true rfl) ?_
  refine W.eq (g2 := F0 m 4 ls []) rfl ?_
  refine lv_aload_n hx hb dX0_init_4 rfl (lv_at hl 0 rfl) ?_
  refine lv_iconst (v := (0 : Int32)) hx hb dX0_init_5 (by decide) ?_
  refine va_put (D := D) (ci := 0) (v := .int (0 : Int32)) (ty := .int) (C := RX0) (T := TX0) (N := 7) hx hb hts in_En tyX0 tyX0_ok nmX0 hown hK hP hD hS 0 rfl rfl 0 (by decide) ln_9 (fun _ h9 => h9) rfl (by decide +kernel) rfl rfl (Nat.le_of_ble_eq_true rfl) dX0_init_6 (fun H locs hP hD hS => ?_)
  have hP : va_P D vwCl ([(h0, .inr (0, [.int 0, .int 0, .int 0, .int 0, .null, .null, .null]))]) H := hP
  have hD : va_D A ([(h0, .inr (0, [.int 0, .int 0, .int 0, .int 0, .null, .null, .null]))]) := hD
  refine lv_aload_n hx hb dX0_init_9 rfl (lv_at hl 0 rfl) ?_
  refine lv_iconst (v := (0 : Int32)) hx hb dX0_init_10 (by decide) ?_
  refine va_put (D := D) (ci := 0) (v := .int (0 : Int32)) (ty := .int) (C := RX0) (T := TX0) (N := 7) hx hb hts in_En tyX0 tyX0_ok nmX0 hown hK hP hD hS 0 rfl rfl 1 (by decide) ln_15 (fun _ h9 => h9) rfl (by decide +kernel) rfl rfl (Nat.le_of_ble_eq_true rfl) dX0_init_11 (fun H locs hP hD hS => ?_)
  have hP : va_P D vwCl ([(h0, .inr (0, [.int 0, .int 0, .int 0, .int 0, .null, .null, .null]))]) H := hP
  have hD : va_D A ([(h0, .inr (0, [.int 0, .int 0, .int 0, .int 0, .null, .null, .null]))]) := hD
  refine lv_aload_n hx hb dX0_init_14 rfl (lv_at hl 0 rfl) ?_
  refine lv_iconst (v := (0 : Int32)) hx hb dX0_init_15 (by decide) ?_
  refine va_put (D := D) (ci := 0) (v := .int (0 : Int32)) (ty := .int) (C := RX0) (T := TX0) (N := 7) hx hb hts in_En tyX0 tyX0_ok nmX0 hown hK hP hD hS 0 rfl rfl 2 (by decide) ln_18 (fun _ h9 => h9) rfl (by decide +kernel) rfl rfl (Nat.le_of_ble_eq_true rfl) dX0_init_16 (fun H locs hP hD hS => ?_)
  have hP : va_P D vwCl ([(h0, .inr (0, [.int 0, .int 0, .int 0, .int 0, .null, .null, .null]))]) H := hP
  have hD : va_D A ([(h0, .inr (0, [.int 0, .int 0, .int 0, .int 0, .null, .null, .null]))]) := hD
  refine lv_aload_n hx hb dX0_init_19 rfl (lv_at hl 0 rfl) ?_
  refine lv_iconst (v := (0 : Int32)) hx hb dX0_init_20 (by decide) ?_
  refine va_put (D := D) (ci := 0) (v := .int (0 : Int32)) (ty := .int) (C := RX0) (T := TX0) (N := 7) hx hb hts in_En tyX0 tyX0_ok nmX0 hown hK hP hD hS 0 rfl rfl 3 (by decide) ln_21 (fun _ h9 => h9) rfl (by decide +kernel) rfl rfl (Nat.le_of_ble_eq_true rfl) dX0_init_21 (fun H locs hP hD hS => ?_)
  have hP : va_P D vwCl ([(h0, .inr (0, [.int 0, .int 0, .int 0, .int 0, .null, .null, .null]))]) H := hP
  have hD : va_D A ([(h0, .inr (0, [.int 0, .int 0, .int 0, .int 0, .null, .null, .null]))]) := hD
  refine lv_aload_n hx hb dX0_init_24 rfl (lv_at hl 0 rfl) ?_
  refine lv_bipush (v := (8 : Int32)) hx hb dX0_init_25 (by decide) ?_
  refine va_newa (atype := .int) hx hb (hts (.arrayClass .int) (by decide +kernel)) (ty := .int) rfl hK hP hD hS hA (n := 8) (N' := 8) (a0 := (8, .inl (fun _ => 0))) (fun cA => rfl) (by decide) rfl (Nat.le_of_ble_eq_true rfl) (Nat.le_of_ble_eq_true rfl) (Nat.le_of_ble_eq_true rfl) dX0_init_27 (fun q1 cA H hK1 hP hD hS => ?_)
  obtain rfl := arr_same hK1
  have hP : va_P D vwCl ([(h0, .inr (0, [.int 0, .int 0, .int 0, .int 0, .null, .null, .null]))] ++ ([(q1, .inl (k 0, 8, .inl (fun _ => 0)))])) H := pm_P (by refine pm_iff (fun _ x => ?_); simp only [List.count_append]; try omega) hP
  have hD : va_D A ([(h0, .inr (0, [.int 0, .int 0, .int 0, .int 0, .null, .null, .null]))] ++ ([(q1, .inl (k 0, 8, .inl (fun _ => 0)))])) := pm_D (by refine pm_iff (fun _ x => ?_); simp only [List.count_append]; try omega) hD
  refine W.widen (k := 1) (n := 8) (Nat.le_of_ble_eq_true rfl) (Nat.le_of_ble_eq_true rfl) ?_
  refine va_putF (D := D) (ci := 0) (v := .ref q1) (ty := .array .int) (C := RX0) (T := TX0) (N := 7) hx hb hts in_En tyX0 tyX0_ok nmX0 hown hK hP hD hS 0 rfl rfl 4 (by decide) ln_24 (fun _ h9 => h9) rfl hin rfl (by decide +kernel) rfl rfl (Nat.le_of_ble_eq_true rfl) dX0_init_29 (fun H locs hP hD hS => ?_)
  have hP : va_P D vwCl ([(h0, .inr (0, [.int 0, .int 0, .int 0, .int 0, .ref q1, .null, .null]))] ++ ([(q1, .inl (k 0, 8, .inl (fun _ => 0)))])) H := hP
  have hD : va_D A ([(h0, .inr (0, [.int 0, .int 0, .int 0, .int 0, .ref q1, .null, .null]))] ++ ([(q1, .inl (k 0, 8, .inl (fun _ => 0)))])) := hD
  refine lv_aload_n hx hb dX0_init_32 rfl (lv_at hl 0 rfl) ?_
  refine lv_bipush (v := (8 : Int32)) hx hb dX0_init_33 (by decide) ?_
  refine va_newa (atype := .int) hx hb (hts (.arrayClass .int) (by decide +kernel)) (ty := .int) rfl hK hP hD hS hA (n := 8) (N' := 8) (a0 := (8, .inl (fun _ => 0))) (fun cA => rfl) (by decide) rfl (Nat.le_of_ble_eq_true rfl) (Nat.le_of_ble_eq_true rfl) (Nat.le_of_ble_eq_true rfl) dX0_init_35 (fun q2 cA H hK1 hP hD hS => ?_)
  obtain rfl := arr_same hK1
  have hP : va_P D vwCl ([(h0, .inr (0, [.int 0, .int 0, .int 0, .int 0, .ref q1, .null, .null]))] ++ ([(q1, .inl (k 0, 8, .inl (fun _ => 0)))] ++ ([(q2, .inl (k 0, 8, .inl (fun _ => 0)))]))) H := pm_P (by refine pm_iff (fun _ x => ?_); simp only [List.count_append]; try omega) hP
  have hD : va_D A ([(h0, .inr (0, [.int 0, .int 0, .int 0, .int 0, .ref q1, .null, .null]))] ++ ([(q1, .inl (k 0, 8, .inl (fun _ => 0)))] ++ ([(q2, .inl (k 0, 8, .inl (fun _ => 0)))]))) := pm_D (by refine pm_iff (fun _ x => ?_); simp only [List.count_append]; try omega) hD
  refine W.widen (k := 2) (n := 16) (Nat.le_of_ble_eq_true rfl) (Nat.le_of_ble_eq_true rfl) ?_
  refine va_putF (D := D) (ci := 0) (v := .ref q2) (ty := .array .int) (C := RX0) (T := TX0) (N := 7) hx hb hts in_En tyX0 tyX0_ok nmX0 hown hK hP hD hS 0 rfl rfl 5 (by decide) ln_28 (fun _ h9 => h9) rfl hin rfl (by decide +kernel) rfl rfl (Nat.le_of_ble_eq_true rfl) dX0_init_37 (fun H locs hP hD hS => ?_)
  have hP : va_P D vwCl ([(h0, .inr (0, [.int 0, .int 0, .int 0, .int 0, .ref q1, .ref q2, .null]))] ++ ([(q1, .inl (k 0, 8, .inl (fun _ => 0)))] ++ ([(q2, .inl (k 0, 8, .inl (fun _ => 0)))]))) H := hP
  have hD : va_D A ([(h0, .inr (0, [.int 0, .int 0, .int 0, .int 0, .ref q1, .ref q2, .null]))] ++ ([(q1, .inl (k 0, 8, .inl (fun _ => 0)))] ++ ([(q2, .inl (k 0, 8, .inl (fun _ => 0)))]))) := hD
  refine lv_aload_n hx hb dX0_init_40 rfl (lv_at hl 0 rfl) ?_
  refine lv_bipush (v := (8 : Int32)) hx hb dX0_init_41 (by decide) ?_
  refine va_newa (atype := .int) hx hb (hts (.arrayClass .int) (by decide +kernel)) (ty := .int) rfl hK hP hD hS hA (n := 8) (N' := 8) (a0 := (8, .inl (fun _ => 0))) (fun cA => rfl) (by decide) rfl (Nat.le_of_ble_eq_true rfl) (Nat.le_of_ble_eq_true rfl) (Nat.le_of_ble_eq_true rfl) dX0_init_43 (fun q3 cA H hK1 hP hD hS => ?_)
  obtain rfl := arr_same hK1
  have hP : va_P D vwCl ([(h0, .inr (0, [.int 0, .int 0, .int 0, .int 0, .ref q1, .ref q2, .null]))] ++ ([(q1, .inl (k 0, 8, .inl (fun _ => 0)))] ++ ([(q2, .inl (k 0, 8, .inl (fun _ => 0)))] ++ ([(q3, .inl (k 0, 8, .inl (fun _ => 0)))])))) H := pm_P (by refine pm_iff (fun _ x => ?_); simp only [List.count_append]; try omega) hP
  have hD : va_D A ([(h0, .inr (0, [.int 0, .int 0, .int 0, .int 0, .ref q1, .ref q2, .null]))] ++ ([(q1, .inl (k 0, 8, .inl (fun _ => 0)))] ++ ([(q2, .inl (k 0, 8, .inl (fun _ => 0)))] ++ ([(q3, .inl (k 0, 8, .inl (fun _ => 0)))])))) := pm_D (by refine pm_iff (fun _ x => ?_); simp only [List.count_append]; try omega) hD
  refine W.widen (k := 3) (n := 24) (Nat.le_of_ble_eq_true rfl) (Nat.le_of_ble_eq_true rfl) ?_
  refine va_putF (D := D) (ci := 0) (v := .ref q3) (ty := .array .int) (C := RX0) (T := TX0) (N := 7) hx hb hts in_En tyX0 tyX0_ok nmX0 hown hK hP hD hS 0 rfl rfl 6 (by decide) ln_31 (fun _ h9 => h9) rfl hin rfl (by decide +kernel) rfl rfl (Nat.le_of_ble_eq_true rfl) dX0_init_45 (fun H locs hP hD hS => ?_)
  have hP : va_P D vwCl ([(h0, .inr (0, [.int 0, .int 0, .int 0, .int 0, .ref q1, .ref q2, .ref q3]))] ++ ([(q1, .inl (k 0, 8, .inl (fun _ => 0)))] ++ ([(q2, .inl (k 0, 8, .inl (fun _ => 0)))] ++ ([(q3, .inl (k 0, 8, .inl (fun _ => 0)))])))) H := hP
  have hD : va_D A ([(h0, .inr (0, [.int 0, .int 0, .int 0, .int 0, .ref q1, .ref q2, .ref q3]))] ++ ([(q1, .inl (k 0, 8, .inl (fun _ => 0)))] ++ ([(q2, .inl (k 0, 8, .inl (fun _ => 0)))] ++ ([(q3, .inl (k 0, 8, .inl (fun _ => 0)))])))) := hD
  have hP : va_P D vwCl ([(h0, .inr (0, [.int 0, .int 0, .int 0, .int 0, .ref q1, .ref q2, .ref q3]))] ++ ([(q1, .inl (k 0, 8, .inl (fun _ => 0)))] ++ ([(q2, .inl (k 0, 8, .inl (fun _ => 0)))] ++ ([(q3, .inl (k 0, 8, .inl (fun _ => 0)))])))) H := pm_P (by refine pm_iff (fun _ x => ?_); simp only [List.count_append]; try omega) hP
  have hD : va_D A ([(h0, .inr (0, [.int 0, .int 0, .int 0, .int 0, .ref q1, .ref q2, .ref q3]))] ++ ([(q1, .inl (k 0, 8, .inl (fun _ => 0)))] ++ ([(q2, .inl (k 0, 8, .inl (fun _ => 0)))] ++ ([(q3, .inl (k 0, 8, .inl (fun _ => 0)))])))) := pm_D (by refine pm_iff (fun _ x => ?_); simp only [List.count_append]; try omega) hD
  exact W.vret hx hb hr (fun t ht hW => ⟨⟨(fun i => ([h0, q1, q2, q3] : List Nat).getD i 0), rfl, rfl, by rw [ht]; exact hP, va_K.moved hW.alike hK, hD⟩, hS.F ht⟩) hS.2.2 dX0_init_48
