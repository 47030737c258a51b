abbrev rmX4_init : Room := { frames := 2, cells := 6, slots := 102, locals := 32 }
set_option maxRecDepth 100000 in
set_option maxHeartbeats 8000000 in
theorem c_X4_init (l : Launch) (D : va_G) (k : Nat → ClassId) (h0 : Nat) (sz : Nat) : Met l yX4_init wsX4_init rmX4_init (cPc D k ([(h0, .inr (4, [.int 0, .null, .null]))]) [.ref h0] sz) (va_Qv (fun a : Nat → Nat => a 0 = h0) (cB D k (va_A ([(h0, .inr (4, [.int 0, .null, .null]))]) sz) (fun a : Nat → Nat => wLe k a (z0, z0))) (va_A ([(h0, .inr (4, [.int 0, .null, .null]))]) sz)) 6 102 (va_A ([(h0, .inr (4, [.int 0, .null, .null]))]) sz) := by
  refine ci_entry (cc := cX4_init) (maxL := 1) (ret := none) (Rn := RX4) (Qc := fun A => (va_Qv (fun a : Nat → Nat => a 0 = h0) (cB D k (A) (fun a : Nat → Nat => wLe k a (z0, z0))) (A))) (by decide) rfl rfl (Nat.le_of_ble_eq_true rfl) ?_
  intro p e s m below meth c hx hb hr hlocks hml hts hown hnw hK hin A hA H locs hP hD hS ls hl
  have hl : lv_has ls 1 [(0, .ref h0)] := hl
  have ln_15 := hts (.fieldLink RX4 15 "WithTheSameOne$Letters" "text" "[I") (by decide +kernel)
  have ln_22 := hts (.fieldLink RX4 22 "WithTheSameOne$Letters" "mind" "LWithTheSameOne$Floor;") (by decide +kernel)
  have ln_9 := hts (.fieldLink RX4 9 "WithTheSameOne$Letters" "length" "I") (by decide +kernel)
  have in_Le : ∀ w ∈ wsX40, w ∈ wsX4_init := fun _ h => List.mem_cons_of_mem _ (List.mem_append_left _ (List.mem_append_right _ h))
  have in_Fl : ∀ w ∈ wsX20, w ∈ wsX4_init := fun _ h => List.mem_cons_of_mem _ (List.mem_append_right _ h)
  refine lv_aload_n hx hb dX4_init_0 rfl (lv_at hl 0 rfl) ?_
  refine W.objInit hx hb hown (hts (.methodLink RX4 3 objectInit) (by decide +kernel)) (hts (.instanceMethod objectInit) (by decide +kernel)) (hts _ (List.mem_of_getElem? (l := wsX4_init) (i := 3) rfl)) rfl (by rw [hml]; exact hl.1) rfl dX4_init_1 (Nat.le_of_ble_eq_true rfl) (Nat.le_of_ble_eq_true rfl) ?_
  refine W.eq (g2 := F0 m 4 ls []) rfl ?_
  refine lv_aload_n hx hb dX4_init_4 rfl (lv_at hl 0 rfl) ?_
  refine lv_iconst (v := (0 : Int32)) hx hb dX4_init_5 (by decide) ?_
  refine va_put (D := D) (ci := 4) (v := .int (0 : Int32)) (ty := .int) (C := RX4) (T := TX4) (N := 3) hx hb hts in_Le tyX4 tyX4_ok nmX4 hown hK hP hD hS 0 rfl rfl 0 (by decide) ln_9 (fun _ h9 => h9) rfl (by decide +kernel) rfl rfl (Nat.le_of_ble_eq_true rfl) dX4_init_6 (fun H locs hP hD hS => ?_)
  have hP : va_P D vwCl ([(h0, .inr (4, [.int 0, .null, .null]))]) H := hP
  have hD : va_D A ([(h0, .inr (4, [.int 0, .null, .null]))]) := hD
  refine lv_aload_n hx hb dX4_init_9 rfl (lv_at hl 0 rfl) ?_
  refine lv_bipush (v := (64 : Int32)) hx hb dX4_init_10 (by decide) ?_
  refine va_newa (atype := .int) hx hb (hts (.arrayClass .int) (by decide +kernel)) (ty := .int) rfl hK hP hD hS hA (n := 64) (N' := 64) (a0 := (64, .inl (fun _ => 0))) (fun cA => rfl) (by decide) rfl (Nat.le_of_ble_eq_true rfl) (Nat.le_of_ble_eq_true rfl) (Nat.le_of_ble_eq_true rfl) dX4_init_12 (fun q1 cA H hK1 hP hD hS => ?_)
  obtain rfl := arr_same hK1
  have hP : va_P D vwCl ([(h0, .inr (4, [.int 0, .null, .null]))] ++ ([(q1, .inl (k 0, 64, .inl (fun _ => 0)))])) H := pm_P (by refine pm_iff (fun _ x => ?_); simp only [List.count_append]; try omega) hP
  have hD : va_D A ([(h0, .inr (4, [.int 0, .null, .null]))] ++ ([(q1, .inl (k 0, 64, .inl (fun _ => 0)))])) := pm_D (by refine pm_iff (fun _ x => ?_); simp only [List.count_append]; try omega) hD
  refine W.widen (k := 1) (n := 64) (Nat.le_of_ble_eq_true rfl) (Nat.le_of_ble_eq_true rfl) ?_
  refine va_putF (D := D) (ci := 4) (v := .ref q1) (ty := .array .int) (C := RX4) (T := TX4) (N := 3) hx hb hts in_Le tyX4 tyX4_ok nmX4 hown hK hP hD hS 0 rfl rfl 1 (by decide) ln_15 (fun _ h9 => h9) rfl hin rfl (by decide +kernel) rfl rfl (Nat.le_of_ble_eq_true rfl) dX4_init_14 (fun H locs hP hD hS => ?_)
  have hP : va_P D vwCl ([(h0, .inr (4, [.int 0, .ref q1, .null]))] ++ ([(q1, .inl (k 0, 64, .inl (fun _ => 0)))])) H := hP
  have hD : va_D A ([(h0, .inr (4, [.int 0, .ref q1, .null]))] ++ ([(q1, .inl (k 0, 64, .inl (fun _ => 0)))])) := hD
  refine lv_aload_n hx hb dX4_init_17 rfl (lv_at hl 0 rfl) ?_
  refine va_new (ci := 2) (fs := [.int 0, .int 0, .null, .null, .null, .null]) (C := RX2) (T := TX2) (N := 6) hx hb hts in_Fl tyX2 tyX2_ok hown (hts (.classLink RX4 19 RX2) (by decide +kernel)) (hts (.instantiable RX2 6) (by decide +kernel)) (hts (.initialized RX2) (by decide +kernel)) hK hP hD hS hA rfl (fun j hj => by rcases (show j = 0 ∨ j = 1 ∨ j = 2 ∨ j = 3 ∨ j = 4 ∨ j = 5 by omega) with rfl | rfl | rfl | rfl | rfl | rfl <;> rfl) (Nat.le_of_ble_eq_true rfl) (Nat.le_of_ble_eq_true rfl) dX4_init_18 (fun q2 H hP hD hS => ?_)
  have hP : va_P D vwCl ([(h0, .inr (4, [.int 0, .ref q1, .null]))] ++ ([(q1, .inl (k 0, 64, .inl (fun _ => 0)))] ++ ([(q2, .inr (2, [.int 0, .int 0, .null, .null, .null, .null]))]))) H := pm_P (by refine pm_iff (fun _ x => ?_); simp only [List.count_append]; try omega) hP
  have hD : va_D A ([(h0, .inr (4, [.int 0, .ref q1, .null]))] ++ ([(q1, .inl (k 0, 64, .inl (fun _ => 0)))] ++ ([(q2, .inr (2, [.int 0, .int 0, .null, .null, .null, .null]))]))) := pm_D (by refine pm_iff (fun _ x => ?_); simp only [List.count_append]; try omega) hD
  refine W.widen (k := 2) (n := 70) (Nat.le_of_ble_eq_true rfl) (Nat.le_of_ble_eq_true rfl) ?_
  refine lv_dup hx hb dX4_init_21 rfl ?_
  have hq : List.Perm ([(h0, .inr (4, [.int 0, .ref q1, .null]))] ++ ([(q1, .inl (k 0, 64, .inl (fun _ => 0)))] ++ ([(q2, .inr (2, [.int 0, .int 0, .null, .null, .null, .null]))])) : va_W) (([(q2, .inr (2, [.int 0, .int 0, .null, .null, .null, .null]))] : va_W) ++ ([(h0, .inr (4, [.int 0, .ref q1, .null]))] ++ ([(q1, .inl (k 0, 64, .inl (fun _ => 0)))]) : va_W)) := by refine pm_iff (fun _ x => ?_); simp only [List.count_append]; try omega
  have hPc := pf_P hq hP
  have hDc := pf_D hq hD
  have hFc := fr_self hDc hS hA
  refine gi_v (va_runI (As := []) (rest := [.ref q2, .ref h0]) ⟨hx, hb, hml, hown, hts⟩ (c_X2_init l D k q2 H.size) (cwI 0 hts gX4_init_X2_init rfl rfl rfl (hts (.initialized RX2) (by decide +kernel)) (hts (.methodLink RX4 21 yX2_init) (by decide +kernel)) (hts (.instanceMethod yX2_init) (by decide +kernel)) rfl (by decide +kernel) ⟨Nat.le_of_ble_eq_true rfl, Nat.le_of_ble_eq_true rfl⟩) (gv_preS hK hnw hPc hDc) rfl rfl hl.1 rfl (lv_room (Nat.le_of_ble_eq_true rfl)) dX4_init_22 ⟨Nat.le_of_ble_eq_true rfl, Nat.le_of_ble_eq_true rfl⟩) hS hFc (fun a3 H locs h hP1 hD1 hk1 hS => ?_)
  subst h
  obtain ⟨hP, hD⟩ := pf_J hq (ws1 := [(h0, .inr (4, [.int 0, .ref q1, .null]))] ++ ([(q1, .inl (k 0, 64, .inl (fun _ => 0)))] ++ (wFl k a3 z0))) (by refine pm_iff (fun _ x => ?_); simp only [List.count_append]; try omega) hP hD hk1 hFc hP1 hD1
  refine W.widen (k := 6) (n := 102) (Nat.le_of_ble_eq_true rfl) (Nat.le_of_ble_eq_true rfl) ?_
  refine va_putF (D := D) (ci := 4) (v := .ref (a3 0)) (ty := .object "WithTheSameOne$Floor") (C := RX4) (T := TX4) (N := 3) hx hb hts in_Le tyX4 tyX4_ok nmX4 hown hK hP hD hS 0 rfl rfl 2 (by decide) ln_22 (fun _ h9 => h9) rfl hin rfl (by decide +kernel) rfl rfl (Nat.le_of_ble_eq_true rfl) dX4_init_25 (fun H locs hP hD hS => ?_)
  have hP : va_P D vwCl ([(h0, .inr (4, [.int 0, .ref q1, .ref (a3 0)]))] ++ ([(q1, .inl (k 0, 64, .inl (fun _ => 0)))] ++ (wFl k a3 z0))) H := hP
  have hD : va_D A ([(h0, .inr (4, [.int 0, .ref q1, .ref (a3 0)]))] ++ ([(q1, .inl (k 0, 64, .inl (fun _ => 0)))] ++ (wFl k a3 z0))) := hD
  have hP : va_P D vwCl ([(h0, .inr (4, [.int 0, .ref q1, .ref (a3 0)]))] ++ ([(q1, .inl (k 0, 64, .inl (fun _ => 0)))] ++ (wFl k a3 z0))) H := pm_P (by refine pm_iff (fun _ x => ?_); simp only [List.count_append]; try omega) hP
  have hD : va_D A ([(h0, .inr (4, [.int 0, .ref q1, .ref (a3 0)]))] ++ ([(q1, .inl (k 0, 64, .inl (fun _ => 0)))] ++ (wFl k a3 z0))) := pm_D (by refine pm_iff (fun _ x => ?_); simp only [List.count_append]; try omega) hD
  exact W.vret hx hb hr (fun t ht hW => ⟨⟨(fun i => ([h0, q1, a3 0, a3 1, a3 2, a3 3, a3 4] : List Nat).getD i 0), rfl, rfl, by rw [ht]; exact hP, va_K.moved hW.alike hK, hD⟩, hS.F ht⟩) hS.2.2 dX4_init_28
