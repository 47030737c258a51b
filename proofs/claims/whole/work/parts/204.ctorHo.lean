abbrev rmX3_init : Room := { frames := 2, cells := 17, slots := 128, locals := 32 }
set_option maxRecDepth 100000 in
set_option maxHeartbeats 8000000 in
theorem c_X3_init (l : Launch) (D : va_G) (k : Nat → ClassId) (h0 : Nat) (sz : Nat) : Met l yX3_init wsX3_init rmX3_init (cPc D k ([(h0, .inr (3, [.null]))]) [.ref h0] sz) (va_Qv (fun a : Nat → Nat => a 0 = h0) (cB D k (va_A ([(h0, .inr (3, [.null]))]) sz) (fun a : Nat → Nat => wHo k a (fun _ => z0))) (va_A ([(h0, .inr (3, [.null]))]) sz)) 17 128 (va_A ([(h0, .inr (3, [.null]))]) sz) := by
  refine ci_entry (cc := cX3_init) (maxL := 2) (ret := none) (Rn := RX3) (Qc := fun A => (va_Qv (fun a : Nat → Nat => a 0 = h0) (cB D k (A) (fun a : Nat → Nat => wHo k a (fun _ => z0))) (A))) (by decide) rfl rfl (Nat.le_of_ble_eq_true rfl) ?_
  intro p e s m below meth c hx hb hr hlocks hml hts hown hnw hK hin A hA H locs hP hD hS ls hl
  have hl : lv_has ls 2 [(0, .ref h0)] := hl
  have ln_11 := hts (.fieldLink RX3 11 "WithTheSameOne$Hopes" "ends" "[LWithTheSameOne$Ending;") (by decide +kernel)
  have in_Ho : ∀ w ∈ wsX30, w ∈ wsX3_init := fun _ h => List.mem_cons_of_mem _ (List.mem_append_left _ (List.mem_append_right _ h))
  have in_En : ∀ w ∈ wsX00, w ∈ wsX3_init := fun _ h => List.mem_cons_of_mem _ (List.mem_append_right _ h)
  refine lv_aload_n hx hb dX3_init_0 rfl (lv_at hl 0 rfl) ?_
  refine W.objInit hx hb hown (hts (.methodLink RX3 3 objectInit) (by decide +kernel)) (hts (.instanceMethod objectInit) (by decide +kernel)) (hts _ (List.mem_of_getElem? (l := wsX3_init) (i := 3) rfl)) rfl (by rw [hml]; exact hl.1) rfl dX3_init_1 (Nat.le_of_ble_eq_true rfl) (Nat.le_of_ble_eq_true rfl) ?_
  refine W.eq (g2 := F0 m 4 ls []) rfl ?_
  refine lv_aload_n hx hb dX3_init_4 rfl (lv_at hl 0 rfl) ?_
  refine lv_iconst (v := (4 : Int32)) hx hb dX3_init_5 (by decide) ?_
  refine va_newq (C := "WithTheSameOne$Ending") hx hb hown (hts (.classLink RX3 9 RX0) (by decide +kernel)) hnw.2.2 hK hP hD hS hA (n := 4) (N' := 4) (by decide) rfl (Nat.le_of_ble_eq_true rfl) (Nat.le_of_ble_eq_true rfl) (Nat.le_of_ble_eq_true rfl) dX3_init_6 (fun q1 cA H hK1 hP hD hS => ?_)
  obtain rfl := arr_sameEn hK1
  have hP : va_P D vwCl ([(h0, .inr (3, [.null]))] ++ ([(q1, .inl (k 2, 4, .inr (.inr (.inr (.inr (fun _ => none))))))])) H := pm_P (by refine pm_iff (fun _ x => ?_); simp only [List.count_append]; try omega) hP
  have hD : va_D A ([(h0, .inr (3, [.null]))] ++ ([(q1, .inl (k 2, 4, .inr (.inr (.inr (.inr (fun _ => none))))))])) := pm_D (by refine pm_iff (fun _ x => ?_); simp only [List.count_append]; try omega) hD
  refine W.widen (k := 1) (n := 4) (Nat.le_of_ble_eq_true rfl) (Nat.le_of_ble_eq_true rfl) ?_
  refine va_putF (D := D) (ci := 3) (v := .ref q1) (ty := .array (.object "WithTheSameOne$Ending")) (C := RX3) (T := TX3) (N := 1) hx hb hts in_Ho tyX3 tyX3_ok nmX3 hown hK hP hD hS 0 rfl rfl 0 (by decide) ln_11 (fun _ h9 => h9) rfl hin rfl (by decide +kernel) rfl rfl (Nat.le_of_ble_eq_true rfl) dX3_init_9 (fun H locs hP hD hS => ?_)
  have hP : va_P D vwCl ([(h0, .inr (3, [.ref q1]))] ++ ([(q1, .inl (k 2, 4, .inr (.inr (.inr (.inr (fun _ => none))))))])) H := hP
  have hD : va_D A ([(h0, .inr (3, [.ref q1]))] ++ ([(q1, .inl (k 2, 4, .inr (.inr (.inr (.inr (fun _ => none))))))])) := hD
  refine lv_iconst (v := (0 : Int32)) hx hb dX3_init_12 (by decide) ?_
  refine lv_istore_n (lv' := [(1, .int (0 : Int32)), (0, .ref h0)]) hx hb dX3_init_13 rfl hl (by decide) rfl (fun ls hl => ?_)
  refine lv_iload_n hx hb dX3_init_14 rfl (lv_at hl 0 rfl) ?_
  refine lv_iconst (v := (3 : Int32)) hx hb dX3_init_15 (by decide) ?_
  refine lv_icmp_gt (tgt := 38) hx hb dX3_init_16 (by decide) (fun c => absurd c (by decide)) (fun _ => ?_)
  refine lv_aload_n hx hb dX3_init_19 rfl (lv_at hl 1 rfl) ?_
  refine va_get (D := D) (ci := 3) (v := .ref q1) (C := RX3) (T := TX3) (N := 1) hx hb hts in_Ho hown hK hP 0 rfl rfl 0 (by decide) ln_11 (fun _ h9 => h9) rfl dX3_init_20 ?_
  refine lv_iload_n hx hb dX3_init_23 rfl (lv_at hl 0 rfl) ?_
  refine va_new (ci := 0) (fs := [.int 0, .int 0, .int 0, .int 0, .null, .null, .null]) (C := RX0) (T := TX0) (N := 7) hx hb hts in_En tyX0 tyX0_ok hown (hts (.classLink RX3 9 RX0) (by decide +kernel)) (hts (.instantiable RX0 7) (by decide +kernel)) (hts (.initialized RX0) (by decide +kernel)) hK hP hD hS hA rfl (fun j hj => by rcases (show j = 0 ∨ j = 1 ∨ j = 2 ∨ j = 3 ∨ j = 4 ∨ j = 5 ∨ j = 6 by omega) with rfl | rfl | rfl | rfl | rfl | rfl | rfl <;> rfl) (Nat.le_of_ble_eq_true rfl) (Nat.le_of_ble_eq_true rfl) dX3_init_24 (fun q2 H hP hD hS => ?_)
  have hP : va_P D vwCl ([(h0, .inr (3, [.ref q1]))] ++ ([(q1, .inl (k 2, 4, .inr (.inr (.inr (.inr (fun _ => none))))))] ++ ([(q2, .inr (0, [.int 0, .int 0, .int 0, .int 0, .null, .null, .null]))]))) H := pm_P (by refine pm_iff (fun _ x => ?_); simp only [List.count_append]; try omega) hP
  have hD : va_D A ([(h0, .inr (3, [.ref q1]))] ++ ([(q1, .inl (k 2, 4, .inr (.inr (.inr (.inr (fun _ => none))))))] ++ ([(q2, .inr (0, [.int 0, .int 0, .int 0, .int 0, .null, .null, .null]))]))) := pm_D (by refine pm_iff (fun _ x => ?_); simp only [List.count_append]; try omega) hD
  refine W.widen (k := 2) (n := 11) (Nat.le_of_ble_eq_true rfl) (Nat.le_of_ble_eq_true rfl) ?_
  refine lv_dup hx hb dX3_init_27 rfl ?_
  have hq : List.Perm ([(h0, .inr (3, [.ref q1]))] ++ ([(q1, .inl (k 2, 4, .inr (.inr (.inr (.inr (fun _ => none))))))] ++ ([(q2, .inr (0, [.int 0, .int 0, .int 0, .int 0, .null, .null, .null]))])) : va_W) (([(q2, .inr (0, [.int 0, .int 0, .int 0, .int 0, .null, .null, .null]))] : va_W) ++ ([(h0, .inr (3, [.ref q1]))] ++ ([(q1, .inl (k 2, 4, .inr (.inr (.inr (.inr (fun _ => none))))))]) : va_W)) := by refine pm_iff (fun _ x => ?_); simp only [List.count_append]; try omega
  have hPc := pf_P hq hP
  have hDc := pf_D hq hD
  have hFc := fr_self hDc hS hA
  refine gi_v (va_runI (As := []) (rest := [.ref q2, .int (0 : Int32), .ref q1]) ⟨hx, hb, hml, hown, hts⟩ (c_X0_init l D k q2 H.size) (cwI 0 hts gX3_init_X0_init rfl rfl rfl (hts (.initialized RX0) (by decide +kernel)) (hts (.methodLink RX3 17 yX0_init) (by decide +kernel)) (hts (.instanceMethod yX0_init) (by decide +kernel)) rfl (by decide +kernel) ⟨Nat.le_of_ble_eq_true rfl, Nat.le_of_ble_eq_true rfl⟩) (gv_preS hK hnw hPc hDc) rfl rfl hl.1 rfl (lv_room (Nat.le_of_ble_eq_true rfl)) dX3_init_28 ⟨Nat.le_of_ble_eq_true rfl, Nat.le_of_ble_eq_true rfl⟩) hS hFc (fun a3 H locs h hP1 hD1 hk1 hS => ?_)
  subst h
  obtain ⟨hP, hD⟩ := pf_J hq (ws1 := [(h0, .inr (3, [.ref q1]))] ++ ([(q1, .inl (k 2, 4, .inr (.inr (.inr (.inr (fun _ => none))))))] ++ (wEn k a3 z0))) (by refine pm_iff (fun _ x => ?_); simp only [List.count_append]; try omega) hP hD hk1 hFc hP1 hD1
  refine W.widen (k := 5) (n := 35) (Nat.le_of_ble_eq_true rfl) (Nat.le_of_ble_eq_true rfl) ?_
  refine va_astq (r := (RX0, TX0, 7)) hx hb hK hP hD hS 1 2 2 0 rfl rfl rfl rfl (i := (0 : Int32)) (by unfold vp_in; decide) dX3_init_31 (fun H locs hP hD hS => ?_)
  have hP : va_P D vwCl ([(h0, .inr (3, [.ref q1]))] ++ ([(q1, .inl (k 2, 4, .inr (.inr (.inr (.inr (va_up (fun _ => none) 0 (some (a3 0))))))))] ++ (wEn k a3 z0))) H := hP
  have hD : va_D A ([(h0, .inr (3, [.ref q1]))] ++ ([(q1, .inl (k 2, 4, .inr (.inr (.inr (.inr (va_up (fun _ => none) 0 (some (a3 0))))))))] ++ (wEn k a3 z0))) := hD
  refine lv_iinc (v := (1 : Int32)) (lv' := [(1, .int (1 : Int32)), (0, .ref h0)]) hx hb dX3_init_32 hl (k := 0) rfl (by decide) (by decide) rfl (fun ls hl => ?_)
  refine lv_goto (tgt := 14) hx hb dX3_init_35 (by decide) ?_
  refine lv_iload_n hx hb dX3_init_14 rfl (lv_at hl 0 rfl) ?_
  refine lv_iconst (v := (3 : Int32)) hx hb dX3_init_15 (by decide) ?_
  refine lv_icmp_gt (tgt := 38) hx hb dX3_init_16 (by decide) (fun c => absurd c (by decide)) (fun _ => ?_)
  refine lv_aload_n hx hb dX3_init_19 rfl (lv_at hl 1 rfl) ?_
  refine va_get (D := D) (ci := 3) (v := .ref q1) (C := RX3) (T := TX3) (N := 1) hx hb hts in_Ho hown hK hP 0 rfl rfl 0 (by decide) ln_11 (fun _ h9 => h9) rfl dX3_init_20 ?_
  refine lv_iload_n hx hb dX3_init_23 rfl (lv_at hl 0 rfl) ?_
  refine va_new (ci := 0) (fs := [.int 0, .int 0, .int 0, .int 0, .null, .null, .null]) (C := RX0) (T := TX0) (N := 7) hx hb hts in_En tyX0 tyX0_ok hown (hts (.classLink RX3 9 RX0) (by decide +kernel)) (hts (.instantiable RX0 7) (by decide +kernel)) (hts (.initialized RX0) (by decide +kernel)) hK hP hD hS hA rfl (fun j hj => by rcases (show j = 0 ∨ j = 1 ∨ j = 2 ∨ j = 3 ∨ j = 4 ∨ j = 5 ∨ j = 6 by omega) with rfl | rfl | rfl | rfl | rfl | rfl | rfl <;> rfl) (Nat.le_of_ble_eq_true rfl) (Nat.le_of_ble_eq_true rfl) dX3_init_24 (fun q4 H hP hD hS => ?_)
  have hP : va_P D vwCl ([(h0, .inr (3, [.ref q1]))] ++ ([(q1, .inl (k 2, 4, .inr (.inr (.inr (.inr (va_up (fun _ => none) 0 (some (a3 0))))))))] ++ (wEn k a3 z0 ++ ([(q4, .inr (0, [.int 0, .int 0, .int 0, .int 0, .null, .null, .null]))])))) H := pm_P (by refine pm_iff (fun _ x => ?_); simp only [List.count_append]; try omega) hP
  have hD : va_D A ([(h0, .inr (3, [.ref q1]))] ++ ([(q1, .inl (k 2, 4, .inr (.inr (.inr (.inr (va_up (fun _ => none) 0 (some (a3 0))))))))] ++ (wEn k a3 z0 ++ ([(q4, .inr (0, [.int 0, .int 0, .int 0, .int 0, .null, .null, .null]))])))) := pm_D (by refine pm_iff (fun _ x => ?_); simp only [List.count_append]; try omega) hD
  refine W.widen (k := 6) (n := 42) (Nat.le_of_ble_eq_true rfl) (Nat.le_of_ble_eq_true rfl) ?_
  refine lv_dup hx hb dX3_init_27 rfl ?_
  have hq : List.Perm ([(h0, .inr (3, [.ref q1]))] ++ ([(q1, .inl (k 2, 4, .inr (.inr (.inr (.inr (va_up (fun _ => none) 0 (some (a3 0))))))))] ++ (wEn k a3 z0 ++ ([(q4, .inr (0, [.int 0, .int 0, .int 0, .int 0, .null, .null, .null]))]))) : va_W) (([(q4, .inr (0, [.int 0, .int 0, .int 0, .int 0, .null, .null, .null]))] : va_W) ++ ([(h0, .inr (3, [.ref q1]))] ++ ([(q1, .inl (k 2, 4, .inr (.inr (.inr (.inr (va_up (fun _ => none) 0 (some (a3 0))))))))] ++ (wEn k a3 z0)) : va_W)) := by refine pm_iff (fun _ x => ?_); simp only [List.count_append]; try omega
  have hPc := pf_P hq hP
  have hDc := pf_D hq hD
  have hFc := fr_self hDc hS hA
  refine gi_v (va_runI (As := []) (rest := [.ref q4, .int (1 : Int32), .ref q1]) ⟨hx, hb, hml, hown, hts⟩ (c_X0_init l D k q4 H.size) (cwI 0 hts gX3_init_X0_init rfl rfl rfl (hts (.initialized RX0) (by decide +kernel)) (hts (.methodLink RX3 17 yX0_init) (by decide +kernel)) (hts (.instanceMethod yX0_init) (by decide +kernel)) rfl (by decide +kernel) ⟨Nat.le_of_ble_eq_true rfl, Nat.le_of_ble_eq_true rfl⟩) (gv_preS hK hnw hPc hDc) rfl rfl hl.1 rfl (lv_room (Nat.le_of_ble_eq_true rfl)) dX3_init_28 ⟨Nat.le_of_ble_eq_true rfl, Nat.le_of_ble_eq_true rfl⟩) hS hFc (fun a5 H locs h hP1 hD1 hk1 hS => ?_)
  subst h
  obtain ⟨hP, hD⟩ := pf_J hq (ws1 := [(h0, .inr (3, [.ref q1]))] ++ ([(q1, .inl (k 2, 4, .inr (.inr (.inr (.inr (va_up (fun _ => none) 0 (some (a3 0))))))))] ++ (wEn k a3 z0 ++ (wEn k a5 z0)))) (by refine pm_iff (fun _ x => ?_); simp only [List.count_append]; try omega) hP hD hk1 hFc hP1 hD1
  refine W.widen (k := 9) (n := 66) (Nat.le_of_ble_eq_true rfl) (Nat.le_of_ble_eq_true rfl) ?_
  refine va_astq (r := (RX0, TX0, 7)) hx hb hK hP hD hS 1 2 6 0 rfl rfl rfl rfl (i := (1 : Int32)) (by unfold vp_in; decide) dX3_init_31 (fun H locs hP hD hS => ?_)
  have hP : va_P D vwCl ([(h0, .inr (3, [.ref q1]))] ++ ([(q1, .inl (k 2, 4, .inr (.inr (.inr (.inr (va_up (va_up (fun _ => none) 0 (some (a3 0))) 1 (some (a5 0))))))))] ++ (wEn k a3 z0 ++ (wEn k a5 z0)))) H := hP
  have hD : va_D A ([(h0, .inr (3, [.ref q1]))] ++ ([(q1, .inl (k 2, 4, .inr (.inr (.inr (.inr (va_up (va_up (fun _ => none) 0 (some (a3 0))) 1 (some (a5 0))))))))] ++ (wEn k a3 z0 ++ (wEn k a5 z0)))) := hD
  refine lv_iinc (v := (2 : Int32)) (lv' := [(1, .int (2 : Int32)), (0, .ref h0)]) hx hb dX3_init_32 hl (k := 0) rfl (by decide) (by decide) rfl (fun ls hl => ?_)
  refine lv_goto (tgt := 14) hx hb dX3_init_35 (by decide) ?_
  refine lv_iload_n hx hb dX3_init_14 rfl (lv_at hl 0 rfl) ?_
  refine lv_iconst (v := (3 : Int32)) hx hb dX3_init_15 (by decide) ?_
  refine lv_icmp_gt (tgt := 38) hx hb dX3_init_16 (by decide) (fun c => absurd c (by decide)) (fun _ => ?_)
  refine lv_aload_n hx hb dX3_init_19 rfl (lv_at hl 1 rfl) ?_
  refine va_get (D := D) (ci := 3) (v := .ref q1) (C := RX3) (T := TX3) (N := 1) hx hb hts in_Ho hown hK hP 0 rfl rfl 0 (by decide) ln_11 (fun _ h9 => h9) rfl dX3_init_20 ?_
  refine lv_iload_n hx hb dX3_init_23 rfl (lv_at hl 0 rfl) ?_
  refine va_new (ci := 0) (fs := [.int 0, .int 0, .int 0, .int 0, .null, .null, .null]) (C := RX0) (T := TX0) (N := 7) hx hb hts in_En tyX0 tyX0_ok hown (hts (.classLink RX3 9 RX0) (by decide +kernel)) (hts (.instantiable RX0 7) (by decide +kernel)) (hts (.initialized RX0) (by decide +kernel)) hK hP hD hS hA rfl (fun j hj => by rcases (show j = 0 ∨ j = 1 ∨ j = 2 ∨ j = 3 ∨ j = 4 ∨ j = 5 ∨ j = 6 by omega) with rfl | rfl | rfl | rfl | rfl | rfl | rfl <;> rfl) (Nat.le_of_ble_eq_true rfl) (Nat.le_of_ble_eq_true rfl) dX3_init_24 (fun q6 H hP hD hS => ?_)
  have hP : va_P D vwCl ([(h0, .inr (3, [.ref q1]))] ++ ([(q1, .inl (k 2, 4, .inr (.inr (.inr (.inr (va_up (va_up (fun _ => none) 0 (some (a3 0))) 1 (some (a5 0))))))))] ++ (wEn k a3 z0 ++ (wEn k a5 z0 ++ ([(q6, .inr (0, [.int 0, .int 0, .int 0, .int 0, .null, .null, .null]))]))))) H := pm_P (by refine pm_iff (fun _ x => ?_); simp only [List.count_append]; try omega) hP
  have hD : va_D A ([(h0, .inr (3, [.ref q1]))] ++ ([(q1, .inl (k 2, 4, .inr (.inr (.inr (.inr (va_up (va_up (fun _ => none) 0 (some (a3 0))) 1 (some (a5 0))))))))] ++ (wEn k a3 z0 ++ (wEn k a5 z0 ++ ([(q6, .inr (0, [.int 0, .int 0, .int 0, .int 0, .null, .null, .null]))]))))) := pm_D (by refine pm_iff (fun _ x => ?_); simp only [List.count_append]; try omega) hD
  refine W.widen (k := 10) (n := 73) (Nat.le_of_ble_eq_true rfl) (Nat.le_of_ble_eq_true rfl) ?_
  refine lv_dup hx hb dX3_init_27 rfl ?_
  have hq : List.Perm ([(h0, .inr (3, [.ref q1]))] ++ ([(q1, .inl (k 2, 4, .inr (.inr (.inr (.inr (va_up (va_up (fun _ => none) 0 (some (a3 0))) 1 (some (a5 0))))))))] ++ (wEn k a3 z0 ++ (wEn k a5 z0 ++ ([(q6, .inr (0, [.int 0, .int 0, .int 0, .int 0, .null, .null, .null]))])))) : va_W) (([(q6, .inr (0, [.int 0, .int 0, .int 0, .int 0, .null, .null, .null]))] : va_W) ++ ([(h0, .inr (3, [.ref q1]))] ++ ([(q1, .inl (k 2, 4, .inr (.inr (.inr (.inr (va_up (va_up (fun _ => none) 0 (some (a3 0))) 1 (some (a5 0))))))))] ++ (wEn k a3 z0 ++ (wEn k a5 z0))) : va_W)) := by refine pm_iff (fun _ x => ?_); simp only [List.count_append]; try omega
  have hPc := pf_P hq hP
  have hDc := pf_D hq hD
  have hFc := fr_self hDc hS hA
  refine gi_v (va_runI (As := []) (rest := [.ref q6, .int (2 : Int32), .ref q1]) ⟨hx, hb, hml, hown, hts⟩ (c_X0_init l D k q6 H.size) (cwI 0 hts gX3_init_X0_init rfl rfl rfl (hts (.initialized RX0) (by decide +kernel)) (hts (.methodLink RX3 17 yX0_init) (by decide +kernel)) (hts (.instanceMethod yX0_init) (by decide +kernel)) rfl (by decide +kernel) ⟨Nat.le_of_ble_eq_true rfl, Nat.le_of_ble_eq_true rfl⟩) (gv_preS hK hnw hPc hDc) rfl rfl hl.1 rfl (lv_room (Nat.le_of_ble_eq_true rfl)) dX3_init_28 ⟨Nat.le_of_ble_eq_true rfl, Nat.le_of_ble_eq_true rfl⟩) hS hFc (fun a7 H locs h hP1 hD1 hk1 hS => ?_)
  subst h
  obtain ⟨hP, hD⟩ := pf_J hq (ws1 := [(h0, .inr (3, [.ref q1]))] ++ ([(q1, .inl (k 2, 4, .inr (.inr (.inr (.inr (va_up (va_up (fun _ => none) 0 (some (a3 0))) 1 (some (a5 0))))))))] ++ (wEn k a3 z0 ++ (wEn k a5 z0 ++ (wEn k a7 z0))))) (by refine pm_iff (fun _ x => ?_); simp only [List.count_append]; try omega) hP hD hk1 hFc hP1 hD1
  refine W.widen (k := 13) (n := 97) (Nat.le_of_ble_eq_true rfl) (Nat.le_of_ble_eq_true rfl) ?_
  refine va_astq (r := (RX0, TX0, 7)) hx hb hK hP hD hS 1 2 10 0 rfl rfl rfl rfl (i := (2 : Int32)) (by unfold vp_in; decide) dX3_init_31 (fun H locs hP hD hS => ?_)
  have hP : va_P D vwCl ([(h0, .inr (3, [.ref q1]))] ++ ([(q1, .inl (k 2, 4, .inr (.inr (.inr (.inr (va_up (va_up (va_up (fun _ => none) 0 (some (a3 0))) 1 (some (a5 0))) 2 (some (a7 0))))))))] ++ (wEn k a3 z0 ++ (wEn k a5 z0 ++ (wEn k a7 z0))))) H := hP
  have hD : va_D A ([(h0, .inr (3, [.ref q1]))] ++ ([(q1, .inl (k 2, 4, .inr (.inr (.inr (.inr (va_up (va_up (va_up (fun _ => none) 0 (some (a3 0))) 1 (some (a5 0))) 2 (some (a7 0))))))))] ++ (wEn k a3 z0 ++ (wEn k a5 z0 ++ (wEn k a7 z0))))) := hD
  refine lv_iinc (v := (3 : Int32)) (lv' := [(1, .int (3 : Int32)), (0, .ref h0)]) hx hb dX3_init_32 hl (k := 0) rfl (by decide) (by decide) rfl (fun ls hl => ?_)
  refine lv_goto (tgt := 14) hx hb dX3_init_35 (by decide) ?_
  refine lv_iload_n hx hb dX3_init_14 rfl (lv_at hl 0 rfl) ?_
  refine lv_iconst (v := (3 : Int32)) hx hb dX3_init_15 (by decide) ?_
  refine lv_icmp_gt (tgt := 38) hx hb dX3_init_16 (by decide) (fun c => absurd c (by decide)) (fun _ => ?_)
  refine lv_aload_n hx hb dX3_init_19 rfl (lv_at hl 1 rfl) ?_
  refine va_get (D := D) (ci := 3) (v := .ref q1) (C := RX3) (T := TX3) (N := 1) hx hb hts in_Ho hown hK hP 0 rfl rfl 0 (by decide) ln_11 (fun _ h9 => h9) rfl dX3_init_20 ?_
  refine lv_iload_n hx hb dX3_init_23 rfl (lv_at hl 0 rfl) ?_
  refine va_new (ci := 0) (fs := [.int 0, .int 0, .int 0, .int 0, .null, .null, .null]) (C := RX0) (T := TX0) (N := 7) hx hb hts in_En tyX0 tyX0_ok hown (hts (.classLink RX3 9 RX0) (by decide +kernel)) (hts (.instantiable RX0 7) (by decide +kernel)) (hts (.initialized RX0) (by decide +kernel)) hK hP hD hS hA rfl (fun j hj => by rcases (show j = 0 ∨ j = 1 ∨ j = 2 ∨ j = 3 ∨ j = 4 ∨ j = 5 ∨ j = 6 by omega) with rfl | rfl | rfl | rfl | rfl | rfl | rfl <;> rfl) (Nat.le_of_ble_eq_true rfl) (Nat.le_of_ble_eq_true rfl) dX3_init_24 (fun q8 H hP hD hS => ?_)
  have hP : va_P D vwCl ([(h0, .inr (3, [.ref q1]))] ++ ([(q1, .inl (k 2, 4, .inr (.inr (.inr (.inr (va_up (va_up (va_up (fun _ => none) 0 (some (a3 0))) 1 (some (a5 0))) 2 (some (a7 0))))))))] ++ (wEn k a3 z0 ++ (wEn k a5 z0 ++ (wEn k a7 z0 ++ ([(q8, .inr (0, [.int 0, .int 0, .int 0, .int 0, .null, .null, .null]))])))))) H := pm_P (by refine pm_iff (fun _ x => ?_); simp only [List.count_append]; try omega) hP
  have hD : va_D A ([(h0, .inr (3, [.ref q1]))] ++ ([(q1, .inl (k 2, 4, .inr (.inr (.inr (.inr (va_up (va_up (va_up (fun _ => none) 0 (some (a3 0))) 1 (some (a5 0))) 2 (some (a7 0))))))))] ++ (wEn k a3 z0 ++ (wEn k a5 z0 ++ (wEn k a7 z0 ++ ([(q8, .inr (0, [.int 0, .int 0, .int 0, .int 0, .null, .null, .null]))])))))) := pm_D (by refine pm_iff (fun _ x => ?_); simp only [List.count_append]; try omega) hD
  refine W.widen (k := 14) (n := 104) (Nat.le_of_ble_eq_true rfl) (Nat.le_of_ble_eq_true rfl) ?_
  refine lv_dup hx hb dX3_init_27 rfl ?_
  have hq : List.Perm ([(h0, .inr (3, [.ref q1]))] ++ ([(q1, .inl (k 2, 4, .inr (.inr (.inr (.inr (va_up (va_up (va_up (fun _ => none) 0 (some (a3 0))) 1 (some (a5 0))) 2 (some (a7 0))))))))] ++ (wEn k a3 z0 ++ (wEn k a5 z0 ++ (wEn k a7 z0 ++ ([(q8, .inr (0, [.int 0, .int 0, .int 0, .int 0, .null, .null, .null]))]))))) : va_W) (([(q8, .inr (0, [.int 0, .int 0, .int 0, .int 0, .null, .null, .null]))] : va_W) ++ ([(h0, .inr (3, [.ref q1]))] ++ ([(q1, .inl (k 2, 4, .inr (.inr (.inr (.inr (va_up (va_up (va_up (fun _ => none) 0 (some (a3 0))) 1 (some (a5 0))) 2 (some (a7 0))))))))] ++ (wEn k a3 z0 ++ (wEn k a5 z0 ++ (wEn k a7 z0)))) : va_W)) := by refine pm_iff (fun _ x => ?_); simp only [List.count_append]; try omega
  have hPc := pf_P hq hP
  have hDc := pf_D hq hD
  have hFc := fr_self hDc hS hA
  refine gi_v (va_runI (As := []) (rest := [.ref q8, .int (3 : Int32), .ref q1]) ⟨hx, hb, hml, hown, hts⟩ (c_X0_init l D k q8 H.size) (cwI 0 hts gX3_init_X0_init rfl rfl rfl (hts (.initialized RX0) (by decide +kernel)) (hts (.methodLink RX3 17 yX0_init) (by decide +kernel)) (hts (.instanceMethod yX0_init) (by decide +kernel)) rfl (by decide +kernel) ⟨Nat.le_of_ble_eq_true rfl, Nat.le_of_ble_eq_true rfl⟩) (gv_preS hK hnw hPc hDc) rfl rfl hl.1 rfl (lv_room (Nat.le_of_ble_eq_true rfl)) dX3_init_28 ⟨Nat.le_of_ble_eq_true rfl, Nat.le_of_ble_eq_true rfl⟩) hS hFc (fun a9 H locs h hP1 hD1 hk1 hS => ?_)
  subst h
  obtain ⟨hP, hD⟩ := pf_J hq (ws1 := [(h0, .inr (3, [.ref q1]))] ++ ([(q1, .inl (k 2, 4, .inr (.inr (.inr (.inr (va_up (va_up (va_up (fun _ => none) 0 (some (a3 0))) 1 (some (a5 0))) 2 (some (a7 0))))))))] ++ (wEn k a3 z0 ++ (wEn k a5 z0 ++ (wEn k a7 z0 ++ (wEn k a9 z0)))))) (by refine pm_iff (fun _ x => ?_); simp only [List.count_append]; try omega) hP hD hk1 hFc hP1 hD1
  refine W.widen (k := 17) (n := 128) (Nat.le_of_ble_eq_true rfl) (Nat.le_of_ble_eq_true rfl) ?_
  refine va_astq (r := (RX0, TX0, 7)) hx hb hK hP hD hS 1 2 14 0 rfl rfl rfl rfl (i := (3 : Int32)) (by unfold vp_in; decide) dX3_init_31 (fun H locs hP hD hS => ?_)
  have hP : va_P D vwCl ([(h0, .inr (3, [.ref q1]))] ++ ([(q1, .inl (k 2, 4, .inr (.inr (.inr (.inr (va_up (va_up (va_up (va_up (fun _ => none) 0 (some (a3 0))) 1 (some (a5 0))) 2 (some (a7 0))) 3 (some (a9 0))))))))] ++ (wEn k a3 z0 ++ (wEn k a5 z0 ++ (wEn k a7 z0 ++ (wEn k a9 z0)))))) H := hP
  have hD : va_D A ([(h0, .inr (3, [.ref q1]))] ++ ([(q1, .inl (k 2, 4, .inr (.inr (.inr (.inr (va_up (va_up (va_up (va_up (fun _ => none) 0 (some (a3 0))) 1 (some (a5 0))) 2 (some (a7 0))) 3 (some (a9 0))))))))] ++ (wEn k a3 z0 ++ (wEn k a5 z0 ++ (wEn k a7 z0 ++ (wEn k a9 z0)))))) := hD
  refine lv_iinc (v := (4 : Int32)) (lv' := [(1, .int (4 : Int32)), (0, .ref h0)]) hx hb dX3_init_32 hl (k := 0) rfl (by decide) (by decide) rfl (fun ls hl => ?_)
  refine lv_goto (tgt := 14) hx hb dX3_init_35 (by decide) ?_
  refine lv_iload_n hx hb dX3_init_14 rfl (lv_at hl 0 rfl) ?_
  refine lv_iconst (v := (3 : Int32)) hx hb dX3_init_15 (by decide) ?_
  refine lv_icmp_gt (tgt := 38) hx hb dX3_init_16 (by decide) (fun _ => ?_) (fun c => absurd (by decide) c)
  have hP : va_P D vwCl ([(h0, .inr (3, [.ref q1]))] ++ ([(q1, .inl (k 2, 4, .inr (.inr (.inr (.inr (va_up (va_up (va_up (va_up (fun _ => none) 0 (some (a3 0))) 1 (some (a5 0))) 2 (some (a7 0))) 3 (some (a9 0))))))))] ++ (wEn k a3 z0 ++ (wEn k a5 z0 ++ (wEn k a7 z0 ++ (wEn k a9 z0)))))) H := pm_P (by refine pm_iff (fun _ x => ?_); simp only [List.count_append]; try omega) hP
  have hD : va_D A ([(h0, .inr (3, [.ref q1]))] ++ ([(q1, .inl (k 2, 4, .inr (.inr (.inr (.inr (va_up (va_up (va_up (va_up (fun _ => none) 0 (some (a3 0))) 1 (some (a5 0))) 2 (some (a7 0))) 3 (some (a9 0))))))))] ++ (wEn k a3 z0 ++ (wEn k a5 z0 ++ (wEn k a7 z0 ++ (wEn k a9 z0)))))) := pm_D (by refine pm_iff (fun _ x => ?_); simp only [List.count_append]; try omega) hD
  have hex : ∀ j, j < 4 → (va_up (va_up (va_up (va_up (fun _ => none) 0 (some (a3 0))) 1 (some (a5 0))) 2 (some (a7 0))) 3 (some (a9 0))) j = (fun j => some ((fun i => ([h0, q1, a3 0, a3 1, a3 2, a3 3, a5 0, a5 1, a5 2, a5 3, a7 0, a7 1, a7 2, a7 3, a9 0, a9 1, a9 2, a9 3] : List Nat).getD i 0) (2 + 4 * j))) j := by
    intro j hj
    rcases (show j = 0 ∨ j = 1 ∨ j = 2 ∨ j = 3 by omega) with rfl | rfl | rfl | rfl <;> rfl
  have hP := vaP_ext (X := [(h0, .inr (3, [.ref q1]))]) (Y := wEn k a3 z0 ++ (wEn k a5 z0 ++ (wEn k a7 z0 ++ (wEn k a9 z0)))) hex hP
  have hD := vaD_ext (X := [(h0, .inr (3, [.ref q1]))]) (Y := wEn k a3 z0 ++ (wEn k a5 z0 ++ (wEn k a7 z0 ++ (wEn k a9 z0)))) (f := (va_up (va_up (va_up (va_up (fun _ => none) 0 (some (a3 0))) 1 (some (a5 0))) 2 (some (a7 0))) 3 (some (a9 0)))) (g := (fun j => some ((fun i => ([h0, q1, a3 0, a3 1, a3 2, a3 3, a5 0, a5 1, a5 2, a5 3, a7 0, a7 1, a7 2, a7 3, a9 0, a9 1, a9 2, a9 3] : List Nat).getD i 0) (2 + 4 * j)))) (n := 4) hD
  exact W.vret hx hb hr (fun t ht hW => ⟨⟨(fun i => ([h0, q1, a3 0, a3 1, a3 2, a3 3, a5 0, a5 1, a5 2, a5 3, a7 0, a7 1, a7 2, a7 3, a9 0, a9 1, a9 2, a9 3] : List Nat).getD i 0), rfl, rfl, by rw [ht]; exact hP, va_K.moved hW.alike hK, hD⟩, hS.F ht⟩) hS.2.2 dX3_init_38
