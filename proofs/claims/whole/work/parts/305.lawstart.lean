theorem nwL_in : ∀ w ∈ nwL, w ∈ lw_tbl := by decide +kernel
theorem nwL_on : ∀ w ∈ nwL, w.onTables = true := by decide +kernel
set_option maxRecDepth 20000 in
theorem law_nwP {s : State} {A : Array Value} (hts : ∀ w ∈ lw_tbl, w.before A s = true) : nwP s :=
  ⟨fun w hw => va_Nw.of (nwL_on w hw) (hts w (nwL_in w hw)), va_AO.of (hts (.arrayOver (.object "WithTheSameOne$Floor")) (by decide +kernel)), va_AO.of (hts (.arrayOver (.object "WithTheSameOne$Ending")) (by decide +kernel))⟩
set_option maxRecDepth 20000 in
theorem law_tys {s : State} {A : Array Value} (hts : ∀ w ∈ lw_tbl, w.before A s = true) : ∃ k : Nat → ClassId, (ArrOfT s (k 0) .int ∧ va_RA s (k 0) .int) ∧ (ArrOfT s (k 1) (.object "WithTheSameOne$Floor") ∧ va_RA s (k 1) (.object "WithTheSameOne$Floor")) ∧ (ArrOfT s (k 2) (.object "WithTheSameOne$Ending") ∧ va_RA s (k 2) (.object "WithTheSameOne$Ending")) := by
  obtain ⟨c0, k0, p0, h1, h2, h3⟩ := Cond.arrayClass_spec (hts (.arrayClass .int) (by decide +kernel))
  obtain ⟨p1, c1, k1, f1, _, f2, f3, f4⟩ := Cond.arrayOver_spec (hts (.arrayOver (.object "WithTheSameOne$Floor")) (by decide +kernel))
  obtain ⟨p2, c2, k2, g1, _, g2, g3, g4⟩ := Cond.arrayOver_spec (hts (.arrayOver (.object "WithTheSameOne$Ending")) (by decide +kernel))
  exact ⟨fun j => match j with | 0 => c0 | 1 => c1 | _ => c2, ⟨fun n z => ⟨fun k h => (by cases h), k0, h2, p0, h3⟩, h1⟩, ⟨fun n z => ⟨fun k h => (by cases h), k1, f2, p1, f3⟩, k1, p1, f2, f3, f1, f4⟩, ⟨fun n z => ⟨fun k h => (by cases h), k2, g2, p2, g3⟩, k2, p2, g2, g3, g1, g4⟩⟩
set_option maxRecDepth 100000 in
set_option maxHeartbeats 4000000 in
theorem whole_start_of {p : Program} {e : Env} {s : State} {m : MethodId} {below : List Frame} {meth : Method} {c : Code} (l : Launch) {b L : Nat} {xs : Nat → Int32} (hL : L ≤ 256) (C0 : lw_At p s m meth c b L xs) {Inv : CS → St → Prop} (hI : LawStep Inv) (hI0 : Inv zMa z0) : W p l e room_1 s m #[Value.ref b] below meth c s.heap [] 0 0 (lw_Z below #[Value.ref b] s) (entryFrame m ([Value.ref b] : List Value).toArray 4) := by
  have C1 := C0
  obtain ⟨hx, hb, hr, hml, hown0, hts0, hX, hbl, hlocks, hgv⟩ := C0
  have hown : s.vm.findClass RL = some m.cls := hown0
  have hts : ∀ w ∈ wsL_law, w.before #[Value.ref b] s = true := fun w h => hts0 w (wsL_law_in w h)
  have hA : ∀ q : Nat, s.heap.size ≤ q → (fun q : Nat => s.heap.size ≤ q) q := fun _ h => h
  have hbA : ¬ (fun q : Nat => s.heap.size ≤ q) b := Nat.not_le.mpr hbl
  obtain ⟨cX0, iSX0, hKnX0⟩ := u_known (C := RX0) (T := TX0) (N := 7) (n := 7) hts0 inX0 (hts0 (.instantiable RX0 7) (by decide +kernel))
  obtain ⟨cX1, iSX1, hKnX1⟩ := u_known (C := RX1) (T := TX1) (N := 3) (n := 3) hts0 inX1 (hts0 (.instantiable RX1 3) (by decide +kernel))
  obtain ⟨cX2, iSX2, hKnX2⟩ := u_known (C := RX2) (T := TX2) (N := 6) (n := 6) hts0 inX2 (hts0 (.instantiable RX2 6) (by decide +kernel))
  obtain ⟨cX3, iSX3, hKnX3⟩ := u_known (C := RX3) (T := TX3) (N := 1) (n := 1) hts0 inX3 (hts0 (.instantiable RX3 1) (by decide +kernel))
  obtain ⟨cX4, iSX4, hKnX4⟩ := u_known (C := RX4) (T := TX4) (N := 3) (n := 3) hts0 inX4 (hts0 (.instantiable RX4 3) (by decide +kernel))
  obtain ⟨cX5, iSX5, hKnX5⟩ := u_known (C := RX5) (T := TX5) (N := 3) (n := 3) hts0 inX5 (hts0 (.instantiable RX5 3) (by decide +kernel))
  obtain ⟨cX6, iSX6, hKnX6⟩ := u_known (C := RX6) (T := TX6) (N := 8) (n := 8) hts0 inX6 (hts0 (.instantiable RX6 8) (by decide +kernel))
  obtain ⟨cX7, iSX7, hKnX7⟩ := u_known (C := RX7) (T := TX7) (N := 33) (n := 33) hts0 inX7 (hts0 (.instantiable RX7 33) (by decide +kernel))
  have hnw : nwP s := law_nwP hts0
  obtain ⟨k, hk0, hk1, hk2⟩ := law_tys hts0
  obtain ⟨dC, dI, hKc⟩ : ∃ (dC : Nat → ClassId) (dI : Nat → Nat → Nat), ∀ (j : Nat) (q : vw_C), vwCl[j]? = some q → u_Kn s q.1 q.2.1 q.2.2 (dC j) (dI j) := by
    refine ⟨fun j => match j with | 0 => cX0 | 1 => cX1 | 2 => cX2 | 3 => cX3 | 4 => cX4 | 5 => cX5 | 6 => cX6 | _ => cX7, fun j => match j with | 0 => iSX0 | 1 => iSX1 | 2 => iSX2 | 3 => iSX3 | 4 => iSX4 | 5 => iSX5 | 6 => iSX6 | _ => iSX7, ?_⟩
    intro j q hq
    match j, hq with
    | 0, hq => cases hq; exact hKnX0
    | 1, hq => cases hq; exact hKnX1
    | 2, hq => cases hq; exact hKnX2
    | 3, hq => cases hq; exact hKnX3
    | 4, hq => cases hq; exact hKnX4
    | 5, hq => cases hq; exact hKnX5
    | 6, hq => cases hq; exact hKnX6
    | 7, hq => cases hq; exact hKnX7
    | j + 8, hq => simp [vwCl] at hq
  have hK : va_K (dC, dI) vwCl (tysOf k) s := by
    refine ⟨hKc, fun j q hq => ?_⟩
    match j, hq with
    | 0, hq => cases hq; exact hk0
    | 1, hq => cases hq; exact hk1
    | 2, hq => cases hq; exact hk2
    | j + 3, hq => simp [tysOf] at hq
  obtain ⟨D, eD⟩ : ∃ D : va_G, D = (dC, dI) := ⟨_, rfl⟩
  rw [← eD] at hK
  have hS : va_S (fun q : Nat => s.heap.size ≤ q) s.heap s.heap [] := va_S.rf
  have hP : va_P D vwCl [] s.heap := fun k q h => by simp at h
  have hD : va_D (fun q : Nat => s.heap.size ≤ q) [] := ⟨fun i j p q h => by simp at h, fun k q h => by simp at h⟩
  have hl := lv_entry ([.ref b]) (n := 4) (Nat.le_of_ble_eq_true rfl)
  rw [lg_entry_eq]
  generalize (lg_sl ([.ref b]) ++ List.replicate (4 - (lg_sl ([.ref b])).length) Slot.unset).toArray = ls at hl ⊢
  have hl : lv_has ls 4 [(0, .ref b)] := hl
  refine va_new (ci := 6) (fs := [.null, .null, .null, .null, .null, .null, .null, .int 0]) (C := RX6) (T := TX6) (N := 8) hx hb hts0 inX6 tyX6 tyX6_ok hown (hts (.classLink RL 7 RX6) (by decide +kernel)) (hts (.instantiable RX6 8) (by decide +kernel)) (hts (.initialized RX6) (by decide +kernel)) hK hP hD hS hA rfl (fun j hj => by rcases (show j = 0 ∨ j = 1 ∨ j = 2 ∨ j = 3 ∨ j = 4 ∨ j = 5 ∨ j = 6 ∨ j = 7 by omega) with rfl | rfl | rfl | rfl | rfl | rfl | rfl | rfl <;> rfl) (Nat.le_of_ble_eq_true rfl) (Nat.le_of_ble_eq_true rfl) dL_law_0 (fun q1 H hP hD hS => ?_)
  refine W.widen (k := 1) (n := 8) (Nat.le_of_ble_eq_true rfl) (Nat.le_of_ble_eq_true rfl) ?_
  refine lv_dup hx hb dL_law_3 rfl ?_
  have hq : List.Perm ([] ++ [(q1, .inr (6, [.null, .null, .null, .null, .null, .null, .null, .int 0]))] : va_W) (([(q1, .inr (6, [.null, .null, .null, .null, .null, .null, .null, .int 0]))] : va_W) ++ ([] : va_W)) := by refine pm_iff (fun _ x => ?_); simp only [List.count_append]; try omega
  have hPc := pf_P hq hP
  have hDc := pf_D hq hD
  have hFc := fr_self hDc hS hA
  refine gi_v (va_runI (As := []) (rest := [.ref q1]) ⟨hx, hb, hml, hown, hts⟩ (c_X6_init l D k q1 H.size) (cwI 0 hts gL_law_X6_init rfl rfl rfl (hts (.initialized RX6) (by decide +kernel)) (hts (.methodLink RL 9 yX6_init) (by decide +kernel)) (hts (.instanceMethod yX6_init) (by decide +kernel)) rfl (by decide +kernel) ⟨Nat.le_of_ble_eq_true rfl, Nat.le_of_ble_eq_true rfl⟩) (gv_preS hK hnw hPc hDc) rfl rfl hl.1 rfl (lv_room (Nat.le_of_ble_eq_true rfl)) dL_law_4 ⟨Nat.le_of_ble_eq_true rfl, Nat.le_of_ble_eq_true rfl⟩) hS hFc (fun a H locs h hP1 hD1 hk1 hS => ?_)
  subst h
  obtain ⟨hP, hD⟩ := pf_J hq (ws1 := wMa k a zMa) (by refine pm_iff (fun _ x => ?_); simp only [List.count_append, List.count_nil]; try omega) hP hD hk1 hFc hP1 hD1
  refine W.widen (k := 92) (n := 727) (Nat.le_of_ble_eq_true rfl) (Nat.le_of_ble_eq_true rfl) ?_
  refine lv_astore_n (lv' := [(1, .ref (a 0)), (0, .ref b)]) hx hb dL_law_7 rfl hl (by decide) rfl (fun ls hl => ?_)
  refine va_new (ci := 7) (fs := [.null, .null, .null, .null, .null, .int 0, .int 0, .null, .null, .null, .null, .null, .int 0, .int 0, .int 0, .null, .int 0, .int 0, .int 0, .null, .null, .null, .int 0, .null, .null, .int 0, .int 0, .null, .null, .int 0, .null, .null, .int 0]) (C := RX7) (T := TX7) (N := 33) hx hb hts0 inX7 tyX7 tyX7_ok hown (hts (.classLink RL 10 RX7) (by decide +kernel)) (hts (.instantiable RX7 33) (by decide +kernel)) (hts (.initialized RX7) (by decide +kernel)) hK hP hD hS hA rfl (fun j hj => by rcases (show j = 0 ∨ j = 1 ∨ j = 2 ∨ j = 3 ∨ j = 4 ∨ j = 5 ∨ j = 6 ∨ j = 7 ∨ j = 8 ∨ j = 9 ∨ j = 10 ∨ j = 11 ∨ j = 12 ∨ j = 13 ∨ j = 14 ∨ j = 15 ∨ j = 16 ∨ j = 17 ∨ j = 18 ∨ j = 19 ∨ j = 20 ∨ j = 21 ∨ j = 22 ∨ j = 23 ∨ j = 24 ∨ j = 25 ∨ j = 26 ∨ j = 27 ∨ j = 28 ∨ j = 29 ∨ j = 30 ∨ j = 31 ∨ j = 32 by omega) with rfl | rfl | rfl | rfl | rfl | rfl | rfl | rfl | rfl | rfl | rfl | rfl | rfl | rfl | rfl | rfl | rfl | rfl | rfl | rfl | rfl | rfl | rfl | rfl | rfl | rfl | rfl | rfl | rfl | rfl | rfl | rfl | rfl <;> rfl) (Nat.le_of_ble_eq_true rfl) (Nat.le_of_ble_eq_true rfl) dL_law_8 (fun q2 H hP hD hS => ?_)
  refine W.widen (k := 93) (n := 760) (Nat.le_of_ble_eq_true rfl) (Nat.le_of_ble_eq_true rfl) ?_
  refine lv_dup hx hb dL_law_11 rfl ?_
  have hq : List.Perm (wMa k a zMa ++ [(q2, .inr (7, [.null, .null, .null, .null, .null, .int 0, .int 0, .null, .null, .null, .null, .null, .int 0, .int 0, .int 0, .null, .int 0, .int 0, .int 0, .null, .null, .null, .int 0, .null, .null, .int 0, .int 0, .null, .null, .int 0, .null, .null, .int 0]))] : va_W) (([(q2, .inr (7, [.null, .null, .null, .null, .null, .int 0, .int 0, .null, .null, .null, .null, .null, .int 0, .int 0, .int 0, .null, .int 0, .int 0, .int 0, .null, .null, .null, .int 0, .null, .null, .int 0, .int 0, .null, .null, .int 0, .null, .null, .int 0]))] : va_W) ++ (wMa k a zMa : va_W)) := by refine pm_iff (fun _ x => ?_); simp only [List.count_append]; try omega
  have hPc := pf_P hq hP
  have hDc := pf_D hq hD
  have hFc := fr_self hDc hS hA
  refine gi_v (va_runI (As := []) (rest := [.ref q2]) ⟨hx, hb, hml, hown, hts⟩ (c_X7_init l D k q2 H.size) (cwI 0 hts gL_law_X7_init rfl rfl rfl (hts (.initialized RX7) (by decide +kernel)) (hts (.methodLink RL 12 yX7_init) (by decide +kernel)) (hts (.instanceMethod yX7_init) (by decide +kernel)) rfl (by decide +kernel) ⟨Nat.le_of_ble_eq_true rfl, Nat.le_of_ble_eq_true rfl⟩) (gv_preS hK hnw hPc hDc) rfl rfl hl.1 rfl (lv_room (Nat.le_of_ble_eq_true rfl)) dL_law_12 ⟨Nat.le_of_ble_eq_true rfl, Nat.le_of_ble_eq_true rfl⟩) hS hFc (fun g H locs h hP1 hD1 hk1 hS => ?_)
  subst h
  obtain ⟨hP, hD⟩ := pf_J hq (ws1 := wMa k a zMa ++ wMo k g z0) (by refine pm_iff (fun _ x => ?_); simp only [List.count_append, List.count_nil]; try omega) hP hD hk1 hFc hP1 hD1
  refine W.widen (k := 113) (n := 1553) (Nat.le_of_ble_eq_true rfl) (Nat.le_of_ble_eq_true rfl) ?_
  refine lv_astore_n (lv' := [(2, .ref (g 0)), (1, .ref (a 0)), (0, .ref b)]) hx hb dL_law_15 rfl hl (by decide) rfl (fun ls hl => ?_)
  refine lv_iconst (v := (0 : Int32)) hx hb dL_law_16 (by decide) ?_
  refine lv_istore_n (lv' := [(3, .int 0), (2, .ref (g 0)), (1, .ref (a 0)), (0, .ref b)]) hx hb dL_law_17 rfl hl (by decide) rfl (fun ls hl => ?_)
  exact law_loop hL C1 hnw hK a g hI (L + 4) 0 0 (Nat.zero_le L) (by omega) nI_0.symm zMa z0 hI0 H locs ls hP hD hS (lv_sub hl [3, 2, 1, 0] rfl)
