set_option maxRecDepth 100000 in
set_option maxHeartbeats 4000000 in
theorem lc_0 {p : Program} {l : Launch} {e : Env} {s : State} {m : MethodId} {below : List Frame} {meth : Method} {c : Code} {D : va_G} {k : Nat → ClassId} {b L : Nat} {xs : Nat → Int32} (hL : L ≤ 256) (C0 : lw_At p s m meth c b L xs) (hnw : nwP s) (hK : va_K D vwCl (tysOf k) s) {Inv : CS → St → Prop} (a g : Nat → Nat) (hI : LS_0 Inv) {i : Nat} {x3 : Int32} (hi : i + 4 ≤ L) (ex3 : x3 = nI i) {X : CS} {Y : St} (hXY : Inv X Y)
    (ih : ∀ (X : CS) (Y : St), Inv X Y → ∀ (H : Heap) (locs : List Loc) (ls : Array Slot), va_P D vwCl (wMa k a X ++ wMo k g Y) H → va_D (fun q : Nat => s.heap.size ≤ q) (wMa k a X ++ wMo k g Y) → va_S (fun q : Nat => s.heap.size ≤ q) s.heap H locs → lv_has ls 4 [(0, .ref b), (1, .ref (a 0)), (2, .ref (g 0)), (3, .int x3)] → W p l e room_1 s m #[Value.ref b] below meth c H locs 113 1553 (lw_Z below #[Value.ref b] s) (F0 m 834 ls []))
    {H : Heap} {locs : List Loc} {ls : Array Slot} (hP : va_P D vwCl (wMa k a X ++ wMo k g Y) H) (hD : va_D (fun q : Nat => s.heap.size ≤ q) (wMa k a X ++ wMo k g Y)) (hS : va_S (fun q : Nat => s.heap.size ≤ q) s.heap H locs) (hl : lv_has ls 4 [(0, .ref b), (1, .ref (a 0)), (2, .ref (g 0)), (3, .int x3)]) : W p l e room_1 s m #[Value.ref b] below meth c H locs 113 1553 (lw_Z below #[Value.ref b] s) (F0 m 160 ls []) := by
  obtain ⟨hx, hb, hr, hml, hown0, hts0, hX, hbl, hlocks, hgv⟩ := C0
  have hown : s.vm.findClass RL = some m.cls := hown0
  have hts : ∀ w ∈ wsL_law, w.before #[Value.ref b] s = true := fun w h => hts0 w (wsL_law_in w h)
  have hA : ∀ q : Nat, s.heap.size ≤ q → (fun q : Nat => s.heap.size ≤ q) q := fun _ h => h
  have hbA : ¬ (fun q : Nat => s.heap.size ≤ q) b := Nat.not_le.mpr hbl
  have hv1 : vp_in (x3 + 1) L := by rw [ex3]; show vp_in (nI i + nI 1) L; rw [nI_add]; exact vp_in_nI (by omega) (by omega)
  have h := hI X Y (xs (x3 + 1).toNatClampNeg) hXY
  refine lv_aload_n hx hb dL_law_160 rfl (lv_at hl 1 rfl) ?_
  refine lv_aload_n hx hb dL_law_161 rfl (lv_at hl 0 rfl) ?_
  refine lv_iload_n hx hb dL_law_162 rfl (lv_at hl 3 rfl) ?_
  refine lv_iconst (v := (1 : Int32)) hx hb dL_law_163 (by decide) ?_
  refine lv_iadd hx hb dL_law_164 ?_
  refine va_sld hx hb hX hbl hbA hS hv1 dL_law_165 ?_
  have hPc := fcLA_P hP
  have hDc := fcLA_D hD
  have hFc := fr_self hDc hS hA
  refine gv_i (va_runV (As := [.int (xs (x3 + 1).toNatClampNeg)]) (rest := []) ⟨hx, hb, hml, hown, hts⟩ (c_X6_feed l D k a X H.size (xs (x3 + 1).toNatClampNeg) _ h) (cwV 1 hts gL_law_X6_feed rfl rfl rfl (by decide +kernel) ⟨Nat.le_of_ble_eq_true rfl, Nat.le_of_ble_eq_true rfl⟩) (gv_preV hK hnw hPc hDc (ci := 6) rfl 0 rfl) rfl rfl hl.1 rfl (lv_room (Nat.le_of_ble_eq_true rfl)) dL_law_166 ⟨Nat.le_of_ble_eq_true rfl, Nat.le_of_ble_eq_true rfl⟩) hS hFc (fun r X2 H locs h hP1 hD1 hk1 hS => ?_)
  obtain ⟨hP, hD⟩ := fcLA_J hP hD hk1 hFc hP1 hD1
  refine lv_aload_n hx hb dL_law_169 rfl (lv_at hl 2 rfl) ?_
  refine lv_aload_n hx hb dL_law_170 rfl (lv_at hl 0 rfl) ?_
  refine lv_iload_n hx hb dL_law_171 rfl (lv_at hl 3 rfl) ?_
  refine lv_iconst (v := (1 : Int32)) hx hb dL_law_172 (by decide) ?_
  refine lv_iadd hx hb dL_law_173 ?_
  refine va_sld hx hb hX hbl hbA hS hv1 dL_law_174 ?_
  have hPc := fcLB_P hP
  have hDc := fcLB_D hD
  have hFc := fr_self hDc hS hA
  refine gv_i (va_runV (As := [.int (xs (x3 + 1).toNatClampNeg)]) (rest := [.int r]) ⟨hx, hb, hml, hown, hts⟩ (c_X7_feed l D k g Y H.size (xs (x3 + 1).toNatClampNeg) _ h) (cwV 1 hts gL_law_X7_feed rfl rfl rfl (by decide +kernel) ⟨Nat.le_of_ble_eq_true rfl, Nat.le_of_ble_eq_true rfl⟩) (gv_preV hK hnw hPc hDc (ci := 7) rfl 0 rfl) rfl rfl hl.1 rfl (lv_room (Nat.le_of_ble_eq_true rfl)) dL_law_175 ⟨Nat.le_of_ble_eq_true rfl, Nat.le_of_ble_eq_true rfl⟩) hS hFc (fun r2 Y2 H locs h hP1 hD1 hk1 hS => ?_)
  obtain ⟨hP, hD⟩ := fcLB_J hP hD hk1 hFc hP1 hD1
  refine lv_icmp_eq (tgt := 834) hx hb dL_law_178 (by decide) (fun _ => ?_) (fun c => absurd h.1 c)
  exact ih X2 Y2 h.2 H locs ls hP hD hS hl
set_option maxRecDepth 100000 in
set_option maxHeartbeats 4000000 in
theorem lc_1 {p : Program} {l : Launch} {e : Env} {s : State} {m : MethodId} {below : List Frame} {meth : Method} {c : Code} {D : va_G} {k : Nat → ClassId} {b L : Nat} {xs : Nat → Int32} (hL : L ≤ 256) (C0 : lw_At p s m meth c b L xs) (hnw : nwP s) (hK : va_K D vwCl (tysOf k) s) {Inv : CS → St → Prop} (a g : Nat → Nat) (hI : LS_1 Inv) {i : Nat} {x3 : Int32} (hi : i + 4 ≤ L) (ex3 : x3 = nI i) {X : CS} {Y : St} (hXY : Inv X Y)
    (ih : ∀ (X : CS) (Y : St), Inv X Y → ∀ (H : Heap) (locs : List Loc) (ls : Array Slot), va_P D vwCl (wMa k a X ++ wMo k g Y) H → va_D (fun q : Nat => s.heap.size ≤ q) (wMa k a X ++ wMo k g Y) → va_S (fun q : Nat => s.heap.size ≤ q) s.heap H locs → lv_has ls 4 [(0, .ref b), (1, .ref (a 0)), (2, .ref (g 0)), (3, .int x3)] → W p l e room_1 s m #[Value.ref b] below meth c H locs 113 1553 (lw_Z below #[Value.ref b] s) (F0 m 834 ls []))
    {H : Heap} {locs : List Loc} {ls : Array Slot} (hP : va_P D vwCl (wMa k a X ++ wMo k g Y) H) (hD : va_D (fun q : Nat => s.heap.size ≤ q) (wMa k a X ++ wMo k g Y)) (hS : va_S (fun q : Nat => s.heap.size ≤ q) s.heap H locs) (hl : lv_has ls 4 [(0, .ref b), (1, .ref (a 0)), (2, .ref (g 0)), (3, .int x3)]) : W p l e room_1 s m #[Value.ref b] below meth c H locs 113 1553 (lw_Z below #[Value.ref b] s) (F0 m 183 ls []) := by
  obtain ⟨hx, hb, hr, hml, hown0, hts0, hX, hbl, hlocks, hgv⟩ := C0
  have hown : s.vm.findClass RL = some m.cls := hown0
  have hts : ∀ w ∈ wsL_law, w.before #[Value.ref b] s = true := fun w h => hts0 w (wsL_law_in w h)
  have hA : ∀ q : Nat, s.heap.size ≤ q → (fun q : Nat => s.heap.size ≤ q) q := fun _ h => h
  have hbA : ¬ (fun q : Nat => s.heap.size ≤ q) b := Nat.not_le.mpr hbl
  have h := hI X Y  hXY
  refine lv_aload_n hx hb dL_law_183 rfl (lv_at hl 1 rfl) ?_
  have hPc := fcLA_P hP
  have hDc := fcLA_D hD
  have hFc := fr_self hDc hS hA
  refine gv_i (va_runV (As := []) (rest := []) ⟨hx, hb, hml, hown, hts⟩ (c_X6_ball l D k a X H.size _ h) (cwV 0 hts gL_law_X6_ball rfl rfl rfl (by decide +kernel) ⟨Nat.le_of_ble_eq_true rfl, Nat.le_of_ble_eq_true rfl⟩) (gv_preV hK hnw hPc hDc (ci := 6) rfl 0 rfl) rfl rfl hl.1 rfl (lv_room (Nat.le_of_ble_eq_true rfl)) dL_law_184 ⟨Nat.le_of_ble_eq_true rfl, Nat.le_of_ble_eq_true rfl⟩) hS hFc (fun r X2 H locs h hP1 hD1 hk1 hS => ?_)
  obtain ⟨hP, hD⟩ := fcLA_J hP hD hk1 hFc hP1 hD1
  refine lv_aload_n hx hb dL_law_187 rfl (lv_at hl 2 rfl) ?_
  have hPc := fcLB_P hP
  have hDc := fcLB_D hD
  have hFc := fr_self hDc hS hA
  refine gv_i (va_runV (As := []) (rest := [.int r]) ⟨hx, hb, hml, hown, hts⟩ (c_X7_ball l D k g Y H.size _ h) (cwV 0 hts gL_law_X7_ball rfl rfl rfl (by decide +kernel) ⟨Nat.le_of_ble_eq_true rfl, Nat.le_of_ble_eq_true rfl⟩) (gv_preV hK hnw hPc hDc (ci := 7) rfl 0 rfl) rfl rfl hl.1 rfl (lv_room (Nat.le_of_ble_eq_true rfl)) dL_law_188 ⟨Nat.le_of_ble_eq_true rfl, Nat.le_of_ble_eq_true rfl⟩) hS hFc (fun r2 Y2 H locs h hP1 hD1 hk1 hS => ?_)
  obtain ⟨hP, hD⟩ := fcLB_J hP hD hk1 hFc hP1 hD1
  refine lv_icmp_eq (tgt := 834) hx hb dL_law_191 (by decide) (fun _ => ?_) (fun c => absurd h.1 c)
  exact ih X2 Y2 h.2 H locs ls hP hD hS hl
set_option maxRecDepth 100000 in
set_option maxHeartbeats 4000000 in
theorem lc_2 {p : Program} {l : Launch} {e : Env} {s : State} {m : MethodId} {below : List Frame} {meth : Method} {c : Code} {D : va_G} {k : Nat → ClassId} {b L : Nat} {xs : Nat → Int32} (hL : L ≤ 256) (C0 : lw_At p s m meth c b L xs) (hnw : nwP s) (hK : va_K D vwCl (tysOf k) s) {Inv : CS → St → Prop} (a g : Nat → Nat) (hI : LS_2 Inv) {i : Nat} {x3 : Int32} (hi : i + 4 ≤ L) (ex3 : x3 = nI i) {X : CS} {Y : St} (hXY : Inv X Y)
    (ih : ∀ (X : CS) (Y : St), Inv X Y → ∀ (H : Heap) (locs : List Loc) (ls : Array Slot), va_P D vwCl (wMa k a X ++ wMo k g Y) H → va_D (fun q : Nat => s.heap.size ≤ q) (wMa k a X ++ wMo k g Y) → va_S (fun q : Nat => s.heap.size ≤ q) s.heap H locs → lv_has ls 4 [(0, .ref b), (1, .ref (a 0)), (2, .ref (g 0)), (3, .int x3)] → W p l e room_1 s m #[Value.ref b] below meth c H locs 113 1553 (lw_Z below #[Value.ref b] s) (F0 m 834 ls []))
    {H : Heap} {locs : List Loc} {ls : Array Slot} (hP : va_P D vwCl (wMa k a X ++ wMo k g Y) H) (hD : va_D (fun q : Nat => s.heap.size ≤ q) (wMa k a X ++ wMo k g Y)) (hS : va_S (fun q : Nat => s.heap.size ≤ q) s.heap H locs) (hl : lv_has ls 4 [(0, .ref b), (1, .ref (a 0)), (2, .ref (g 0)), (3, .int x3)]) : W p l e room_1 s m #[Value.ref b] below meth c H locs 113 1553 (lw_Z below #[Value.ref b] s) (F0 m 196 ls []) := by
  obtain ⟨hx, hb, hr, hml, hown0, hts0, hX, hbl, hlocks, hgv⟩ := C0
  have hown : s.vm.findClass RL = some m.cls := hown0
  have hts : ∀ w ∈ wsL_law, w.before #[Value.ref b] s = true := fun w h => hts0 w (wsL_law_in w h)
  have hA : ∀ q : Nat, s.heap.size ≤ q → (fun q : Nat => s.heap.size ≤ q) q := fun _ h => h
  have hbA : ¬ (fun q : Nat => s.heap.size ≤ q) b := Nat.not_le.mpr hbl
  have hv1 : vp_in (x3 + 1) L := by rw [ex3]; show vp_in (nI i + nI 1) L; rw [nI_add]; exact vp_in_nI (by omega) (by omega)
  have hv2 : vp_in (x3 + 2) L := by rw [ex3]; show vp_in (nI i + nI 2) L; rw [nI_add]; exact vp_in_nI (by omega) (by omega)
  have h := hI X Y (xs (x3 + 1).toNatClampNeg) (xs (x3 + 2).toNatClampNeg) hXY
  refine lv_aload_n hx hb dL_law_196 rfl (lv_at hl 1 rfl) ?_
  refine lv_aload_n hx hb dL_law_197 rfl (lv_at hl 0 rfl) ?_
  refine lv_iload_n hx hb dL_law_198 rfl (lv_at hl 3 rfl) ?_
  refine lv_iconst (v := (1 : Int32)) hx hb dL_law_199 (by decide) ?_
  refine lv_iadd hx hb dL_law_200 ?_
  refine va_sld hx hb hX hbl hbA hS hv1 dL_law_201 ?_
  refine lv_aload_n hx hb dL_law_202 rfl (lv_at hl 0 rfl) ?_
  refine lv_iload_n hx hb dL_law_203 rfl (lv_at hl 3 rfl) ?_
  refine lv_iconst (v := (2 : Int32)) hx hb dL_law_204 (by decide) ?_
  refine lv_iadd hx hb dL_law_205 ?_
  refine va_sld hx hb hX hbl hbA hS hv2 dL_law_206 ?_
  have hPc := fcLA_P hP
  have hDc := fcLA_D hD
  have hFc := fr_self hDc hS hA
  refine gv_i (va_runV (As := [.int (xs (x3 + 1).toNatClampNeg), .int (xs (x3 + 2).toNatClampNeg)]) (rest := []) ⟨hx, hb, hml, hown, hts⟩ (c_X6_dancer l D k a X H.size (xs (x3 + 1).toNatClampNeg) (xs (x3 + 2).toNatClampNeg) _ h) (cwV 2 hts gL_law_X6_dancer rfl rfl rfl (by decide +kernel) ⟨Nat.le_of_ble_eq_true rfl, Nat.le_of_ble_eq_true rfl⟩) (gv_preV hK hnw hPc hDc (ci := 6) rfl 0 rfl) rfl rfl hl.1 rfl (lv_room (Nat.le_of_ble_eq_true rfl)) dL_law_207 ⟨Nat.le_of_ble_eq_true rfl, Nat.le_of_ble_eq_true rfl⟩) hS hFc (fun r X2 H locs h hP1 hD1 hk1 hS => ?_)
  obtain ⟨hP, hD⟩ := fcLA_J hP hD hk1 hFc hP1 hD1
  refine lv_aload_n hx hb dL_law_210 rfl (lv_at hl 2 rfl) ?_
  refine lv_aload_n hx hb dL_law_211 rfl (lv_at hl 0 rfl) ?_
  refine lv_iload_n hx hb dL_law_212 rfl (lv_at hl 3 rfl) ?_
  refine lv_iconst (v := (1 : Int32)) hx hb dL_law_213 (by decide) ?_
  refine lv_iadd hx hb dL_law_214 ?_
  refine va_sld hx hb hX hbl hbA hS hv1 dL_law_215 ?_
  refine lv_aload_n hx hb dL_law_216 rfl (lv_at hl 0 rfl) ?_
  refine lv_iload_n hx hb dL_law_217 rfl (lv_at hl 3 rfl) ?_
  refine lv_iconst (v := (2 : Int32)) hx hb dL_law_218 (by decide) ?_
  refine lv_iadd hx hb dL_law_219 ?_
  refine va_sld hx hb hX hbl hbA hS hv2 dL_law_220 ?_
  have hPc := fcLB_P hP
  have hDc := fcLB_D hD
  have hFc := fr_self hDc hS hA
  refine gv_i (va_runV (As := [.int (xs (x3 + 1).toNatClampNeg), .int (xs (x3 + 2).toNatClampNeg)]) (rest := [.int r]) ⟨hx, hb, hml, hown, hts⟩ (c_X7_dancer l D k g Y H.size (xs (x3 + 1).toNatClampNeg) (xs (x3 + 2).toNatClampNeg) _ h) (cwV 2 hts gL_law_X7_dancer rfl rfl rfl (by decide +kernel) ⟨Nat.le_of_ble_eq_true rfl, Nat.le_of_ble_eq_true rfl⟩) (gv_preV hK hnw hPc hDc (ci := 7) rfl 0 rfl) rfl rfl hl.1 rfl (lv_room (Nat.le_of_ble_eq_true rfl)) dL_law_221 ⟨Nat.le_of_ble_eq_true rfl, Nat.le_of_ble_eq_true rfl⟩) hS hFc (fun r2 Y2 H locs h hP1 hD1 hk1 hS => ?_)
  obtain ⟨hP, hD⟩ := fcLB_J hP hD hk1 hFc hP1 hD1
  refine lv_icmp_eq (tgt := 834) hx hb dL_law_224 (by decide) (fun _ => ?_) (fun c => absurd h.1 c)
  exact ih X2 Y2 h.2 H locs ls hP hD hS hl
set_option maxRecDepth 100000 in
set_option maxHeartbeats 4000000 in
theorem lc_3 {p : Program} {l : Launch} {e : Env} {s : State} {m : MethodId} {below : List Frame} {meth : Method} {c : Code} {D : va_G} {k : Nat → ClassId} {b L : Nat} {xs : Nat → Int32} (hL : L ≤ 256) (C0 : lw_At p s m meth c b L xs) (hnw : nwP s) (hK : va_K D vwCl (tysOf k) s) {Inv : CS → St → Prop} (a g : Nat → Nat) (hI : LS_3 Inv) {i : Nat} {x3 : Int32} (hi : i + 4 ≤ L) (ex3 : x3 = nI i) {X : CS} {Y : St} (hXY : Inv X Y)
    (ih : ∀ (X : CS) (Y : St), Inv X Y → ∀ (H : Heap) (locs : List Loc) (ls : Array Slot), va_P D vwCl (wMa k a X ++ wMo k g Y) H → va_D (fun q : Nat => s.heap.size ≤ q) (wMa k a X ++ wMo k g Y) → va_S (fun q : Nat => s.heap.size ≤ q) s.heap H locs → lv_has ls 4 [(0, .ref b), (1, .ref (a 0)), (2, .ref (g 0)), (3, .int x3)] → W p l e room_1 s m #[Value.ref b] below meth c H locs 113 1553 (lw_Z below #[Value.ref b] s) (F0 m 834 ls []))
    {H : Heap} {locs : List Loc} {ls : Array Slot} (hP : va_P D vwCl (wMa k a X ++ wMo k g Y) H) (hD : va_D (fun q : Nat => s.heap.size ≤ q) (wMa k a X ++ wMo k g Y)) (hS : va_S (fun q : Nat => s.heap.size ≤ q) s.heap H locs) (hl : lv_has ls 4 [(0, .ref b), (1, .ref (a 0)), (2, .ref (g 0)), (3, .int x3)]) : W p l e room_1 s m #[Value.ref b] below meth c H locs 113 1553 (lw_Z below #[Value.ref b] s) (F0 m 229 ls []) := by
  obtain ⟨hx, hb, hr, hml, hown0, hts0, hX, hbl, hlocks, hgv⟩ := C0
  have hown : s.vm.findClass RL = some m.cls := hown0
  have hts : ∀ w ∈ wsL_law, w.before #[Value.ref b] s = true := fun w h => hts0 w (wsL_law_in w h)
  have hA : ∀ q : Nat, s.heap.size ≤ q → (fun q : Nat => s.heap.size ≤ q) q := fun _ h => h
  have hbA : ¬ (fun q : Nat => s.heap.size ≤ q) b := Nat.not_le.mpr hbl
  have hv1 : vp_in (x3 + 1) L := by rw [ex3]; show vp_in (nI i + nI 1) L; rw [nI_add]; exact vp_in_nI (by omega) (by omega)
  have h := hI X Y (xs (x3 + 1).toNatClampNeg) hXY
  refine lv_aload_n hx hb dL_law_229 rfl (lv_at hl 1 rfl) ?_
  refine lv_aload_n hx hb dL_law_230 rfl (lv_at hl 0 rfl) ?_
  refine lv_iload_n hx hb dL_law_231 rfl (lv_at hl 3 rfl) ?_
  refine lv_iconst (v := (1 : Int32)) hx hb dL_law_232 (by decide) ?_
  refine lv_iadd hx hb dL_law_233 ?_
  refine va_sld hx hb hX hbl hbA hS hv1 dL_law_234 ?_
  have hPc := fcLA_P hP
  have hDc := fcLA_D hD
  have hFc := fr_self hDc hS hA
  refine gv_i (va_runV (As := [.int (xs (x3 + 1).toNatClampNeg)]) (rest := []) ⟨hx, hb, hml, hown, hts⟩ (c_X6_law l D k a X H.size (xs (x3 + 1).toNatClampNeg) _ h) (cwV 1 hts gL_law_X6_law rfl rfl rfl (by decide +kernel) ⟨Nat.le_of_ble_eq_true rfl, Nat.le_of_ble_eq_true rfl⟩) (gv_preV hK hnw hPc hDc (ci := 6) rfl 0 rfl) rfl rfl hl.1 rfl (lv_room (Nat.le_of_ble_eq_true rfl)) dL_law_235 ⟨Nat.le_of_ble_eq_true rfl, Nat.le_of_ble_eq_true rfl⟩) hS hFc (fun r X2 H locs h hP1 hD1 hk1 hS => ?_)
  obtain ⟨hP, hD⟩ := fcLA_J hP hD hk1 hFc hP1 hD1
  refine lv_aload_n hx hb dL_law_238 rfl (lv_at hl 2 rfl) ?_
  refine lv_aload_n hx hb dL_law_239 rfl (lv_at hl 0 rfl) ?_
  refine lv_iload_n hx hb dL_law_240 rfl (lv_at hl 3 rfl) ?_
  refine lv_iconst (v := (1 : Int32)) hx hb dL_law_241 (by decide) ?_
  refine lv_iadd hx hb dL_law_242 ?_
  refine va_sld hx hb hX hbl hbA hS hv1 dL_law_243 ?_
  have hPc := fcLB_P hP
  have hDc := fcLB_D hD
  have hFc := fr_self hDc hS hA
  refine gv_i (va_runV (As := [.int (xs (x3 + 1).toNatClampNeg)]) (rest := [.int r]) ⟨hx, hb, hml, hown, hts⟩ (c_X7_law l D k g Y H.size (xs (x3 + 1).toNatClampNeg) _ h) (cwV 1 hts gL_law_X7_law rfl rfl rfl (by decide +kernel) ⟨Nat.le_of_ble_eq_true rfl, Nat.le_of_ble_eq_true rfl⟩) (gv_preV hK hnw hPc hDc (ci := 7) rfl 0 rfl) rfl rfl hl.1 rfl (lv_room (Nat.le_of_ble_eq_true rfl)) dL_law_244 ⟨Nat.le_of_ble_eq_true rfl, Nat.le_of_ble_eq_true rfl⟩) hS hFc (fun r2 Y2 H locs h hP1 hD1 hk1 hS => ?_)
  obtain ⟨hP, hD⟩ := fcLB_J hP hD hk1 hFc hP1 hD1
  refine lv_icmp_eq (tgt := 834) hx hb dL_law_247 (by decide) (fun _ => ?_) (fun c => absurd h.1 c)
  exact ih X2 Y2 h.2 H locs ls hP hD hS hl
set_option maxRecDepth 100000 in
set_option maxHeartbeats 4000000 in
theorem lc_4 {p : Program} {l : Launch} {e : Env} {s : State} {m : MethodId} {below : List Frame} {meth : Method} {c : Code} {D : va_G} {k : Nat → ClassId} {b L : Nat} {xs : Nat → Int32} (hL : L ≤ 256) (C0 : lw_At p s m meth c b L xs) (hnw : nwP s) (hK : va_K D vwCl (tysOf k) s) {Inv : CS → St → Prop} (a g : Nat → Nat) (hI : LS_4 Inv) {i : Nat} {x3 : Int32} (hi : i + 4 ≤ L) (ex3 : x3 = nI i) {X : CS} {Y : St} (hXY : Inv X Y)
    (ih : ∀ (X : CS) (Y : St), Inv X Y → ∀ (H : Heap) (locs : List Loc) (ls : Array Slot), va_P D vwCl (wMa k a X ++ wMo k g Y) H → va_D (fun q : Nat => s.heap.size ≤ q) (wMa k a X ++ wMo k g Y) → va_S (fun q : Nat => s.heap.size ≤ q) s.heap H locs → lv_has ls 4 [(0, .ref b), (1, .ref (a 0)), (2, .ref (g 0)), (3, .int x3)] → W p l e room_1 s m #[Value.ref b] below meth c H locs 113 1553 (lw_Z below #[Value.ref b] s) (F0 m 834 ls []))
    {H : Heap} {locs : List Loc} {ls : Array Slot} (hP : va_P D vwCl (wMa k a X ++ wMo k g Y) H) (hD : va_D (fun q : Nat => s.heap.size ≤ q) (wMa k a X ++ wMo k g Y)) (hS : va_S (fun q : Nat => s.heap.size ≤ q) s.heap H locs) (hl : lv_has ls 4 [(0, .ref b), (1, .ref (a 0)), (2, .ref (g 0)), (3, .int x3)]) : W p l e room_1 s m #[Value.ref b] below meth c H locs 113 1553 (lw_Z below #[Value.ref b] s) (F0 m 252 ls []) := by
  obtain ⟨hx, hb, hr, hml, hown0, hts0, hX, hbl, hlocks, hgv⟩ := C0
  have hown : s.vm.findClass RL = some m.cls := hown0
  have hts : ∀ w ∈ wsL_law, w.before #[Value.ref b] s = true := fun w h => hts0 w (wsL_law_in w h)
  have hA : ∀ q : Nat, s.heap.size ≤ q → (fun q : Nat => s.heap.size ≤ q) q := fun _ h => h
  have hbA : ¬ (fun q : Nat => s.heap.size ≤ q) b := Nat.not_le.mpr hbl
  have hv1 : vp_in (x3 + 1) L := by rw [ex3]; show vp_in (nI i + nI 1) L; rw [nI_add]; exact vp_in_nI (by omega) (by omega)
  have hv2 : vp_in (x3 + 2) L := by rw [ex3]; show vp_in (nI i + nI 2) L; rw [nI_add]; exact vp_in_nI (by omega) (by omega)
  have h := hI X Y (xs (x3 + 1).toNatClampNeg) (xs (x3 + 2).toNatClampNeg) hXY
  refine lv_aload_n hx hb dL_law_252 rfl (lv_at hl 1 rfl) ?_
  refine lv_aload_n hx hb dL_law_253 rfl (lv_at hl 0 rfl) ?_
  refine lv_iload_n hx hb dL_law_254 rfl (lv_at hl 3 rfl) ?_
  refine lv_iconst (v := (1 : Int32)) hx hb dL_law_255 (by decide) ?_
  refine lv_iadd hx hb dL_law_256 ?_
  refine va_sld hx hb hX hbl hbA hS hv1 dL_law_257 ?_
  refine lv_aload_n hx hb dL_law_258 rfl (lv_at hl 0 rfl) ?_
  refine lv_iload_n hx hb dL_law_259 rfl (lv_at hl 3 rfl) ?_
  refine lv_iconst (v := (2 : Int32)) hx hb dL_law_260 (by decide) ?_
  refine lv_iadd hx hb dL_law_261 ?_
  refine va_sld hx hb hX hbl hbA hS hv2 dL_law_262 ?_
  have hPc := fcLA_P hP
  have hDc := fcLA_D hD
  have hFc := fr_self hDc hS hA
  refine gv_i (va_runV (As := [.int (xs (x3 + 1).toNatClampNeg), .int (xs (x3 + 2).toNatClampNeg)]) (rest := []) ⟨hx, hb, hml, hown, hts⟩ (c_X6_danced l D k a X H.size (xs (x3 + 1).toNatClampNeg) (xs (x3 + 2).toNatClampNeg) _ h) (cwV 2 hts gL_law_X6_danced rfl rfl rfl (by decide +kernel) ⟨Nat.le_of_ble_eq_true rfl, Nat.le_of_ble_eq_true rfl⟩) (gv_preV hK hnw hPc hDc (ci := 6) rfl 0 rfl) rfl rfl hl.1 rfl (lv_room (Nat.le_of_ble_eq_true rfl)) dL_law_263 ⟨Nat.le_of_ble_eq_true rfl, Nat.le_of_ble_eq_true rfl⟩) hS hFc (fun r X2 H locs h hP1 hD1 hk1 hS => ?_)
  obtain ⟨hP, hD⟩ := fcLA_J hP hD hk1 hFc hP1 hD1
  refine lv_aload_n hx hb dL_law_266 rfl (lv_at hl 2 rfl) ?_
  refine lv_aload_n hx hb dL_law_267 rfl (lv_at hl 0 rfl) ?_
  refine lv_iload_n hx hb dL_law_268 rfl (lv_at hl 3 rfl) ?_
  refine lv_iconst (v := (1 : Int32)) hx hb dL_law_269 (by decide) ?_
  refine lv_iadd hx hb dL_law_270 ?_
  refine va_sld hx hb hX hbl hbA hS hv1 dL_law_271 ?_
  refine lv_aload_n hx hb dL_law_272 rfl (lv_at hl 0 rfl) ?_
  refine lv_iload_n hx hb dL_law_273 rfl (lv_at hl 3 rfl) ?_
  refine lv_iconst (v := (2 : Int32)) hx hb dL_law_274 (by decide) ?_
  refine lv_iadd hx hb dL_law_275 ?_
  refine va_sld hx hb hX hbl hbA hS hv2 dL_law_276 ?_
  have hPc := fcLB_P hP
  have hDc := fcLB_D hD
  have hFc := fr_self hDc hS hA
  refine gv_i (va_runV (As := [.int (xs (x3 + 1).toNatClampNeg), .int (xs (x3 + 2).toNatClampNeg)]) (rest := [.int r]) ⟨hx, hb, hml, hown, hts⟩ (c_X7_danced l D k g Y H.size (xs (x3 + 1).toNatClampNeg) (xs (x3 + 2).toNatClampNeg) _ h) (cwV 2 hts gL_law_X7_danced rfl rfl rfl (by decide +kernel) ⟨Nat.le_of_ble_eq_true rfl, Nat.le_of_ble_eq_true rfl⟩) (gv_preV hK hnw hPc hDc (ci := 7) rfl 0 rfl) rfl rfl hl.1 rfl (lv_room (Nat.le_of_ble_eq_true rfl)) dL_law_277 ⟨Nat.le_of_ble_eq_true rfl, Nat.le_of_ble_eq_true rfl⟩) hS hFc (fun r2 Y2 H locs h hP1 hD1 hk1 hS => ?_)
  obtain ⟨hP, hD⟩ := fcLB_J hP hD hk1 hFc hP1 hD1
  refine lv_icmp_eq (tgt := 834) hx hb dL_law_280 (by decide) (fun _ => ?_) (fun c => absurd h.1 c)
  exact ih X2 Y2 h.2 H locs ls hP hD hS hl
set_option maxRecDepth 100000 in
set_option maxHeartbeats 4000000 in
theorem lc_5 {p : Program} {l : Launch} {e : Env} {s : State} {m : MethodId} {below : List Frame} {meth : Method} {c : Code} {D : va_G} {k : Nat → ClassId} {b L : Nat} {xs : Nat → Int32} (hL : L ≤ 256) (C0 : lw_At p s m meth c b L xs) (hnw : nwP s) (hK : va_K D vwCl (tysOf k) s) {Inv : CS → St → Prop} (a g : Nat → Nat) (hI : LS_5 Inv) {i : Nat} {x3 : Int32} (hi : i + 4 ≤ L) (ex3 : x3 = nI i) {X : CS} {Y : St} (hXY : Inv X Y)
    (ih : ∀ (X : CS) (Y : St), Inv X Y → ∀ (H : Heap) (locs : List Loc) (ls : Array Slot), va_P D vwCl (wMa k a X ++ wMo k g Y) H → va_D (fun q : Nat => s.heap.size ≤ q) (wMa k a X ++ wMo k g Y) → va_S (fun q : Nat => s.heap.size ≤ q) s.heap H locs → lv_has ls 4 [(0, .ref b), (1, .ref (a 0)), (2, .ref (g 0)), (3, .int x3)] → W p l e room_1 s m #[Value.ref b] below meth c H locs 113 1553 (lw_Z below #[Value.ref b] s) (F0 m 834 ls []))
    {H : Heap} {locs : List Loc} {ls : Array Slot} (hP : va_P D vwCl (wMa k a X ++ wMo k g Y) H) (hD : va_D (fun q : Nat => s.heap.size ≤ q) (wMa k a X ++ wMo k g Y)) (hS : va_S (fun q : Nat => s.heap.size ≤ q) s.heap H locs) (hl : lv_has ls 4 [(0, .ref b), (1, .ref (a 0)), (2, .ref (g 0)), (3, .int x3)]) : W p l e room_1 s m #[Value.ref b] below meth c H locs 113 1553 (lw_Z below #[Value.ref b] s) (F0 m 285 ls []) := by
  obtain ⟨hx, hb, hr, hml, hown0, hts0, hX, hbl, hlocks, hgv⟩ := C0
  have hown : s.vm.findClass RL = some m.cls := hown0
  have hts : ∀ w ∈ wsL_law, w.before #[Value.ref b] s = true := fun w h => hts0 w (wsL_law_in w h)
  have hA : ∀ q : Nat, s.heap.size ≤ q → (fun q : Nat => s.heap.size ≤ q) q := fun _ h => h
  have hbA : ¬ (fun q : Nat => s.heap.size ≤ q) b := Nat.not_le.mpr hbl
  have hv1 : vp_in (x3 + 1) L := by rw [ex3]; show vp_in (nI i + nI 1) L; rw [nI_add]; exact vp_in_nI (by omega) (by omega)
  have hv2 : vp_in (x3 + 2) L := by rw [ex3]; show vp_in (nI i + nI 2) L; rw [nI_add]; exact vp_in_nI (by omega) (by omega)
  have h := hI X Y (xs (x3 + 1).toNatClampNeg) (xs (x3 + 2).toNatClampNeg) hXY
  refine lv_aload_n hx hb dL_law_285 rfl (lv_at hl 1 rfl) ?_
  refine lv_aload_n hx hb dL_law_286 rfl (lv_at hl 0 rfl) ?_
  refine lv_iload_n hx hb dL_law_287 rfl (lv_at hl 3 rfl) ?_
  refine lv_iconst (v := (1 : Int32)) hx hb dL_law_288 (by decide) ?_
  refine lv_iadd hx hb dL_law_289 ?_
  refine va_sld hx hb hX hbl hbA hS hv1 dL_law_290 ?_
  refine lv_aload_n hx hb dL_law_291 rfl (lv_at hl 0 rfl) ?_
  refine lv_iload_n hx hb dL_law_292 rfl (lv_at hl 3 rfl) ?_
  refine lv_iconst (v := (2 : Int32)) hx hb dL_law_293 (by decide) ?_
  refine lv_iadd hx hb dL_law_294 ?_
  refine va_sld hx hb hX hbl hbA hS hv2 dL_law_295 ?_
  have hPc := fcLA_P hP
  have hDc := fcLA_D hD
  have hFc := fr_self hDc hS hA
  refine gv_i (va_runV (As := [.int (xs (x3 + 1).toNatClampNeg), .int (xs (x3 + 2).toNatClampNeg)]) (rest := []) ⟨hx, hb, hml, hown, hts⟩ (c_X6_bringers l D k a X H.size (xs (x3 + 1).toNatClampNeg) (xs (x3 + 2).toNatClampNeg) _ h) (cwV 2 hts gL_law_X6_bringers rfl rfl rfl (by decide +kernel) ⟨Nat.le_of_ble_eq_true rfl, Nat.le_of_ble_eq_true rfl⟩) (gv_preV hK hnw hPc hDc (ci := 6) rfl 0 rfl) rfl rfl hl.1 rfl (lv_room (Nat.le_of_ble_eq_true rfl)) dL_law_296 ⟨Nat.le_of_ble_eq_true rfl, Nat.le_of_ble_eq_true rfl⟩) hS hFc (fun r X2 H locs h hP1 hD1 hk1 hS => ?_)
  obtain ⟨hP, hD⟩ := fcLA_J hP hD hk1 hFc hP1 hD1
  refine lv_aload_n hx hb dL_law_299 rfl (lv_at hl 2 rfl) ?_
  refine lv_aload_n hx hb dL_law_300 rfl (lv_at hl 0 rfl) ?_
  refine lv_iload_n hx hb dL_law_301 rfl (lv_at hl 3 rfl) ?_
  refine lv_iconst (v := (1 : Int32)) hx hb dL_law_302 (by decide) ?_
  refine lv_iadd hx hb dL_law_303 ?_
  refine va_sld hx hb hX hbl hbA hS hv1 dL_law_304 ?_
  refine lv_aload_n hx hb dL_law_305 rfl (lv_at hl 0 rfl) ?_
  refine lv_iload_n hx hb dL_law_306 rfl (lv_at hl 3 rfl) ?_
  refine lv_iconst (v := (2 : Int32)) hx hb dL_law_307 (by decide) ?_
  refine lv_iadd hx hb dL_law_308 ?_
  refine va_sld hx hb hX hbl hbA hS hv2 dL_law_309 ?_
  have hPc := fcLB_P hP
  have hDc := fcLB_D hD
  have hFc := fr_self hDc hS hA
  refine gv_i (va_runV (As := [.int (xs (x3 + 1).toNatClampNeg), .int (xs (x3 + 2).toNatClampNeg)]) (rest := [.int r]) ⟨hx, hb, hml, hown, hts⟩ (c_X7_bringers l D k g Y H.size (xs (x3 + 1).toNatClampNeg) (xs (x3 + 2).toNatClampNeg) _ h) (cwV 2 hts gL_law_X7_bringers rfl rfl rfl (by decide +kernel) ⟨Nat.le_of_ble_eq_true rfl, Nat.le_of_ble_eq_true rfl⟩) (gv_preV hK hnw hPc hDc (ci := 7) rfl 0 rfl) rfl rfl hl.1 rfl (lv_room (Nat.le_of_ble_eq_true rfl)) dL_law_310 ⟨Nat.le_of_ble_eq_true rfl, Nat.le_of_ble_eq_true rfl⟩) hS hFc (fun r2 Y2 H locs h hP1 hD1 hk1 hS => ?_)
  obtain ⟨hP, hD⟩ := fcLB_J hP hD hk1 hFc hP1 hD1
  refine lv_icmp_eq (tgt := 834) hx hb dL_law_313 (by decide) (fun _ => ?_) (fun c => absurd h.1 c)
  exact ih X2 Y2 h.2 H locs ls hP hD hS hl
set_option maxRecDepth 100000 in
set_option maxHeartbeats 4000000 in
theorem lc_6 {p : Program} {l : Launch} {e : Env} {s : State} {m : MethodId} {below : List Frame} {meth : Method} {c : Code} {D : va_G} {k : Nat → ClassId} {b L : Nat} {xs : Nat → Int32} (hL : L ≤ 256) (C0 : lw_At p s m meth c b L xs) (hnw : nwP s) (hK : va_K D vwCl (tysOf k) s) {Inv : CS → St → Prop} (a g : Nat → Nat) (hI : LS_6 Inv) {i : Nat} {x3 : Int32} (hi : i + 4 ≤ L) (ex3 : x3 = nI i) {X : CS} {Y : St} (hXY : Inv X Y)
    (ih : ∀ (X : CS) (Y : St), Inv X Y → ∀ (H : Heap) (locs : List Loc) (ls : Array Slot), va_P D vwCl (wMa k a X ++ wMo k g Y) H → va_D (fun q : Nat => s.heap.size ≤ q) (wMa k a X ++ wMo k g Y) → va_S (fun q : Nat => s.heap.size ≤ q) s.heap H locs → lv_has ls 4 [(0, .ref b), (1, .ref (a 0)), (2, .ref (g 0)), (3, .int x3)] → W p l e room_1 s m #[Value.ref b] below meth c H locs 113 1553 (lw_Z below #[Value.ref b] s) (F0 m 834 ls []))
    {H : Heap} {locs : List Loc} {ls : Array Slot} (hP : va_P D vwCl (wMa k a X ++ wMo k g Y) H) (hD : va_D (fun q : Nat => s.heap.size ≤ q) (wMa k a X ++ wMo k g Y)) (hS : va_S (fun q : Nat => s.heap.size ≤ q) s.heap H locs) (hl : lv_has ls 4 [(0, .ref b), (1, .ref (a 0)), (2, .ref (g 0)), (3, .int x3)]) : W p l e room_1 s m #[Value.ref b] below meth c H locs 113 1553 (lw_Z below #[Value.ref b] s) (F0 m 318 ls []) := by
  obtain ⟨hx, hb, hr, hml, hown0, hts0, hX, hbl, hlocks, hgv⟩ := C0
  have hown : s.vm.findClass RL = some m.cls := hown0
  have hts : ∀ w ∈ wsL_law, w.before #[Value.ref b] s = true := fun w h => hts0 w (wsL_law_in w h)
  have hA : ∀ q : Nat, s.heap.size ≤ q → (fun q : Nat => s.heap.size ≤ q) q := fun _ h => h
  have hbA : ¬ (fun q : Nat => s.heap.size ≤ q) b := Nat.not_le.mpr hbl
  have hv1 : vp_in (x3 + 1) L := by rw [ex3]; show vp_in (nI i + nI 1) L; rw [nI_add]; exact vp_in_nI (by omega) (by omega)
  have hv2 : vp_in (x3 + 2) L := by rw [ex3]; show vp_in (nI i + nI 2) L; rw [nI_add]; exact vp_in_nI (by omega) (by omega)
  have h := hI X Y (xs (x3 + 1).toNatClampNeg) (xs (x3 + 2).toNatClampNeg) hXY
  refine lv_aload_n hx hb dL_law_318 rfl (lv_at hl 1 rfl) ?_
  refine lv_aload_n hx hb dL_law_319 rfl (lv_at hl 0 rfl) ?_
  refine lv_iload_n hx hb dL_law_320 rfl (lv_at hl 3 rfl) ?_
  refine lv_iconst (v := (1 : Int32)) hx hb dL_law_321 (by decide) ?_
  refine lv_iadd hx hb dL_law_322 ?_
  refine va_sld hx hb hX hbl hbA hS hv1 dL_law_323 ?_
  refine lv_aload_n hx hb dL_law_324 rfl (lv_at hl 0 rfl) ?_
  refine lv_iload_n hx hb dL_law_325 rfl (lv_at hl 3 rfl) ?_
  refine lv_iconst (v := (2 : Int32)) hx hb dL_law_326 (by decide) ?_
  refine lv_iadd hx hb dL_law_327 ?_
  refine va_sld hx hb hX hbl hbA hS hv2 dL_law_328 ?_
  have hPc := fcLA_P hP
  have hDc := fcLA_D hD
  have hFc := fr_self hDc hS hA
  refine gv_i (va_runV (As := [.int (xs (x3 + 1).toNatClampNeg), .int (xs (x3 + 2).toNatClampNeg)]) (rest := []) ⟨hx, hb, hml, hown, hts⟩ (c_X6_may l D k a X H.size (xs (x3 + 1).toNatClampNeg) (xs (x3 + 2).toNatClampNeg) _ h) (cwV 2 hts gL_law_X6_may rfl rfl rfl (by decide +kernel) ⟨Nat.le_of_ble_eq_true rfl, Nat.le_of_ble_eq_true rfl⟩) (gv_preV hK hnw hPc hDc (ci := 6) rfl 0 rfl) rfl rfl hl.1 rfl (lv_room (Nat.le_of_ble_eq_true rfl)) dL_law_329 ⟨Nat.le_of_ble_eq_true rfl, Nat.le_of_ble_eq_true rfl⟩) hS hFc (fun r X2 H locs h hP1 hD1 hk1 hS => ?_)
  obtain ⟨hP, hD⟩ := fcLA_J hP hD hk1 hFc hP1 hD1
  refine lv_aload_n hx hb dL_law_332 rfl (lv_at hl 2 rfl) ?_
  refine lv_aload_n hx hb dL_law_333 rfl (lv_at hl 0 rfl) ?_
  refine lv_iload_n hx hb dL_law_334 rfl (lv_at hl 3 rfl) ?_
  refine lv_iconst (v := (1 : Int32)) hx hb dL_law_335 (by decide) ?_
  refine lv_iadd hx hb dL_law_336 ?_
  refine va_sld hx hb hX hbl hbA hS hv1 dL_law_337 ?_
  refine lv_aload_n hx hb dL_law_338 rfl (lv_at hl 0 rfl) ?_
  refine lv_iload_n hx hb dL_law_339 rfl (lv_at hl 3 rfl) ?_
  refine lv_iconst (v := (2 : Int32)) hx hb dL_law_340 (by decide) ?_
  refine lv_iadd hx hb dL_law_341 ?_
  refine va_sld hx hb hX hbl hbA hS hv2 dL_law_342 ?_
  have hPc := fcLB_P hP
  have hDc := fcLB_D hD
  have hFc := fr_self hDc hS hA
  refine gv_i (va_runV (As := [.int (xs (x3 + 1).toNatClampNeg), .int (xs (x3 + 2).toNatClampNeg)]) (rest := [.int r]) ⟨hx, hb, hml, hown, hts⟩ (c_X7_may l D k g Y H.size (xs (x3 + 1).toNatClampNeg) (xs (x3 + 2).toNatClampNeg) _ h) (cwV 2 hts gL_law_X7_may rfl rfl rfl (by decide +kernel) ⟨Nat.le_of_ble_eq_true rfl, Nat.le_of_ble_eq_true rfl⟩) (gv_preV hK hnw hPc hDc (ci := 7) rfl 0 rfl) rfl rfl hl.1 rfl (lv_room (Nat.le_of_ble_eq_true rfl)) dL_law_343 ⟨Nat.le_of_ble_eq_true rfl, Nat.le_of_ble_eq_true rfl⟩) hS hFc (fun r2 Y2 H locs h hP1 hD1 hk1 hS => ?_)
  obtain ⟨hP, hD⟩ := fcLB_J hP hD hk1 hFc hP1 hD1
  refine lv_icmp_eq (tgt := 834) hx hb dL_law_346 (by decide) (fun _ => ?_) (fun c => absurd h.1 c)
  exact ih X2 Y2 h.2 H locs ls hP hD hS hl
set_option maxRecDepth 100000 in
set_option maxHeartbeats 4000000 in
theorem lc_7 {p : Program} {l : Launch} {e : Env} {s : State} {m : MethodId} {below : List Frame} {meth : Method} {c : Code} {D : va_G} {k : Nat → ClassId} {b L : Nat} {xs : Nat → Int32} (hL : L ≤ 256) (C0 : lw_At p s m meth c b L xs) (hnw : nwP s) (hK : va_K D vwCl (tysOf k) s) {Inv : CS → St → Prop} (a g : Nat → Nat) (hI : LS_7 Inv) {i : Nat} {x3 : Int32} (hi : i + 4 ≤ L) (ex3 : x3 = nI i) {X : CS} {Y : St} (hXY : Inv X Y)
    (ih : ∀ (X : CS) (Y : St), Inv X Y → ∀ (H : Heap) (locs : List Loc) (ls : Array Slot), va_P D vwCl (wMa k a X ++ wMo k g Y) H → va_D (fun q : Nat => s.heap.size ≤ q) (wMa k a X ++ wMo k g Y) → va_S (fun q : Nat => s.heap.size ≤ q) s.heap H locs → lv_has ls 4 [(0, .ref b), (1, .ref (a 0)), (2, .ref (g 0)), (3, .int x3)] → W p l e room_1 s m #[Value.ref b] below meth c H locs 113 1553 (lw_Z below #[Value.ref b] s) (F0 m 834 ls []))
    {H : Heap} {locs : List Loc} {ls : Array Slot} (hP : va_P D vwCl (wMa k a X ++ wMo k g Y) H) (hD : va_D (fun q : Nat => s.heap.size ≤ q) (wMa k a X ++ wMo k g Y)) (hS : va_S (fun q : Nat => s.heap.size ≤ q) s.heap H locs) (hl : lv_has ls 4 [(0, .ref b), (1, .ref (a 0)), (2, .ref (g 0)), (3, .int x3)]) : W p l e room_1 s m #[Value.ref b] below meth c H locs 113 1553 (lw_Z below #[Value.ref b] s) (F0 m 351 ls []) := by
  obtain ⟨hx, hb, hr, hml, hown0, hts0, hX, hbl, hlocks, hgv⟩ := C0
  have hown : s.vm.findClass RL = some m.cls := hown0
  have hts : ∀ w ∈ wsL_law, w.before #[Value.ref b] s = true := fun w h => hts0 w (wsL_law_in w h)
  have hA : ∀ q : Nat, s.heap.size ≤ q → (fun q : Nat => s.heap.size ≤ q) q := fun _ h => h
  have hbA : ¬ (fun q : Nat => s.heap.size ≤ q) b := Nat.not_le.mpr hbl
  have hv1 : vp_in (x3 + 1) L := by rw [ex3]; show vp_in (nI i + nI 1) L; rw [nI_add]; exact vp_in_nI (by omega) (by omega)
  have hv2 : vp_in (x3 + 2) L := by rw [ex3]; show vp_in (nI i + nI 2) L; rw [nI_add]; exact vp_in_nI (by omega) (by omega)
  have hv3 : vp_in (x3 + 3) L := by rw [ex3]; show vp_in (nI i + nI 3) L; rw [nI_add]; exact vp_in_nI (by omega) (by omega)
  have h := hI X Y (xs (x3 + 1).toNatClampNeg) (xs (x3 + 2).toNatClampNeg) (xs (x3 + 3).toNatClampNeg) hXY
  refine lv_aload_n hx hb dL_law_351 rfl (lv_at hl 1 rfl) ?_
  refine lv_aload_n hx hb dL_law_352 rfl (lv_at hl 0 rfl) ?_
  refine lv_iload_n hx hb dL_law_353 rfl (lv_at hl 3 rfl) ?_
  refine lv_iconst (v := (1 : Int32)) hx hb dL_law_354 (by decide) ?_
  refine lv_iadd hx hb dL_law_355 ?_
  refine va_sld hx hb hX hbl hbA hS hv1 dL_law_356 ?_
  refine lv_aload_n hx hb dL_law_357 rfl (lv_at hl 0 rfl) ?_
  refine lv_iload_n hx hb dL_law_358 rfl (lv_at hl 3 rfl) ?_
  refine lv_iconst (v := (2 : Int32)) hx hb dL_law_359 (by decide) ?_
  refine lv_iadd hx hb dL_law_360 ?_
  refine va_sld hx hb hX hbl hbA hS hv2 dL_law_361 ?_
  refine lv_aload_n hx hb dL_law_362 rfl (lv_at hl 0 rfl) ?_
  refine lv_iload_n hx hb dL_law_363 rfl (lv_at hl 3 rfl) ?_
  refine lv_iconst (v := (3 : Int32)) hx hb dL_law_364 (by decide) ?_
  refine lv_iadd hx hb dL_law_365 ?_
  refine va_sld hx hb hX hbl hbA hS hv3 dL_law_366 ?_
  have hPc := fcLA_P hP
  have hDc := fcLA_D hD
  have hFc := fr_self hDc hS hA
  refine gv_i (va_runV (As := [.int (xs (x3 + 1).toNatClampNeg), .int (xs (x3 + 2).toNatClampNeg), .int (xs (x3 + 3).toNatClampNeg)]) (rest := []) ⟨hx, hb, hml, hown, hts⟩ (c_X6_dance l D k a X H.size (xs (x3 + 1).toNatClampNeg) (xs (x3 + 2).toNatClampNeg) (xs (x3 + 3).toNatClampNeg) _ h) (cwV 3 hts gL_law_X6_dance rfl rfl rfl (by decide +kernel) ⟨Nat.le_of_ble_eq_true rfl, Nat.le_of_ble_eq_true rfl⟩) (gv_preV hK hnw hPc hDc (ci := 6) rfl 0 rfl) rfl rfl hl.1 rfl (lv_room (Nat.le_of_ble_eq_true rfl)) dL_law_367 ⟨Nat.le_of_ble_eq_true rfl, Nat.le_of_ble_eq_true rfl⟩) hS hFc (fun r X2 H locs h hP1 hD1 hk1 hS => ?_)
  obtain ⟨hP, hD⟩ := fcLA_J hP hD hk1 hFc hP1 hD1
  refine lv_aload_n hx hb dL_law_370 rfl (lv_at hl 2 rfl) ?_
  refine lv_aload_n hx hb dL_law_371 rfl (lv_at hl 0 rfl) ?_
  refine lv_iload_n hx hb dL_law_372 rfl (lv_at hl 3 rfl) ?_
  refine lv_iconst (v := (1 : Int32)) hx hb dL_law_373 (by decide) ?_
  refine lv_iadd hx hb dL_law_374 ?_
  refine va_sld hx hb hX hbl hbA hS hv1 dL_law_375 ?_
  refine lv_aload_n hx hb dL_law_376 rfl (lv_at hl 0 rfl) ?_
  refine lv_iload_n hx hb dL_law_377 rfl (lv_at hl 3 rfl) ?_
  refine lv_iconst (v := (2 : Int32)) hx hb dL_law_378 (by decide) ?_
  refine lv_iadd hx hb dL_law_379 ?_
  refine va_sld hx hb hX hbl hbA hS hv2 dL_law_380 ?_
  refine lv_aload_n hx hb dL_law_381 rfl (lv_at hl 0 rfl) ?_
  refine lv_iload_n hx hb dL_law_382 rfl (lv_at hl 3 rfl) ?_
  refine lv_iconst (v := (3 : Int32)) hx hb dL_law_383 (by decide) ?_
  refine lv_iadd hx hb dL_law_384 ?_
  refine va_sld hx hb hX hbl hbA hS hv3 dL_law_385 ?_
  have hPc := fcLB_P hP
  have hDc := fcLB_D hD
  have hFc := fr_self hDc hS hA
  refine gv_i (va_runV (As := [.int (xs (x3 + 1).toNatClampNeg), .int (xs (x3 + 2).toNatClampNeg), .int (xs (x3 + 3).toNatClampNeg)]) (rest := [.int r]) ⟨hx, hb, hml, hown, hts⟩ (c_X7_dance l D k g Y H.size (xs (x3 + 1).toNatClampNeg) (xs (x3 + 2).toNatClampNeg) (xs (x3 + 3).toNatClampNeg) _ h) (cwV 3 hts gL_law_X7_dance rfl rfl rfl (by decide +kernel) ⟨Nat.le_of_ble_eq_true rfl, Nat.le_of_ble_eq_true rfl⟩) (gv_preV hK hnw hPc hDc (ci := 7) rfl 0 rfl) rfl rfl hl.1 rfl (lv_room (Nat.le_of_ble_eq_true rfl)) dL_law_386 ⟨Nat.le_of_ble_eq_true rfl, Nat.le_of_ble_eq_true rfl⟩) hS hFc (fun r2 Y2 H locs h hP1 hD1 hk1 hS => ?_)
  obtain ⟨hP, hD⟩ := fcLB_J hP hD hk1 hFc hP1 hD1
  refine lv_icmp_eq (tgt := 834) hx hb dL_law_389 (by decide) (fun _ => ?_) (fun c => absurd h.1 c)
  exact ih X2 Y2 h.2 H locs ls hP hD hS hl
set_option maxRecDepth 100000 in
set_option maxHeartbeats 4000000 in
theorem lc_8 {p : Program} {l : Launch} {e : Env} {s : State} {m : MethodId} {below : List Frame} {meth : Method} {c : Code} {D : va_G} {k : Nat → ClassId} {b L : Nat} {xs : Nat → Int32} (hL : L ≤ 256) (C0 : lw_At p s m meth c b L xs) (hnw : nwP s) (hK : va_K D vwCl (tysOf k) s) {Inv : CS → St → Prop} (a g : Nat → Nat) (hI : LS_8 Inv) {i : Nat} {x3 : Int32} (hi : i + 4 ≤ L) (ex3 : x3 = nI i) {X : CS} {Y : St} (hXY : Inv X Y)
    (ih : ∀ (X : CS) (Y : St), Inv X Y → ∀ (H : Heap) (locs : List Loc) (ls : Array Slot), va_P D vwCl (wMa k a X ++ wMo k g Y) H → va_D (fun q : Nat => s.heap.size ≤ q) (wMa k a X ++ wMo k g Y) → va_S (fun q : Nat => s.heap.size ≤ q) s.heap H locs → lv_has ls 4 [(0, .ref b), (1, .ref (a 0)), (2, .ref (g 0)), (3, .int x3)] → W p l e room_1 s m #[Value.ref b] below meth c H locs 113 1553 (lw_Z below #[Value.ref b] s) (F0 m 834 ls []))
    {H : Heap} {locs : List Loc} {ls : Array Slot} (hP : va_P D vwCl (wMa k a X ++ wMo k g Y) H) (hD : va_D (fun q : Nat => s.heap.size ≤ q) (wMa k a X ++ wMo k g Y)) (hS : va_S (fun q : Nat => s.heap.size ≤ q) s.heap H locs) (hl : lv_has ls 4 [(0, .ref b), (1, .ref (a 0)), (2, .ref (g 0)), (3, .int x3)]) : W p l e room_1 s m #[Value.ref b] below meth c H locs 113 1553 (lw_Z below #[Value.ref b] s) (F0 m 394 ls []) := by
  obtain ⟨hx, hb, hr, hml, hown0, hts0, hX, hbl, hlocks, hgv⟩ := C0
  have hown : s.vm.findClass RL = some m.cls := hown0
  have hts : ∀ w ∈ wsL_law, w.before #[Value.ref b] s = true := fun w h => hts0 w (wsL_law_in w h)
  have hA : ∀ q : Nat, s.heap.size ≤ q → (fun q : Nat => s.heap.size ≤ q) q := fun _ h => h
  have hbA : ¬ (fun q : Nat => s.heap.size ≤ q) b := Nat.not_le.mpr hbl
  have h := hI X Y  hXY
  refine lv_aload_n hx hb dL_law_394 rfl (lv_at hl 1 rfl) ?_
  have hPc := fcLA_P hP
  have hDc := fcLA_D hD
  have hFc := fr_self hDc hS hA
  refine gv_i (va_runV (As := []) (rest := []) ⟨hx, hb, hml, hown, hts⟩ (c_X6_night l D k a X H.size _ h) (cwV 0 hts gL_law_X6_night rfl rfl rfl (by decide +kernel) ⟨Nat.le_of_ble_eq_true rfl, Nat.le_of_ble_eq_true rfl⟩) (gv_preV hK hnw hPc hDc (ci := 6) rfl 0 rfl) rfl rfl hl.1 rfl (lv_room (Nat.le_of_ble_eq_true rfl)) dL_law_395 ⟨Nat.le_of_ble_eq_true rfl, Nat.le_of_ble_eq_true rfl⟩) hS hFc (fun r X2 H locs h hP1 hD1 hk1 hS => ?_)
  obtain ⟨hP, hD⟩ := fcLA_J hP hD hk1 hFc hP1 hD1
  refine lv_aload_n hx hb dL_law_398 rfl (lv_at hl 2 rfl) ?_
  have hPc := fcLB_P hP
  have hDc := fcLB_D hD
  have hFc := fr_self hDc hS hA
  refine gv_i (va_runV (As := []) (rest := [.int r]) ⟨hx, hb, hml, hown, hts⟩ (c_X7_night l D k g Y H.size _ h) (cwV 0 hts gL_law_X7_night rfl rfl rfl (by decide +kernel) ⟨Nat.le_of_ble_eq_true rfl, Nat.le_of_ble_eq_true rfl⟩) (gv_preV hK hnw hPc hDc (ci := 7) rfl 0 rfl) rfl rfl hl.1 rfl (lv_room (Nat.le_of_ble_eq_true rfl)) dL_law_399 ⟨Nat.le_of_ble_eq_true rfl, Nat.le_of_ble_eq_true rfl⟩) hS hFc (fun r2 Y2 H locs h hP1 hD1 hk1 hS => ?_)
  obtain ⟨hP, hD⟩ := fcLB_J hP hD hk1 hFc hP1 hD1
  refine lv_icmp_eq (tgt := 834) hx hb dL_law_402 (by decide) (fun _ => ?_) (fun c => absurd h.1 c)
  exact ih X2 Y2 h.2 H locs ls hP hD hS hl
set_option maxRecDepth 100000 in
set_option maxHeartbeats 4000000 in
theorem lc_9 {p : Program} {l : Launch} {e : Env} {s : State} {m : MethodId} {below : List Frame} {meth : Method} {c : Code} {D : va_G} {k : Nat → ClassId} {b L : Nat} {xs : Nat → Int32} (hL : L ≤ 256) (C0 : lw_At p s m meth c b L xs) (hnw : nwP s) (hK : va_K D vwCl (tysOf k) s) {Inv : CS → St → Prop} (a g : Nat → Nat) (hI : LS_9 Inv) {i : Nat} {x3 : Int32} (hi : i + 4 ≤ L) (ex3 : x3 = nI i) {X : CS} {Y : St} (hXY : Inv X Y)
    (ih : ∀ (X : CS) (Y : St), Inv X Y → ∀ (H : Heap) (locs : List Loc) (ls : Array Slot), va_P D vwCl (wMa k a X ++ wMo k g Y) H → va_D (fun q : Nat => s.heap.size ≤ q) (wMa k a X ++ wMo k g Y) → va_S (fun q : Nat => s.heap.size ≤ q) s.heap H locs → lv_has ls 4 [(0, .ref b), (1, .ref (a 0)), (2, .ref (g 0)), (3, .int x3)] → W p l e room_1 s m #[Value.ref b] below meth c H locs 113 1553 (lw_Z below #[Value.ref b] s) (F0 m 834 ls []))
    {H : Heap} {locs : List Loc} {ls : Array Slot} (hP : va_P D vwCl (wMa k a X ++ wMo k g Y) H) (hD : va_D (fun q : Nat => s.heap.size ≤ q) (wMa k a X ++ wMo k g Y)) (hS : va_S (fun q : Nat => s.heap.size ≤ q) s.heap H locs) (hl : lv_has ls 4 [(0, .ref b), (1, .ref (a 0)), (2, .ref (g 0)), (3, .int x3)]) : W p l e room_1 s m #[Value.ref b] below meth c H locs 113 1553 (lw_Z below #[Value.ref b] s) (F0 m 407 ls []) := by
  obtain ⟨hx, hb, hr, hml, hown0, hts0, hX, hbl, hlocks, hgv⟩ := C0
  have hown : s.vm.findClass RL = some m.cls := hown0
  have hts : ∀ w ∈ wsL_law, w.before #[Value.ref b] s = true := fun w h => hts0 w (wsL_law_in w h)
  have hA : ∀ q : Nat, s.heap.size ≤ q → (fun q : Nat => s.heap.size ≤ q) q := fun _ h => h
  have hbA : ¬ (fun q : Nat => s.heap.size ≤ q) b := Nat.not_le.mpr hbl
  have hv1 : vp_in (x3 + 1) L := by rw [ex3]; show vp_in (nI i + nI 1) L; rw [nI_add]; exact vp_in_nI (by omega) (by omega)
  have hv2 : vp_in (x3 + 2) L := by rw [ex3]; show vp_in (nI i + nI 2) L; rw [nI_add]; exact vp_in_nI (by omega) (by omega)
  have h := hI X Y (xs (x3 + 1).toNatClampNeg) (xs (x3 + 2).toNatClampNeg) hXY
  refine lv_aload_n hx hb dL_law_407 rfl (lv_at hl 1 rfl) ?_
  refine lv_aload_n hx hb dL_law_408 rfl (lv_at hl 0 rfl) ?_
  refine lv_iload_n hx hb dL_law_409 rfl (lv_at hl 3 rfl) ?_
  refine lv_iconst (v := (1 : Int32)) hx hb dL_law_410 (by decide) ?_
  refine lv_iadd hx hb dL_law_411 ?_
  refine va_sld hx hb hX hbl hbA hS hv1 dL_law_412 ?_
  refine lv_aload_n hx hb dL_law_413 rfl (lv_at hl 0 rfl) ?_
  refine lv_iload_n hx hb dL_law_414 rfl (lv_at hl 3 rfl) ?_
  refine lv_iconst (v := (2 : Int32)) hx hb dL_law_415 (by decide) ?_
  refine lv_iadd hx hb dL_law_416 ?_
  refine va_sld hx hb hX hbl hbA hS hv2 dL_law_417 ?_
  have hPc := fcLA_P hP
  have hDc := fcLA_D hD
  have hFc := fr_self hDc hS hA
  refine gv_i (va_runV (As := [.int (xs (x3 + 1).toNatClampNeg), .int (xs (x3 + 2).toNatClampNeg)]) (rest := []) ⟨hx, hb, hml, hown, hts⟩ (c_X6_ever l D k a X H.size (xs (x3 + 1).toNatClampNeg) (xs (x3 + 2).toNatClampNeg) _ h) (cwV 2 hts gL_law_X6_ever rfl rfl rfl (by decide +kernel) ⟨Nat.le_of_ble_eq_true rfl, Nat.le_of_ble_eq_true rfl⟩) (gv_preV hK hnw hPc hDc (ci := 6) rfl 0 rfl) rfl rfl hl.1 rfl (lv_room (Nat.le_of_ble_eq_true rfl)) dL_law_418 ⟨Nat.le_of_ble_eq_true rfl, Nat.le_of_ble_eq_true rfl⟩) hS hFc (fun r X2 H locs h hP1 hD1 hk1 hS => ?_)
  obtain ⟨hP, hD⟩ := fcLA_J hP hD hk1 hFc hP1 hD1
  refine lv_aload_n hx hb dL_law_421 rfl (lv_at hl 2 rfl) ?_
  refine lv_aload_n hx hb dL_law_422 rfl (lv_at hl 0 rfl) ?_
  refine lv_iload_n hx hb dL_law_423 rfl (lv_at hl 3 rfl) ?_
  refine lv_iconst (v := (1 : Int32)) hx hb dL_law_424 (by decide) ?_
  refine lv_iadd hx hb dL_law_425 ?_
  refine va_sld hx hb hX hbl hbA hS hv1 dL_law_426 ?_
  refine lv_aload_n hx hb dL_law_427 rfl (lv_at hl 0 rfl) ?_
  refine lv_iload_n hx hb dL_law_428 rfl (lv_at hl 3 rfl) ?_
  refine lv_iconst (v := (2 : Int32)) hx hb dL_law_429 (by decide) ?_
  refine lv_iadd hx hb dL_law_430 ?_
  refine va_sld hx hb hX hbl hbA hS hv2 dL_law_431 ?_
  have hPc := fcLB_P hP
  have hDc := fcLB_D hD
  have hFc := fr_self hDc hS hA
  refine gv_i (va_runV (As := [.int (xs (x3 + 1).toNatClampNeg), .int (xs (x3 + 2).toNatClampNeg)]) (rest := [.int r]) ⟨hx, hb, hml, hown, hts⟩ (c_X7_ever l D k g Y H.size (xs (x3 + 1).toNatClampNeg) (xs (x3 + 2).toNatClampNeg) _ h) (cwV 2 hts gL_law_X7_ever rfl rfl rfl (by decide +kernel) ⟨Nat.le_of_ble_eq_true rfl, Nat.le_of_ble_eq_true rfl⟩) (gv_preV hK hnw hPc hDc (ci := 7) rfl 0 rfl) rfl rfl hl.1 rfl (lv_room (Nat.le_of_ble_eq_true rfl)) dL_law_432 ⟨Nat.le_of_ble_eq_true rfl, Nat.le_of_ble_eq_true rfl⟩) hS hFc (fun r2 Y2 H locs h hP1 hD1 hk1 hS => ?_)
  obtain ⟨hP, hD⟩ := fcLB_J hP hD hk1 hFc hP1 hD1
  refine lv_icmp_eq (tgt := 834) hx hb dL_law_435 (by decide) (fun _ => ?_) (fun c => absurd h.1 c)
  exact ih X2 Y2 h.2 H locs ls hP hD hS hl
set_option maxRecDepth 100000 in
set_option maxHeartbeats 4000000 in
theorem lc_10 {p : Program} {l : Launch} {e : Env} {s : State} {m : MethodId} {below : List Frame} {meth : Method} {c : Code} {D : va_G} {k : Nat → ClassId} {b L : Nat} {xs : Nat → Int32} (hL : L ≤ 256) (C0 : lw_At p s m meth c b L xs) (hnw : nwP s) (hK : va_K D vwCl (tysOf k) s) {Inv : CS → St → Prop} (a g : Nat → Nat) (hI : LS_10 Inv) {i : Nat} {x3 : Int32} (hi : i + 4 ≤ L) (ex3 : x3 = nI i) {X : CS} {Y : St} (hXY : Inv X Y)
    (ih : ∀ (X : CS) (Y : St), Inv X Y → ∀ (H : Heap) (locs : List Loc) (ls : Array Slot), va_P D vwCl (wMa k a X ++ wMo k g Y) H → va_D (fun q : Nat => s.heap.size ≤ q) (wMa k a X ++ wMo k g Y) → va_S (fun q : Nat => s.heap.size ≤ q) s.heap H locs → lv_has ls 4 [(0, .ref b), (1, .ref (a 0)), (2, .ref (g 0)), (3, .int x3)] → W p l e room_1 s m #[Value.ref b] below meth c H locs 113 1553 (lw_Z below #[Value.ref b] s) (F0 m 834 ls []))
    {H : Heap} {locs : List Loc} {ls : Array Slot} (hP : va_P D vwCl (wMa k a X ++ wMo k g Y) H) (hD : va_D (fun q : Nat => s.heap.size ≤ q) (wMa k a X ++ wMo k g Y)) (hS : va_S (fun q : Nat => s.heap.size ≤ q) s.heap H locs) (hl : lv_has ls 4 [(0, .ref b), (1, .ref (a 0)), (2, .ref (g 0)), (3, .int x3)]) : W p l e room_1 s m #[Value.ref b] below meth c H locs 113 1553 (lw_Z below #[Value.ref b] s) (F0 m 440 ls []) := by
  obtain ⟨hx, hb, hr, hml, hown0, hts0, hX, hbl, hlocks, hgv⟩ := C0
  have hown : s.vm.findClass RL = some m.cls := hown0
  have hts : ∀ w ∈ wsL_law, w.before #[Value.ref b] s = true := fun w h => hts0 w (wsL_law_in w h)
  have hA : ∀ q : Nat, s.heap.size ≤ q → (fun q : Nat => s.heap.size ≤ q) q := fun _ h => h
  have hbA : ¬ (fun q : Nat => s.heap.size ≤ q) b := Nat.not_le.mpr hbl
  have hv1 : vp_in (x3 + 1) L := by rw [ex3]; show vp_in (nI i + nI 1) L; rw [nI_add]; exact vp_in_nI (by omega) (by omega)
  have hv2 : vp_in (x3 + 2) L := by rw [ex3]; show vp_in (nI i + nI 2) L; rw [nI_add]; exact vp_in_nI (by omega) (by omega)
  have h := hI X Y (xs (x3 + 1).toNatClampNeg) (xs (x3 + 2).toNatClampNeg) hXY
  refine lv_aload_n hx hb dL_law_440 rfl (lv_at hl 1 rfl) ?_
  refine lv_aload_n hx hb dL_law_441 rfl (lv_at hl 0 rfl) ?_
  refine lv_iload_n hx hb dL_law_442 rfl (lv_at hl 3 rfl) ?_
  refine lv_iconst (v := (1 : Int32)) hx hb dL_law_443 (by decide) ?_
  refine lv_iadd hx hb dL_law_444 ?_
  refine va_sld hx hb hX hbl hbA hS hv1 dL_law_445 ?_
  refine lv_aload_n hx hb dL_law_446 rfl (lv_at hl 0 rfl) ?_
  refine lv_iload_n hx hb dL_law_447 rfl (lv_at hl 3 rfl) ?_
  refine lv_iconst (v := (2 : Int32)) hx hb dL_law_448 (by decide) ?_
  refine lv_iadd hx hb dL_law_449 ?_
  refine va_sld hx hb hX hbl hbA hS hv2 dL_law_450 ?_
  have hPc := fcLA_P hP
  have hDc := fcLA_D hD
  have hFc := fr_self hDc hS hA
  refine gv_i (va_runV (As := [.int (xs (x3 + 1).toNatClampNeg), .int (xs (x3 + 2).toNatClampNeg)]) (rest := []) ⟨hx, hb, hml, hown, hts⟩ (c_X6_round l D k a X H.size (xs (x3 + 1).toNatClampNeg) (xs (x3 + 2).toNatClampNeg) _ h) (cwV 2 hts gL_law_X6_round rfl rfl rfl (by decide +kernel) ⟨Nat.le_of_ble_eq_true rfl, Nat.le_of_ble_eq_true rfl⟩) (gv_preV hK hnw hPc hDc (ci := 6) rfl 0 rfl) rfl rfl hl.1 rfl (lv_room (Nat.le_of_ble_eq_true rfl)) dL_law_451 ⟨Nat.le_of_ble_eq_true rfl, Nat.le_of_ble_eq_true rfl⟩) hS hFc (fun r X2 H locs h hP1 hD1 hk1 hS => ?_)
  obtain ⟨hP, hD⟩ := fcLA_J hP hD hk1 hFc hP1 hD1
  refine lv_aload_n hx hb dL_law_454 rfl (lv_at hl 2 rfl) ?_
  refine lv_aload_n hx hb dL_law_455 rfl (lv_at hl 0 rfl) ?_
  refine lv_iload_n hx hb dL_law_456 rfl (lv_at hl 3 rfl) ?_
  refine lv_iconst (v := (1 : Int32)) hx hb dL_law_457 (by decide) ?_
  refine lv_iadd hx hb dL_law_458 ?_
  refine va_sld hx hb hX hbl hbA hS hv1 dL_law_459 ?_
  refine lv_aload_n hx hb dL_law_460 rfl (lv_at hl 0 rfl) ?_
  refine lv_iload_n hx hb dL_law_461 rfl (lv_at hl 3 rfl) ?_
  refine lv_iconst (v := (2 : Int32)) hx hb dL_law_462 (by decide) ?_
  refine lv_iadd hx hb dL_law_463 ?_
  refine va_sld hx hb hX hbl hbA hS hv2 dL_law_464 ?_
  have hPc := fcLB_P hP
  have hDc := fcLB_D hD
  have hFc := fr_self hDc hS hA
  refine gv_i (va_runV (As := [.int (xs (x3 + 1).toNatClampNeg), .int (xs (x3 + 2).toNatClampNeg)]) (rest := [.int r]) ⟨hx, hb, hml, hown, hts⟩ (c_X7_round l D k g Y H.size (xs (x3 + 1).toNatClampNeg) (xs (x3 + 2).toNatClampNeg) _ h) (cwV 2 hts gL_law_X7_round rfl rfl rfl (by decide +kernel) ⟨Nat.le_of_ble_eq_true rfl, Nat.le_of_ble_eq_true rfl⟩) (gv_preV hK hnw hPc hDc (ci := 7) rfl 0 rfl) rfl rfl hl.1 rfl (lv_room (Nat.le_of_ble_eq_true rfl)) dL_law_465 ⟨Nat.le_of_ble_eq_true rfl, Nat.le_of_ble_eq_true rfl⟩) hS hFc (fun r2 Y2 H locs h hP1 hD1 hk1 hS => ?_)
  obtain ⟨hP, hD⟩ := fcLB_J hP hD hk1 hFc hP1 hD1
  refine lv_icmp_eq (tgt := 834) hx hb dL_law_468 (by decide) (fun _ => ?_) (fun c => absurd h.1 c)
  exact ih X2 Y2 h.2 H locs ls hP hD hS hl
set_option maxRecDepth 100000 in
set_option maxHeartbeats 4000000 in
theorem lc_11 {p : Program} {l : Launch} {e : Env} {s : State} {m : MethodId} {below : List Frame} {meth : Method} {c : Code} {D : va_G} {k : Nat → ClassId} {b L : Nat} {xs : Nat → Int32} (hL : L ≤ 256) (C0 : lw_At p s m meth c b L xs) (hnw : nwP s) (hK : va_K D vwCl (tysOf k) s) {Inv : CS → St → Prop} (a g : Nat → Nat) (hI : LS_11 Inv) {i : Nat} {x3 : Int32} (hi : i + 4 ≤ L) (ex3 : x3 = nI i) {X : CS} {Y : St} (hXY : Inv X Y)
    (ih : ∀ (X : CS) (Y : St), Inv X Y → ∀ (H : Heap) (locs : List Loc) (ls : Array Slot), va_P D vwCl (wMa k a X ++ wMo k g Y) H → va_D (fun q : Nat => s.heap.size ≤ q) (wMa k a X ++ wMo k g Y) → va_S (fun q : Nat => s.heap.size ≤ q) s.heap H locs → lv_has ls 4 [(0, .ref b), (1, .ref (a 0)), (2, .ref (g 0)), (3, .int x3)] → W p l e room_1 s m #[Value.ref b] below meth c H locs 113 1553 (lw_Z below #[Value.ref b] s) (F0 m 834 ls []))
    {H : Heap} {locs : List Loc} {ls : Array Slot} (hP : va_P D vwCl (wMa k a X ++ wMo k g Y) H) (hD : va_D (fun q : Nat => s.heap.size ≤ q) (wMa k a X ++ wMo k g Y)) (hS : va_S (fun q : Nat => s.heap.size ≤ q) s.heap H locs) (hl : lv_has ls 4 [(0, .ref b), (1, .ref (a 0)), (2, .ref (g 0)), (3, .int x3)]) : W p l e room_1 s m #[Value.ref b] below meth c H locs 113 1553 (lw_Z below #[Value.ref b] s) (F0 m 473 ls []) := by
  obtain ⟨hx, hb, hr, hml, hown0, hts0, hX, hbl, hlocks, hgv⟩ := C0
  have hown : s.vm.findClass RL = some m.cls := hown0
  have hts : ∀ w ∈ wsL_law, w.before #[Value.ref b] s = true := fun w h => hts0 w (wsL_law_in w h)
  have hA : ∀ q : Nat, s.heap.size ≤ q → (fun q : Nat => s.heap.size ≤ q) q := fun _ h => h
  have hbA : ¬ (fun q : Nat => s.heap.size ≤ q) b := Nat.not_le.mpr hbl
  have hv1 : vp_in (x3 + 1) L := by rw [ex3]; show vp_in (nI i + nI 1) L; rw [nI_add]; exact vp_in_nI (by omega) (by omega)
  have h := hI X Y (xs (x3 + 1).toNatClampNeg) hXY
  refine lv_aload_n hx hb dL_law_473 rfl (lv_at hl 1 rfl) ?_
  refine lv_aload_n hx hb dL_law_474 rfl (lv_at hl 0 rfl) ?_
  refine lv_iload_n hx hb dL_law_475 rfl (lv_at hl 3 rfl) ?_
  refine lv_iconst (v := (1 : Int32)) hx hb dL_law_476 (by decide) ?_
  refine lv_iadd hx hb dL_law_477 ?_
  refine va_sld hx hb hX hbl hbA hS hv1 dL_law_478 ?_
  have hPc := fcLA_P hP
  have hDc := fcLA_D hD
  have hFc := fr_self hDc hS hA
  refine gv_i (va_runV (As := [.int (xs (x3 + 1).toNatClampNeg)]) (rest := []) ⟨hx, hb, hml, hown, hts⟩ (c_X6_closed l D k a X H.size (xs (x3 + 1).toNatClampNeg) _ h) (cwV 1 hts gL_law_X6_closed rfl rfl rfl (by decide +kernel) ⟨Nat.le_of_ble_eq_true rfl, Nat.le_of_ble_eq_true rfl⟩) (gv_preV hK hnw hPc hDc (ci := 6) rfl 0 rfl) rfl rfl hl.1 rfl (lv_room (Nat.le_of_ble_eq_true rfl)) dL_law_479 ⟨Nat.le_of_ble_eq_true rfl, Nat.le_of_ble_eq_true rfl⟩) hS hFc (fun r X2 H locs h hP1 hD1 hk1 hS => ?_)
  obtain ⟨hP, hD⟩ := fcLA_J hP hD hk1 hFc hP1 hD1
  refine lv_aload_n hx hb dL_law_482 rfl (lv_at hl 2 rfl) ?_
  refine lv_aload_n hx hb dL_law_483 rfl (lv_at hl 0 rfl) ?_
  refine lv_iload_n hx hb dL_law_484 rfl (lv_at hl 3 rfl) ?_
  refine lv_iconst (v := (1 : Int32)) hx hb dL_law_485 (by decide) ?_
  refine lv_iadd hx hb dL_law_486 ?_
  refine va_sld hx hb hX hbl hbA hS hv1 dL_law_487 ?_
  have hPc := fcLB_P hP
  have hDc := fcLB_D hD
  have hFc := fr_self hDc hS hA
  refine gv_i (va_runV (As := [.int (xs (x3 + 1).toNatClampNeg)]) (rest := [.int r]) ⟨hx, hb, hml, hown, hts⟩ (c_X7_closed l D k g Y H.size (xs (x3 + 1).toNatClampNeg) _ h) (cwV 1 hts gL_law_X7_closed rfl rfl rfl (by decide +kernel) ⟨Nat.le_of_ble_eq_true rfl, Nat.le_of_ble_eq_true rfl⟩) (gv_preV hK hnw hPc hDc (ci := 7) rfl 0 rfl) rfl rfl hl.1 rfl (lv_room (Nat.le_of_ble_eq_true rfl)) dL_law_488 ⟨Nat.le_of_ble_eq_true rfl, Nat.le_of_ble_eq_true rfl⟩) hS hFc (fun r2 Y2 H locs h hP1 hD1 hk1 hS => ?_)
  obtain ⟨hP, hD⟩ := fcLB_J hP hD hk1 hFc hP1 hD1
  refine lv_icmp_eq (tgt := 834) hx hb dL_law_491 (by decide) (fun _ => ?_) (fun c => absurd h.1 c)
  exact ih X2 Y2 h.2 H locs ls hP hD hS hl
set_option maxRecDepth 100000 in
set_option maxHeartbeats 4000000 in
theorem lc_12 {p : Program} {l : Launch} {e : Env} {s : State} {m : MethodId} {below : List Frame} {meth : Method} {c : Code} {D : va_G} {k : Nat → ClassId} {b L : Nat} {xs : Nat → Int32} (hL : L ≤ 256) (C0 : lw_At p s m meth c b L xs) (hnw : nwP s) (hK : va_K D vwCl (tysOf k) s) {Inv : CS → St → Prop} (a g : Nat → Nat) (hI : LS_12 Inv) {i : Nat} {x3 : Int32} (hi : i + 4 ≤ L) (ex3 : x3 = nI i) {X : CS} {Y : St} (hXY : Inv X Y)
    (ih : ∀ (X : CS) (Y : St), Inv X Y → ∀ (H : Heap) (locs : List Loc) (ls : Array Slot), va_P D vwCl (wMa k a X ++ wMo k g Y) H → va_D (fun q : Nat => s.heap.size ≤ q) (wMa k a X ++ wMo k g Y) → va_S (fun q : Nat => s.heap.size ≤ q) s.heap H locs → lv_has ls 4 [(0, .ref b), (1, .ref (a 0)), (2, .ref (g 0)), (3, .int x3)] → W p l e room_1 s m #[Value.ref b] below meth c H locs 113 1553 (lw_Z below #[Value.ref b] s) (F0 m 834 ls []))
    {H : Heap} {locs : List Loc} {ls : Array Slot} (hP : va_P D vwCl (wMa k a X ++ wMo k g Y) H) (hD : va_D (fun q : Nat => s.heap.size ≤ q) (wMa k a X ++ wMo k g Y)) (hS : va_S (fun q : Nat => s.heap.size ≤ q) s.heap H locs) (hl : lv_has ls 4 [(0, .ref b), (1, .ref (a 0)), (2, .ref (g 0)), (3, .int x3)]) : W p l e room_1 s m #[Value.ref b] below meth c H locs 113 1553 (lw_Z below #[Value.ref b] s) (F0 m 496 ls []) := by
  obtain ⟨hx, hb, hr, hml, hown0, hts0, hX, hbl, hlocks, hgv⟩ := C0
  have hown : s.vm.findClass RL = some m.cls := hown0
  have hts : ∀ w ∈ wsL_law, w.before #[Value.ref b] s = true := fun w h => hts0 w (wsL_law_in w h)
  have hA : ∀ q : Nat, s.heap.size ≤ q → (fun q : Nat => s.heap.size ≤ q) q := fun _ h => h
  have hbA : ¬ (fun q : Nat => s.heap.size ≤ q) b := Nat.not_le.mpr hbl
  have hv1 : vp_in (x3 + 1) L := by rw [ex3]; show vp_in (nI i + nI 1) L; rw [nI_add]; exact vp_in_nI (by omega) (by omega)
  have hv2 : vp_in (x3 + 2) L := by rw [ex3]; show vp_in (nI i + nI 2) L; rw [nI_add]; exact vp_in_nI (by omega) (by omega)
  have h := hI X Y (xs (x3 + 1).toNatClampNeg) (xs (x3 + 2).toNatClampNeg) hXY
  refine lv_aload_n hx hb dL_law_496 rfl (lv_at hl 1 rfl) ?_
  refine lv_aload_n hx hb dL_law_497 rfl (lv_at hl 0 rfl) ?_
  refine lv_iload_n hx hb dL_law_498 rfl (lv_at hl 3 rfl) ?_
  refine lv_iconst (v := (1 : Int32)) hx hb dL_law_499 (by decide) ?_
  refine lv_iadd hx hb dL_law_500 ?_
  refine va_sld hx hb hX hbl hbA hS hv1 dL_law_501 ?_
  refine lv_aload_n hx hb dL_law_502 rfl (lv_at hl 0 rfl) ?_
  refine lv_iload_n hx hb dL_law_503 rfl (lv_at hl 3 rfl) ?_
  refine lv_iconst (v := (2 : Int32)) hx hb dL_law_504 (by decide) ?_
  refine lv_iadd hx hb dL_law_505 ?_
  refine va_sld hx hb hX hbl hbA hS hv2 dL_law_506 ?_
  have hPc := fcLA_P hP
  have hDc := fcLA_D hD
  have hFc := fr_self hDc hS hA
  refine gv_i (va_runV (As := [.int (xs (x3 + 1).toNatClampNeg), .int (xs (x3 + 2).toNatClampNeg)]) (rest := []) ⟨hx, hb, hml, hown, hts⟩ (c_X6_opens l D k a X H.size (xs (x3 + 1).toNatClampNeg) (xs (x3 + 2).toNatClampNeg) _ h) (cwV 2 hts gL_law_X6_opens rfl rfl rfl (by decide +kernel) ⟨Nat.le_of_ble_eq_true rfl, Nat.le_of_ble_eq_true rfl⟩) (gv_preV hK hnw hPc hDc (ci := 6) rfl 0 rfl) rfl rfl hl.1 rfl (lv_room (Nat.le_of_ble_eq_true rfl)) dL_law_507 ⟨Nat.le_of_ble_eq_true rfl, Nat.le_of_ble_eq_true rfl⟩) hS hFc (fun r X2 H locs h hP1 hD1 hk1 hS => ?_)
  obtain ⟨hP, hD⟩ := fcLA_J hP hD hk1 hFc hP1 hD1
  refine lv_aload_n hx hb dL_law_510 rfl (lv_at hl 2 rfl) ?_
  refine lv_aload_n hx hb dL_law_511 rfl (lv_at hl 0 rfl) ?_
  refine lv_iload_n hx hb dL_law_512 rfl (lv_at hl 3 rfl) ?_
  refine lv_iconst (v := (1 : Int32)) hx hb dL_law_513 (by decide) ?_
  refine lv_iadd hx hb dL_law_514 ?_
  refine va_sld hx hb hX hbl hbA hS hv1 dL_law_515 ?_
  refine lv_aload_n hx hb dL_law_516 rfl (lv_at hl 0 rfl) ?_
  refine lv_iload_n hx hb dL_law_517 rfl (lv_at hl 3 rfl) ?_
  refine lv_iconst (v := (2 : Int32)) hx hb dL_law_518 (by decide) ?_
  refine lv_iadd hx hb dL_law_519 ?_
  refine va_sld hx hb hX hbl hbA hS hv2 dL_law_520 ?_
  have hPc := fcLB_P hP
  have hDc := fcLB_D hD
  have hFc := fr_self hDc hS hA
  refine gv_i (va_runV (As := [.int (xs (x3 + 1).toNatClampNeg), .int (xs (x3 + 2).toNatClampNeg)]) (rest := [.int r]) ⟨hx, hb, hml, hown, hts⟩ (c_X7_opens l D k g Y H.size (xs (x3 + 1).toNatClampNeg) (xs (x3 + 2).toNatClampNeg) _ h) (cwV 2 hts gL_law_X7_opens rfl rfl rfl (by decide +kernel) ⟨Nat.le_of_ble_eq_true rfl, Nat.le_of_ble_eq_true rfl⟩) (gv_preV hK hnw hPc hDc (ci := 7) rfl 0 rfl) rfl rfl hl.1 rfl (lv_room (Nat.le_of_ble_eq_true rfl)) dL_law_521 ⟨Nat.le_of_ble_eq_true rfl, Nat.le_of_ble_eq_true rfl⟩) hS hFc (fun r2 Y2 H locs h hP1 hD1 hk1 hS => ?_)
  obtain ⟨hP, hD⟩ := fcLB_J hP hD hk1 hFc hP1 hD1
  refine lv_icmp_eq (tgt := 834) hx hb dL_law_524 (by decide) (fun _ => ?_) (fun c => absurd h.1 c)
  exact ih X2 Y2 h.2 H locs ls hP hD hS hl
set_option maxRecDepth 100000 in
set_option maxHeartbeats 4000000 in
theorem lc_13 {p : Program} {l : Launch} {e : Env} {s : State} {m : MethodId} {below : List Frame} {meth : Method} {c : Code} {D : va_G} {k : Nat → ClassId} {b L : Nat} {xs : Nat → Int32} (hL : L ≤ 256) (C0 : lw_At p s m meth c b L xs) (hnw : nwP s) (hK : va_K D vwCl (tysOf k) s) {Inv : CS → St → Prop} (a g : Nat → Nat) (hI : LS_13 Inv) {i : Nat} {x3 : Int32} (hi : i + 4 ≤ L) (ex3 : x3 = nI i) {X : CS} {Y : St} (hXY : Inv X Y)
    (ih : ∀ (X : CS) (Y : St), Inv X Y → ∀ (H : Heap) (locs : List Loc) (ls : Array Slot), va_P D vwCl (wMa k a X ++ wMo k g Y) H → va_D (fun q : Nat => s.heap.size ≤ q) (wMa k a X ++ wMo k g Y) → va_S (fun q : Nat => s.heap.size ≤ q) s.heap H locs → lv_has ls 4 [(0, .ref b), (1, .ref (a 0)), (2, .ref (g 0)), (3, .int x3)] → W p l e room_1 s m #[Value.ref b] below meth c H locs 113 1553 (lw_Z below #[Value.ref b] s) (F0 m 834 ls []))
    {H : Heap} {locs : List Loc} {ls : Array Slot} (hP : va_P D vwCl (wMa k a X ++ wMo k g Y) H) (hD : va_D (fun q : Nat => s.heap.size ≤ q) (wMa k a X ++ wMo k g Y)) (hS : va_S (fun q : Nat => s.heap.size ≤ q) s.heap H locs) (hl : lv_has ls 4 [(0, .ref b), (1, .ref (a 0)), (2, .ref (g 0)), (3, .int x3)]) : W p l e room_1 s m #[Value.ref b] below meth c H locs 113 1553 (lw_Z below #[Value.ref b] s) (F0 m 529 ls []) := by
  obtain ⟨hx, hb, hr, hml, hown0, hts0, hX, hbl, hlocks, hgv⟩ := C0
  have hown : s.vm.findClass RL = some m.cls := hown0
  have hts : ∀ w ∈ wsL_law, w.before #[Value.ref b] s = true := fun w h => hts0 w (wsL_law_in w h)
  have hA : ∀ q : Nat, s.heap.size ≤ q → (fun q : Nat => s.heap.size ≤ q) q := fun _ h => h
  have hbA : ¬ (fun q : Nat => s.heap.size ≤ q) b := Nat.not_le.mpr hbl
  have h := hI X Y  hXY
  refine lv_aload_n hx hb dL_law_529 rfl (lv_at hl 1 rfl) ?_
  have hPc := fcLA_P hP
  have hDc := fcLA_D hD
  have hFc := fr_self hDc hS hA
  refine gv_i (va_runV (As := []) (rest := []) ⟨hx, hb, hml, hown, hts⟩ (c_X6_best l D k a X H.size _ h) (cwV 0 hts gL_law_X6_best rfl rfl rfl (by decide +kernel) ⟨Nat.le_of_ble_eq_true rfl, Nat.le_of_ble_eq_true rfl⟩) (gv_preV hK hnw hPc hDc (ci := 6) rfl 0 rfl) rfl rfl hl.1 rfl (lv_room (Nat.le_of_ble_eq_true rfl)) dL_law_530 ⟨Nat.le_of_ble_eq_true rfl, Nat.le_of_ble_eq_true rfl⟩) hS hFc (fun r X2 H locs h hP1 hD1 hk1 hS => ?_)
  obtain ⟨hP, hD⟩ := fcLA_J hP hD hk1 hFc hP1 hD1
  refine lv_aload_n hx hb dL_law_533 rfl (lv_at hl 2 rfl) ?_
  have hPc := fcLB_P hP
  have hDc := fcLB_D hD
  have hFc := fr_self hDc hS hA
  refine gv_i (va_runV (As := []) (rest := [.int r]) ⟨hx, hb, hml, hown, hts⟩ (c_X7_best l D k g Y H.size _ h) (cwV 0 hts gL_law_X7_best rfl rfl rfl (by decide +kernel) ⟨Nat.le_of_ble_eq_true rfl, Nat.le_of_ble_eq_true rfl⟩) (gv_preV hK hnw hPc hDc (ci := 7) rfl 0 rfl) rfl rfl hl.1 rfl (lv_room (Nat.le_of_ble_eq_true rfl)) dL_law_534 ⟨Nat.le_of_ble_eq_true rfl, Nat.le_of_ble_eq_true rfl⟩) hS hFc (fun r2 Y2 H locs h hP1 hD1 hk1 hS => ?_)
  obtain ⟨hP, hD⟩ := fcLB_J hP hD hk1 hFc hP1 hD1
  refine lv_icmp_eq (tgt := 834) hx hb dL_law_537 (by decide) (fun _ => ?_) (fun c => absurd h.1 c)
  exact ih X2 Y2 h.2 H locs ls hP hD hS hl
set_option maxRecDepth 100000 in
set_option maxHeartbeats 4000000 in
theorem lc_14 {p : Program} {l : Launch} {e : Env} {s : State} {m : MethodId} {below : List Frame} {meth : Method} {c : Code} {D : va_G} {k : Nat → ClassId} {b L : Nat} {xs : Nat → Int32} (hL : L ≤ 256) (C0 : lw_At p s m meth c b L xs) (hnw : nwP s) (hK : va_K D vwCl (tysOf k) s) {Inv : CS → St → Prop} (a g : Nat → Nat) (hI : LS_14 Inv) {i : Nat} {x3 : Int32} (hi : i + 4 ≤ L) (ex3 : x3 = nI i) {X : CS} {Y : St} (hXY : Inv X Y)
    (ih : ∀ (X : CS) (Y : St), Inv X Y → ∀ (H : Heap) (locs : List Loc) (ls : Array Slot), va_P D vwCl (wMa k a X ++ wMo k g Y) H → va_D (fun q : Nat => s.heap.size ≤ q) (wMa k a X ++ wMo k g Y) → va_S (fun q : Nat => s.heap.size ≤ q) s.heap H locs → lv_has ls 4 [(0, .ref b), (1, .ref (a 0)), (2, .ref (g 0)), (3, .int x3)] → W p l e room_1 s m #[Value.ref b] below meth c H locs 113 1553 (lw_Z below #[Value.ref b] s) (F0 m 834 ls []))
    {H : Heap} {locs : List Loc} {ls : Array Slot} (hP : va_P D vwCl (wMa k a X ++ wMo k g Y) H) (hD : va_D (fun q : Nat => s.heap.size ≤ q) (wMa k a X ++ wMo k g Y)) (hS : va_S (fun q : Nat => s.heap.size ≤ q) s.heap H locs) (hl : lv_has ls 4 [(0, .ref b), (1, .ref (a 0)), (2, .ref (g 0)), (3, .int x3)]) : W p l e room_1 s m #[Value.ref b] below meth c H locs 113 1553 (lw_Z below #[Value.ref b] s) (F0 m 542 ls []) := by
  obtain ⟨hx, hb, hr, hml, hown0, hts0, hX, hbl, hlocks, hgv⟩ := C0
  have hown : s.vm.findClass RL = some m.cls := hown0
  have hts : ∀ w ∈ wsL_law, w.before #[Value.ref b] s = true := fun w h => hts0 w (wsL_law_in w h)
  have hA : ∀ q : Nat, s.heap.size ≤ q → (fun q : Nat => s.heap.size ≤ q) q := fun _ h => h
  have hbA : ¬ (fun q : Nat => s.heap.size ≤ q) b := Nat.not_le.mpr hbl
  have hv1 : vp_in (x3 + 1) L := by rw [ex3]; show vp_in (nI i + nI 1) L; rw [nI_add]; exact vp_in_nI (by omega) (by omega)
  have h := hI X Y (xs (x3 + 1).toNatClampNeg) hXY
  refine lv_aload_n hx hb dL_law_542 rfl (lv_at hl 1 rfl) ?_
  refine lv_aload_n hx hb dL_law_543 rfl (lv_at hl 0 rfl) ?_
  refine lv_iload_n hx hb dL_law_544 rfl (lv_at hl 3 rfl) ?_
  refine lv_iconst (v := (1 : Int32)) hx hb dL_law_545 (by decide) ?_
  refine lv_iadd hx hb dL_law_546 ?_
  refine va_sld hx hb hX hbl hbA hS hv1 dL_law_547 ?_
  have hPc := fcLA_P hP
  have hDc := fcLA_D hD
  have hFc := fr_self hDc hS hA
  refine gv_i (va_runV (As := [.int (xs (x3 + 1).toNatClampNeg)]) (rest := []) ⟨hx, hb, hml, hown, hts⟩ (c_X6_fewest l D k a X H.size (xs (x3 + 1).toNatClampNeg) _ h) (cwV 1 hts gL_law_X6_fewest rfl rfl rfl (by decide +kernel) ⟨Nat.le_of_ble_eq_true rfl, Nat.le_of_ble_eq_true rfl⟩) (gv_preV hK hnw hPc hDc (ci := 6) rfl 0 rfl) rfl rfl hl.1 rfl (lv_room (Nat.le_of_ble_eq_true rfl)) dL_law_548 ⟨Nat.le_of_ble_eq_true rfl, Nat.le_of_ble_eq_true rfl⟩) hS hFc (fun r X2 H locs h hP1 hD1 hk1 hS => ?_)
  obtain ⟨hP, hD⟩ := fcLA_J hP hD hk1 hFc hP1 hD1
  refine lv_aload_n hx hb dL_law_551 rfl (lv_at hl 2 rfl) ?_
  refine lv_aload_n hx hb dL_law_552 rfl (lv_at hl 0 rfl) ?_
  refine lv_iload_n hx hb dL_law_553 rfl (lv_at hl 3 rfl) ?_
  refine lv_iconst (v := (1 : Int32)) hx hb dL_law_554 (by decide) ?_
  refine lv_iadd hx hb dL_law_555 ?_
  refine va_sld hx hb hX hbl hbA hS hv1 dL_law_556 ?_
  have hPc := fcLB_P hP
  have hDc := fcLB_D hD
  have hFc := fr_self hDc hS hA
  refine gv_i (va_runV (As := [.int (xs (x3 + 1).toNatClampNeg)]) (rest := [.int r]) ⟨hx, hb, hml, hown, hts⟩ (c_X7_fewest l D k g Y H.size (xs (x3 + 1).toNatClampNeg) _ h) (cwV 1 hts gL_law_X7_fewest rfl rfl rfl (by decide +kernel) ⟨Nat.le_of_ble_eq_true rfl, Nat.le_of_ble_eq_true rfl⟩) (gv_preV hK hnw hPc hDc (ci := 7) rfl 0 rfl) rfl rfl hl.1 rfl (lv_room (Nat.le_of_ble_eq_true rfl)) dL_law_557 ⟨Nat.le_of_ble_eq_true rfl, Nat.le_of_ble_eq_true rfl⟩) hS hFc (fun r2 Y2 H locs h hP1 hD1 hk1 hS => ?_)
  obtain ⟨hP, hD⟩ := fcLB_J hP hD hk1 hFc hP1 hD1
  refine lv_icmp_eq (tgt := 834) hx hb dL_law_560 (by decide) (fun _ => ?_) (fun c => absurd h.1 c)
  exact ih X2 Y2 h.2 H locs ls hP hD hS hl
set_option maxRecDepth 100000 in
set_option maxHeartbeats 4000000 in
theorem lc_15 {p : Program} {l : Launch} {e : Env} {s : State} {m : MethodId} {below : List Frame} {meth : Method} {c : Code} {D : va_G} {k : Nat → ClassId} {b L : Nat} {xs : Nat → Int32} (hL : L ≤ 256) (C0 : lw_At p s m meth c b L xs) (hnw : nwP s) (hK : va_K D vwCl (tysOf k) s) {Inv : CS → St → Prop} (a g : Nat → Nat) (hI : LS_15 Inv) {i : Nat} {x3 : Int32} (hi : i + 4 ≤ L) (ex3 : x3 = nI i) {X : CS} {Y : St} (hXY : Inv X Y)
    (ih : ∀ (X : CS) (Y : St), Inv X Y → ∀ (H : Heap) (locs : List Loc) (ls : Array Slot), va_P D vwCl (wMa k a X ++ wMo k g Y) H → va_D (fun q : Nat => s.heap.size ≤ q) (wMa k a X ++ wMo k g Y) → va_S (fun q : Nat => s.heap.size ≤ q) s.heap H locs → lv_has ls 4 [(0, .ref b), (1, .ref (a 0)), (2, .ref (g 0)), (3, .int x3)] → W p l e room_1 s m #[Value.ref b] below meth c H locs 113 1553 (lw_Z below #[Value.ref b] s) (F0 m 834 ls []))
    {H : Heap} {locs : List Loc} {ls : Array Slot} (hP : va_P D vwCl (wMa k a X ++ wMo k g Y) H) (hD : va_D (fun q : Nat => s.heap.size ≤ q) (wMa k a X ++ wMo k g Y)) (hS : va_S (fun q : Nat => s.heap.size ≤ q) s.heap H locs) (hl : lv_has ls 4 [(0, .ref b), (1, .ref (a 0)), (2, .ref (g 0)), (3, .int x3)]) : W p l e room_1 s m #[Value.ref b] below meth c H locs 113 1553 (lw_Z below #[Value.ref b] s) (F0 m 565 ls []) := by
  obtain ⟨hx, hb, hr, hml, hown0, hts0, hX, hbl, hlocks, hgv⟩ := C0
  have hown : s.vm.findClass RL = some m.cls := hown0
  have hts : ∀ w ∈ wsL_law, w.before #[Value.ref b] s = true := fun w h => hts0 w (wsL_law_in w h)
  have hA : ∀ q : Nat, s.heap.size ≤ q → (fun q : Nat => s.heap.size ≤ q) q := fun _ h => h
  have hbA : ¬ (fun q : Nat => s.heap.size ≤ q) b := Nat.not_le.mpr hbl
  have hv1 : vp_in (x3 + 1) L := by rw [ex3]; show vp_in (nI i + nI 1) L; rw [nI_add]; exact vp_in_nI (by omega) (by omega)
  have hv2 : vp_in (x3 + 2) L := by rw [ex3]; show vp_in (nI i + nI 2) L; rw [nI_add]; exact vp_in_nI (by omega) (by omega)
  have h := hI X Y (xs (x3 + 1).toNatClampNeg) (xs (x3 + 2).toNatClampNeg) hXY
  refine lv_aload_n hx hb dL_law_565 rfl (lv_at hl 1 rfl) ?_
  refine lv_aload_n hx hb dL_law_566 rfl (lv_at hl 0 rfl) ?_
  refine lv_iload_n hx hb dL_law_567 rfl (lv_at hl 3 rfl) ?_
  refine lv_iconst (v := (1 : Int32)) hx hb dL_law_568 (by decide) ?_
  refine lv_iadd hx hb dL_law_569 ?_
  refine va_sld hx hb hX hbl hbA hS hv1 dL_law_570 ?_
  refine lv_aload_n hx hb dL_law_571 rfl (lv_at hl 0 rfl) ?_
  refine lv_iload_n hx hb dL_law_572 rfl (lv_at hl 3 rfl) ?_
  refine lv_iconst (v := (2 : Int32)) hx hb dL_law_573 (by decide) ?_
  refine lv_iadd hx hb dL_law_574 ?_
  refine va_sld hx hb hX hbl hbA hS hv2 dL_law_575 ?_
  have hPc := fcLA_P hP
  have hDc := fcLA_D hD
  have hFc := fr_self hDc hS hA
  refine gv_i (va_runV (As := [.int (xs (x3 + 1).toNatClampNeg), .int (xs (x3 + 2).toNatClampNeg)]) (rest := []) ⟨hx, hb, hml, hown, hts⟩ (c_X6_wanted l D k a X H.size (xs (x3 + 1).toNatClampNeg) (xs (x3 + 2).toNatClampNeg) _ h) (cwV 2 hts gL_law_X6_wanted rfl rfl rfl (by decide +kernel) ⟨Nat.le_of_ble_eq_true rfl, Nat.le_of_ble_eq_true rfl⟩) (gv_preV hK hnw hPc hDc (ci := 6) rfl 0 rfl) rfl rfl hl.1 rfl (lv_room (Nat.le_of_ble_eq_true rfl)) dL_law_576 ⟨Nat.le_of_ble_eq_true rfl, Nat.le_of_ble_eq_true rfl⟩) hS hFc (fun r X2 H locs h hP1 hD1 hk1 hS => ?_)
  obtain ⟨hP, hD⟩ := fcLA_J hP hD hk1 hFc hP1 hD1
  refine lv_aload_n hx hb dL_law_579 rfl (lv_at hl 2 rfl) ?_
  refine lv_aload_n hx hb dL_law_580 rfl (lv_at hl 0 rfl) ?_
  refine lv_iload_n hx hb dL_law_581 rfl (lv_at hl 3 rfl) ?_
  refine lv_iconst (v := (1 : Int32)) hx hb dL_law_582 (by decide) ?_
  refine lv_iadd hx hb dL_law_583 ?_
  refine va_sld hx hb hX hbl hbA hS hv1 dL_law_584 ?_
  refine lv_aload_n hx hb dL_law_585 rfl (lv_at hl 0 rfl) ?_
  refine lv_iload_n hx hb dL_law_586 rfl (lv_at hl 3 rfl) ?_
  refine lv_iconst (v := (2 : Int32)) hx hb dL_law_587 (by decide) ?_
  refine lv_iadd hx hb dL_law_588 ?_
  refine va_sld hx hb hX hbl hbA hS hv2 dL_law_589 ?_
  have hPc := fcLB_P hP
  have hDc := fcLB_D hD
  have hFc := fr_self hDc hS hA
  refine gv_i (va_runV (As := [.int (xs (x3 + 1).toNatClampNeg), .int (xs (x3 + 2).toNatClampNeg)]) (rest := [.int r]) ⟨hx, hb, hml, hown, hts⟩ (c_X7_wanted l D k g Y H.size (xs (x3 + 1).toNatClampNeg) (xs (x3 + 2).toNatClampNeg) _ h) (cwV 2 hts gL_law_X7_wanted rfl rfl rfl (by decide +kernel) ⟨Nat.le_of_ble_eq_true rfl, Nat.le_of_ble_eq_true rfl⟩) (gv_preV hK hnw hPc hDc (ci := 7) rfl 0 rfl) rfl rfl hl.1 rfl (lv_room (Nat.le_of_ble_eq_true rfl)) dL_law_590 ⟨Nat.le_of_ble_eq_true rfl, Nat.le_of_ble_eq_true rfl⟩) hS hFc (fun r2 Y2 H locs h hP1 hD1 hk1 hS => ?_)
  obtain ⟨hP, hD⟩ := fcLB_J hP hD hk1 hFc hP1 hD1
  refine lv_icmp_eq (tgt := 834) hx hb dL_law_593 (by decide) (fun _ => ?_) (fun c => absurd h.1 c)
  exact ih X2 Y2 h.2 H locs ls hP hD hS hl
set_option maxRecDepth 100000 in
set_option maxHeartbeats 4000000 in
theorem lc_16 {p : Program} {l : Launch} {e : Env} {s : State} {m : MethodId} {below : List Frame} {meth : Method} {c : Code} {D : va_G} {k : Nat → ClassId} {b L : Nat} {xs : Nat → Int32} (hL : L ≤ 256) (C0 : lw_At p s m meth c b L xs) (hnw : nwP s) (hK : va_K D vwCl (tysOf k) s) {Inv : CS → St → Prop} (a g : Nat → Nat) (hI : LS_16 Inv) {i : Nat} {x3 : Int32} (hi : i + 4 ≤ L) (ex3 : x3 = nI i) {X : CS} {Y : St} (hXY : Inv X Y)
    (ih : ∀ (X : CS) (Y : St), Inv X Y → ∀ (H : Heap) (locs : List Loc) (ls : Array Slot), va_P D vwCl (wMa k a X ++ wMo k g Y) H → va_D (fun q : Nat => s.heap.size ≤ q) (wMa k a X ++ wMo k g Y) → va_S (fun q : Nat => s.heap.size ≤ q) s.heap H locs → lv_has ls 4 [(0, .ref b), (1, .ref (a 0)), (2, .ref (g 0)), (3, .int x3)] → W p l e room_1 s m #[Value.ref b] below meth c H locs 113 1553 (lw_Z below #[Value.ref b] s) (F0 m 834 ls []))
    {H : Heap} {locs : List Loc} {ls : Array Slot} (hP : va_P D vwCl (wMa k a X ++ wMo k g Y) H) (hD : va_D (fun q : Nat => s.heap.size ≤ q) (wMa k a X ++ wMo k g Y)) (hS : va_S (fun q : Nat => s.heap.size ≤ q) s.heap H locs) (hl : lv_has ls 4 [(0, .ref b), (1, .ref (a 0)), (2, .ref (g 0)), (3, .int x3)]) : W p l e room_1 s m #[Value.ref b] below meth c H locs 113 1553 (lw_Z below #[Value.ref b] s) (F0 m 598 ls []) := by
  obtain ⟨hx, hb, hr, hml, hown0, hts0, hX, hbl, hlocks, hgv⟩ := C0
  have hown : s.vm.findClass RL = some m.cls := hown0
  have hts : ∀ w ∈ wsL_law, w.before #[Value.ref b] s = true := fun w h => hts0 w (wsL_law_in w h)
  have hA : ∀ q : Nat, s.heap.size ≤ q → (fun q : Nat => s.heap.size ≤ q) q := fun _ h => h
  have hbA : ¬ (fun q : Nat => s.heap.size ≤ q) b := Nat.not_le.mpr hbl
  have hv1 : vp_in (x3 + 1) L := by rw [ex3]; show vp_in (nI i + nI 1) L; rw [nI_add]; exact vp_in_nI (by omega) (by omega)
  have hv2 : vp_in (x3 + 2) L := by rw [ex3]; show vp_in (nI i + nI 2) L; rw [nI_add]; exact vp_in_nI (by omega) (by omega)
  have h := hI X Y (xs (x3 + 1).toNatClampNeg) (xs (x3 + 2).toNatClampNeg) hXY
  refine lv_aload_n hx hb dL_law_598 rfl (lv_at hl 1 rfl) ?_
  refine lv_aload_n hx hb dL_law_599 rfl (lv_at hl 0 rfl) ?_
  refine lv_iload_n hx hb dL_law_600 rfl (lv_at hl 3 rfl) ?_
  refine lv_iconst (v := (1 : Int32)) hx hb dL_law_601 (by decide) ?_
  refine lv_iadd hx hb dL_law_602 ?_
  refine va_sld hx hb hX hbl hbA hS hv1 dL_law_603 ?_
  refine lv_aload_n hx hb dL_law_604 rfl (lv_at hl 0 rfl) ?_
  refine lv_iload_n hx hb dL_law_605 rfl (lv_at hl 3 rfl) ?_
  refine lv_iconst (v := (2 : Int32)) hx hb dL_law_606 (by decide) ?_
  refine lv_iadd hx hb dL_law_607 ?_
  refine va_sld hx hb hX hbl hbA hS hv2 dL_law_608 ?_
  have hPc := fcLA_P hP
  have hDc := fcLA_D hD
  have hFc := fr_self hDc hS hA
  refine gv_i (va_runV (As := [.int (xs (x3 + 1).toNatClampNeg), .int (xs (x3 + 2).toNatClampNeg)]) (rest := []) ⟨hx, hb, hml, hown, hts⟩ (c_X6_off l D k a X H.size (xs (x3 + 1).toNatClampNeg) (xs (x3 + 2).toNatClampNeg) _ h) (cwV 2 hts gL_law_X6_off rfl rfl rfl (by decide +kernel) ⟨Nat.le_of_ble_eq_true rfl, Nat.le_of_ble_eq_true rfl⟩) (gv_preV hK hnw hPc hDc (ci := 6) rfl 0 rfl) rfl rfl hl.1 rfl (lv_room (Nat.le_of_ble_eq_true rfl)) dL_law_609 ⟨Nat.le_of_ble_eq_true rfl, Nat.le_of_ble_eq_true rfl⟩) hS hFc (fun r X2 H locs h hP1 hD1 hk1 hS => ?_)
  obtain ⟨hP, hD⟩ := fcLA_J hP hD hk1 hFc hP1 hD1
  refine lv_aload_n hx hb dL_law_612 rfl (lv_at hl 2 rfl) ?_
  refine lv_aload_n hx hb dL_law_613 rfl (lv_at hl 0 rfl) ?_
  refine lv_iload_n hx hb dL_law_614 rfl (lv_at hl 3 rfl) ?_
  refine lv_iconst (v := (1 : Int32)) hx hb dL_law_615 (by decide) ?_
  refine lv_iadd hx hb dL_law_616 ?_
  refine va_sld hx hb hX hbl hbA hS hv1 dL_law_617 ?_
  refine lv_aload_n hx hb dL_law_618 rfl (lv_at hl 0 rfl) ?_
  refine lv_iload_n hx hb dL_law_619 rfl (lv_at hl 3 rfl) ?_
  refine lv_iconst (v := (2 : Int32)) hx hb dL_law_620 (by decide) ?_
  refine lv_iadd hx hb dL_law_621 ?_
  refine va_sld hx hb hX hbl hbA hS hv2 dL_law_622 ?_
  have hPc := fcLB_P hP
  have hDc := fcLB_D hD
  have hFc := fr_self hDc hS hA
  refine gv_i (va_runV (As := [.int (xs (x3 + 1).toNatClampNeg), .int (xs (x3 + 2).toNatClampNeg)]) (rest := [.int r]) ⟨hx, hb, hml, hown, hts⟩ (c_X7_off l D k g Y H.size (xs (x3 + 1).toNatClampNeg) (xs (x3 + 2).toNatClampNeg) _ h) (cwV 2 hts gL_law_X7_off rfl rfl rfl (by decide +kernel) ⟨Nat.le_of_ble_eq_true rfl, Nat.le_of_ble_eq_true rfl⟩) (gv_preV hK hnw hPc hDc (ci := 7) rfl 0 rfl) rfl rfl hl.1 rfl (lv_room (Nat.le_of_ble_eq_true rfl)) dL_law_623 ⟨Nat.le_of_ble_eq_true rfl, Nat.le_of_ble_eq_true rfl⟩) hS hFc (fun r2 Y2 H locs h hP1 hD1 hk1 hS => ?_)
  obtain ⟨hP, hD⟩ := fcLB_J hP hD hk1 hFc hP1 hD1
  refine lv_icmp_eq (tgt := 834) hx hb dL_law_626 (by decide) (fun _ => ?_) (fun c => absurd h.1 c)
  exact ih X2 Y2 h.2 H locs ls hP hD hS hl
set_option maxRecDepth 100000 in
set_option maxHeartbeats 4000000 in
theorem lc_17 {p : Program} {l : Launch} {e : Env} {s : State} {m : MethodId} {below : List Frame} {meth : Method} {c : Code} {D : va_G} {k : Nat → ClassId} {b L : Nat} {xs : Nat → Int32} (hL : L ≤ 256) (C0 : lw_At p s m meth c b L xs) (hnw : nwP s) (hK : va_K D vwCl (tysOf k) s) {Inv : CS → St → Prop} (a g : Nat → Nat) (hI : LS_17 Inv) {i : Nat} {x3 : Int32} (hi : i + 4 ≤ L) (ex3 : x3 = nI i) {X : CS} {Y : St} (hXY : Inv X Y)
    (ih : ∀ (X : CS) (Y : St), Inv X Y → ∀ (H : Heap) (locs : List Loc) (ls : Array Slot), va_P D vwCl (wMa k a X ++ wMo k g Y) H → va_D (fun q : Nat => s.heap.size ≤ q) (wMa k a X ++ wMo k g Y) → va_S (fun q : Nat => s.heap.size ≤ q) s.heap H locs → lv_has ls 4 [(0, .ref b), (1, .ref (a 0)), (2, .ref (g 0)), (3, .int x3)] → W p l e room_1 s m #[Value.ref b] below meth c H locs 113 1553 (lw_Z below #[Value.ref b] s) (F0 m 834 ls []))
    {H : Heap} {locs : List Loc} {ls : Array Slot} (hP : va_P D vwCl (wMa k a X ++ wMo k g Y) H) (hD : va_D (fun q : Nat => s.heap.size ≤ q) (wMa k a X ++ wMo k g Y)) (hS : va_S (fun q : Nat => s.heap.size ≤ q) s.heap H locs) (hl : lv_has ls 4 [(0, .ref b), (1, .ref (a 0)), (2, .ref (g 0)), (3, .int x3)]) : W p l e room_1 s m #[Value.ref b] below meth c H locs 113 1553 (lw_Z below #[Value.ref b] s) (F0 m 631 ls []) := by
  obtain ⟨hx, hb, hr, hml, hown0, hts0, hX, hbl, hlocks, hgv⟩ := C0
  have hown : s.vm.findClass RL = some m.cls := hown0
  have hts : ∀ w ∈ wsL_law, w.before #[Value.ref b] s = true := fun w h => hts0 w (wsL_law_in w h)
  have hA : ∀ q : Nat, s.heap.size ≤ q → (fun q : Nat => s.heap.size ≤ q) q := fun _ h => h
  have hbA : ¬ (fun q : Nat => s.heap.size ≤ q) b := Nat.not_le.mpr hbl
  have hv1 : vp_in (x3 + 1) L := by rw [ex3]; show vp_in (nI i + nI 1) L; rw [nI_add]; exact vp_in_nI (by omega) (by omega)
  have h := hI X Y (xs (x3 + 1).toNatClampNeg) hXY
  refine lv_aload_n hx hb dL_law_631 rfl (lv_at hl 1 rfl) ?_
  refine lv_aload_n hx hb dL_law_632 rfl (lv_at hl 0 rfl) ?_
  refine lv_iload_n hx hb dL_law_633 rfl (lv_at hl 3 rfl) ?_
  refine lv_iconst (v := (1 : Int32)) hx hb dL_law_634 (by decide) ?_
  refine lv_iadd hx hb dL_law_635 ?_
  refine va_sld hx hb hX hbl hbA hS hv1 dL_law_636 ?_
  have hPc := fcLA_P hP
  have hDc := fcLA_D hD
  have hFc := fr_self hDc hS hA
  refine gv_i (va_runV (As := [.int (xs (x3 + 1).toNatClampNeg)]) (rest := []) ⟨hx, hb, hml, hown, hts⟩ (c_X6_worth l D k a X H.size (xs (x3 + 1).toNatClampNeg) _ h) (cwV 1 hts gL_law_X6_worth rfl rfl rfl (by decide +kernel) ⟨Nat.le_of_ble_eq_true rfl, Nat.le_of_ble_eq_true rfl⟩) (gv_preV hK hnw hPc hDc (ci := 6) rfl 0 rfl) rfl rfl hl.1 rfl (lv_room (Nat.le_of_ble_eq_true rfl)) dL_law_637 ⟨Nat.le_of_ble_eq_true rfl, Nat.le_of_ble_eq_true rfl⟩) hS hFc (fun r X2 H locs h hP1 hD1 hk1 hS => ?_)
  obtain ⟨hP, hD⟩ := fcLA_J hP hD hk1 hFc hP1 hD1
  refine lv_aload_n hx hb dL_law_640 rfl (lv_at hl 2 rfl) ?_
  refine lv_aload_n hx hb dL_law_641 rfl (lv_at hl 0 rfl) ?_
  refine lv_iload_n hx hb dL_law_642 rfl (lv_at hl 3 rfl) ?_
  refine lv_iconst (v := (1 : Int32)) hx hb dL_law_643 (by decide) ?_
  refine lv_iadd hx hb dL_law_644 ?_
  refine va_sld hx hb hX hbl hbA hS hv1 dL_law_645 ?_
  have hPc := fcLB_P hP
  have hDc := fcLB_D hD
  have hFc := fr_self hDc hS hA
  refine gv_i (va_runV (As := [.int (xs (x3 + 1).toNatClampNeg)]) (rest := [.int r]) ⟨hx, hb, hml, hown, hts⟩ (c_X7_worth l D k g Y H.size (xs (x3 + 1).toNatClampNeg) _ h) (cwV 1 hts gL_law_X7_worth rfl rfl rfl (by decide +kernel) ⟨Nat.le_of_ble_eq_true rfl, Nat.le_of_ble_eq_true rfl⟩) (gv_preV hK hnw hPc hDc (ci := 7) rfl 0 rfl) rfl rfl hl.1 rfl (lv_room (Nat.le_of_ble_eq_true rfl)) dL_law_646 ⟨Nat.le_of_ble_eq_true rfl, Nat.le_of_ble_eq_true rfl⟩) hS hFc (fun r2 Y2 H locs h hP1 hD1 hk1 hS => ?_)
  obtain ⟨hP, hD⟩ := fcLB_J hP hD hk1 hFc hP1 hD1
  refine lv_icmp_eq (tgt := 834) hx hb dL_law_649 (by decide) (fun _ => ?_) (fun c => absurd h.1 c)
  exact ih X2 Y2 h.2 H locs ls hP hD hS hl
set_option maxRecDepth 100000 in
set_option maxHeartbeats 4000000 in
theorem lc_18 {p : Program} {l : Launch} {e : Env} {s : State} {m : MethodId} {below : List Frame} {meth : Method} {c : Code} {D : va_G} {k : Nat → ClassId} {b L : Nat} {xs : Nat → Int32} (hL : L ≤ 256) (C0 : lw_At p s m meth c b L xs) (hnw : nwP s) (hK : va_K D vwCl (tysOf k) s) {Inv : CS → St → Prop} (a g : Nat → Nat) (hI : LS_18 Inv) {i : Nat} {x3 : Int32} (hi : i + 4 ≤ L) (ex3 : x3 = nI i) {X : CS} {Y : St} (hXY : Inv X Y)
    (ih : ∀ (X : CS) (Y : St), Inv X Y → ∀ (H : Heap) (locs : List Loc) (ls : Array Slot), va_P D vwCl (wMa k a X ++ wMo k g Y) H → va_D (fun q : Nat => s.heap.size ≤ q) (wMa k a X ++ wMo k g Y) → va_S (fun q : Nat => s.heap.size ≤ q) s.heap H locs → lv_has ls 4 [(0, .ref b), (1, .ref (a 0)), (2, .ref (g 0)), (3, .int x3)] → W p l e room_1 s m #[Value.ref b] below meth c H locs 113 1553 (lw_Z below #[Value.ref b] s) (F0 m 834 ls []))
    {H : Heap} {locs : List Loc} {ls : Array Slot} (hP : va_P D vwCl (wMa k a X ++ wMo k g Y) H) (hD : va_D (fun q : Nat => s.heap.size ≤ q) (wMa k a X ++ wMo k g Y)) (hS : va_S (fun q : Nat => s.heap.size ≤ q) s.heap H locs) (hl : lv_has ls 4 [(0, .ref b), (1, .ref (a 0)), (2, .ref (g 0)), (3, .int x3)]) : W p l e room_1 s m #[Value.ref b] below meth c H locs 113 1553 (lw_Z below #[Value.ref b] s) (F0 m 654 ls []) := by
  obtain ⟨hx, hb, hr, hml, hown0, hts0, hX, hbl, hlocks, hgv⟩ := C0
  have hown : s.vm.findClass RL = some m.cls := hown0
  have hts : ∀ w ∈ wsL_law, w.before #[Value.ref b] s = true := fun w h => hts0 w (wsL_law_in w h)
  have hA : ∀ q : Nat, s.heap.size ≤ q → (fun q : Nat => s.heap.size ≤ q) q := fun _ h => h
  have hbA : ¬ (fun q : Nat => s.heap.size ≤ q) b := Nat.not_le.mpr hbl
  have hv1 : vp_in (x3 + 1) L := by rw [ex3]; show vp_in (nI i + nI 1) L; rw [nI_add]; exact vp_in_nI (by omega) (by omega)
  have h := hI X Y (xs (x3 + 1).toNatClampNeg) hXY
  refine lv_aload_n hx hb dL_law_654 rfl (lv_at hl 1 rfl) ?_
  refine lv_aload_n hx hb dL_law_655 rfl (lv_at hl 0 rfl) ?_
  refine lv_iload_n hx hb dL_law_656 rfl (lv_at hl 3 rfl) ?_
  refine lv_iconst (v := (1 : Int32)) hx hb dL_law_657 (by decide) ?_
  refine lv_iadd hx hb dL_law_658 ?_
  refine va_sld hx hb hX hbl hbA hS hv1 dL_law_659 ?_
  have hPc := fcLA_P hP
  have hDc := fcLA_D hD
  have hFc := fr_self hDc hS hA
  refine gv_i (va_runV (As := [.int (xs (x3 + 1).toNatClampNeg)]) (rest := []) ⟨hx, hb, hml, hown, hts⟩ (c_X6_byLaw l D k a X H.size (xs (x3 + 1).toNatClampNeg) _ h) (cwV 1 hts gL_law_X6_byLaw rfl rfl rfl (by decide +kernel) ⟨Nat.le_of_ble_eq_true rfl, Nat.le_of_ble_eq_true rfl⟩) (gv_preV hK hnw hPc hDc (ci := 6) rfl 0 rfl) rfl rfl hl.1 rfl (lv_room (Nat.le_of_ble_eq_true rfl)) dL_law_660 ⟨Nat.le_of_ble_eq_true rfl, Nat.le_of_ble_eq_true rfl⟩) hS hFc (fun r X2 H locs h hP1 hD1 hk1 hS => ?_)
  obtain ⟨hP, hD⟩ := fcLA_J hP hD hk1 hFc hP1 hD1
  refine lv_aload_n hx hb dL_law_663 rfl (lv_at hl 2 rfl) ?_
  refine lv_aload_n hx hb dL_law_664 rfl (lv_at hl 0 rfl) ?_
  refine lv_iload_n hx hb dL_law_665 rfl (lv_at hl 3 rfl) ?_
  refine lv_iconst (v := (1 : Int32)) hx hb dL_law_666 (by decide) ?_
  refine lv_iadd hx hb dL_law_667 ?_
  refine va_sld hx hb hX hbl hbA hS hv1 dL_law_668 ?_
  have hPc := fcLB_P hP
  have hDc := fcLB_D hD
  have hFc := fr_self hDc hS hA
  refine gv_i (va_runV (As := [.int (xs (x3 + 1).toNatClampNeg)]) (rest := [.int r]) ⟨hx, hb, hml, hown, hts⟩ (c_X7_byLaw l D k g Y H.size (xs (x3 + 1).toNatClampNeg) _ h) (cwV 1 hts gL_law_X7_byLaw rfl rfl rfl (by decide +kernel) ⟨Nat.le_of_ble_eq_true rfl, Nat.le_of_ble_eq_true rfl⟩) (gv_preV hK hnw hPc hDc (ci := 7) rfl 0 rfl) rfl rfl hl.1 rfl (lv_room (Nat.le_of_ble_eq_true rfl)) dL_law_669 ⟨Nat.le_of_ble_eq_true rfl, Nat.le_of_ble_eq_true rfl⟩) hS hFc (fun r2 Y2 H locs h hP1 hD1 hk1 hS => ?_)
  obtain ⟨hP, hD⟩ := fcLB_J hP hD hk1 hFc hP1 hD1
  refine lv_icmp_eq (tgt := 834) hx hb dL_law_672 (by decide) (fun _ => ?_) (fun c => absurd h.1 c)
  exact ih X2 Y2 h.2 H locs ls hP hD hS hl
set_option maxRecDepth 100000 in
set_option maxHeartbeats 4000000 in
theorem lc_19 {p : Program} {l : Launch} {e : Env} {s : State} {m : MethodId} {below : List Frame} {meth : Method} {c : Code} {D : va_G} {k : Nat → ClassId} {b L : Nat} {xs : Nat → Int32} (hL : L ≤ 256) (C0 : lw_At p s m meth c b L xs) (hnw : nwP s) (hK : va_K D vwCl (tysOf k) s) {Inv : CS → St → Prop} (a g : Nat → Nat) (hI : LS_19 Inv) {i : Nat} {x3 : Int32} (hi : i + 4 ≤ L) (ex3 : x3 = nI i) {X : CS} {Y : St} (hXY : Inv X Y)
    (ih : ∀ (X : CS) (Y : St), Inv X Y → ∀ (H : Heap) (locs : List Loc) (ls : Array Slot), va_P D vwCl (wMa k a X ++ wMo k g Y) H → va_D (fun q : Nat => s.heap.size ≤ q) (wMa k a X ++ wMo k g Y) → va_S (fun q : Nat => s.heap.size ≤ q) s.heap H locs → lv_has ls 4 [(0, .ref b), (1, .ref (a 0)), (2, .ref (g 0)), (3, .int x3)] → W p l e room_1 s m #[Value.ref b] below meth c H locs 113 1553 (lw_Z below #[Value.ref b] s) (F0 m 834 ls []))
    {H : Heap} {locs : List Loc} {ls : Array Slot} (hP : va_P D vwCl (wMa k a X ++ wMo k g Y) H) (hD : va_D (fun q : Nat => s.heap.size ≤ q) (wMa k a X ++ wMo k g Y)) (hS : va_S (fun q : Nat => s.heap.size ≤ q) s.heap H locs) (hl : lv_has ls 4 [(0, .ref b), (1, .ref (a 0)), (2, .ref (g 0)), (3, .int x3)]) : W p l e room_1 s m #[Value.ref b] below meth c H locs 113 1553 (lw_Z below #[Value.ref b] s) (F0 m 677 ls []) := by
  obtain ⟨hx, hb, hr, hml, hown0, hts0, hX, hbl, hlocks, hgv⟩ := C0
  have hown : s.vm.findClass RL = some m.cls := hown0
  have hts : ∀ w ∈ wsL_law, w.before #[Value.ref b] s = true := fun w h => hts0 w (wsL_law_in w h)
  have hA : ∀ q : Nat, s.heap.size ≤ q → (fun q : Nat => s.heap.size ≤ q) q := fun _ h => h
  have hbA : ¬ (fun q : Nat => s.heap.size ≤ q) b := Nat.not_le.mpr hbl
  have hv1 : vp_in (x3 + 1) L := by rw [ex3]; show vp_in (nI i + nI 1) L; rw [nI_add]; exact vp_in_nI (by omega) (by omega)
  have h := hI X Y (xs (x3 + 1).toNatClampNeg) hXY
  refine lv_aload_n hx hb dL_law_677 rfl (lv_at hl 1 rfl) ?_
  refine lv_aload_n hx hb dL_law_678 rfl (lv_at hl 0 rfl) ?_
  refine lv_iload_n hx hb dL_law_679 rfl (lv_at hl 3 rfl) ?_
  refine lv_iconst (v := (1 : Int32)) hx hb dL_law_680 (by decide) ?_
  refine lv_iadd hx hb dL_law_681 ?_
  refine va_sld hx hb hX hbl hbA hS hv1 dL_law_682 ?_
  have hPc := fcLA_P hP
  have hDc := fcLA_D hD
  have hFc := fr_self hDc hS hA
  refine gv_i (va_runV (As := [.int (xs (x3 + 1).toNatClampNeg)]) (rest := []) ⟨hx, hb, hml, hown, hts⟩ (c_X6_row l D k a X H.size (xs (x3 + 1).toNatClampNeg) _ h) (cwV 1 hts gL_law_X6_row rfl rfl rfl (by decide +kernel) ⟨Nat.le_of_ble_eq_true rfl, Nat.le_of_ble_eq_true rfl⟩) (gv_preV hK hnw hPc hDc (ci := 6) rfl 0 rfl) rfl rfl hl.1 rfl (lv_room (Nat.le_of_ble_eq_true rfl)) dL_law_683 ⟨Nat.le_of_ble_eq_true rfl, Nat.le_of_ble_eq_true rfl⟩) hS hFc (fun r X2 H locs h hP1 hD1 hk1 hS => ?_)
  obtain ⟨hP, hD⟩ := fcLA_J hP hD hk1 hFc hP1 hD1
  refine lv_aload_n hx hb dL_law_686 rfl (lv_at hl 2 rfl) ?_
  refine lv_aload_n hx hb dL_law_687 rfl (lv_at hl 0 rfl) ?_
  refine lv_iload_n hx hb dL_law_688 rfl (lv_at hl 3 rfl) ?_
  refine lv_iconst (v := (1 : Int32)) hx hb dL_law_689 (by decide) ?_
  refine lv_iadd hx hb dL_law_690 ?_
  refine va_sld hx hb hX hbl hbA hS hv1 dL_law_691 ?_
  have hPc := fcLB_P hP
  have hDc := fcLB_D hD
  have hFc := fr_self hDc hS hA
  refine gv_i (va_runV (As := [.int (xs (x3 + 1).toNatClampNeg)]) (rest := [.int r]) ⟨hx, hb, hml, hown, hts⟩ (c_X7_row l D k g Y H.size (xs (x3 + 1).toNatClampNeg) _ h) (cwV 1 hts gL_law_X7_row rfl rfl rfl (by decide +kernel) ⟨Nat.le_of_ble_eq_true rfl, Nat.le_of_ble_eq_true rfl⟩) (gv_preV hK hnw hPc hDc (ci := 7) rfl 0 rfl) rfl rfl hl.1 rfl (lv_room (Nat.le_of_ble_eq_true rfl)) dL_law_692 ⟨Nat.le_of_ble_eq_true rfl, Nat.le_of_ble_eq_true rfl⟩) hS hFc (fun r2 Y2 H locs h hP1 hD1 hk1 hS => ?_)
  obtain ⟨hP, hD⟩ := fcLB_J hP hD hk1 hFc hP1 hD1
  refine lv_icmp_eq (tgt := 834) hx hb dL_law_695 (by decide) (fun _ => ?_) (fun c => absurd h.1 c)
  exact ih X2 Y2 h.2 H locs ls hP hD hS hl
set_option maxRecDepth 100000 in
set_option maxHeartbeats 4000000 in
theorem lc_20 {p : Program} {l : Launch} {e : Env} {s : State} {m : MethodId} {below : List Frame} {meth : Method} {c : Code} {D : va_G} {k : Nat → ClassId} {b L : Nat} {xs : Nat → Int32} (hL : L ≤ 256) (C0 : lw_At p s m meth c b L xs) (hnw : nwP s) (hK : va_K D vwCl (tysOf k) s) {Inv : CS → St → Prop} (a g : Nat → Nat) (hI : LS_20 Inv) {i : Nat} {x3 : Int32} (hi : i + 4 ≤ L) (ex3 : x3 = nI i) {X : CS} {Y : St} (hXY : Inv X Y)
    (ih : ∀ (X : CS) (Y : St), Inv X Y → ∀ (H : Heap) (locs : List Loc) (ls : Array Slot), va_P D vwCl (wMa k a X ++ wMo k g Y) H → va_D (fun q : Nat => s.heap.size ≤ q) (wMa k a X ++ wMo k g Y) → va_S (fun q : Nat => s.heap.size ≤ q) s.heap H locs → lv_has ls 4 [(0, .ref b), (1, .ref (a 0)), (2, .ref (g 0)), (3, .int x3)] → W p l e room_1 s m #[Value.ref b] below meth c H locs 113 1553 (lw_Z below #[Value.ref b] s) (F0 m 834 ls []))
    {H : Heap} {locs : List Loc} {ls : Array Slot} (hP : va_P D vwCl (wMa k a X ++ wMo k g Y) H) (hD : va_D (fun q : Nat => s.heap.size ≤ q) (wMa k a X ++ wMo k g Y)) (hS : va_S (fun q : Nat => s.heap.size ≤ q) s.heap H locs) (hl : lv_has ls 4 [(0, .ref b), (1, .ref (a 0)), (2, .ref (g 0)), (3, .int x3)]) : W p l e room_1 s m #[Value.ref b] below meth c H locs 113 1553 (lw_Z below #[Value.ref b] s) (F0 m 700 ls []) := by
  obtain ⟨hx, hb, hr, hml, hown0, hts0, hX, hbl, hlocks, hgv⟩ := C0
  have hown : s.vm.findClass RL = some m.cls := hown0
  have hts : ∀ w ∈ wsL_law, w.before #[Value.ref b] s = true := fun w h => hts0 w (wsL_law_in w h)
  have hA : ∀ q : Nat, s.heap.size ≤ q → (fun q : Nat => s.heap.size ≤ q) q := fun _ h => h
  have hbA : ¬ (fun q : Nat => s.heap.size ≤ q) b := Nat.not_le.mpr hbl
  have h := hI X Y  hXY
  refine lv_aload_n hx hb dL_law_700 rfl (lv_at hl 1 rfl) ?_
  have hPc := fcLA_P hP
  have hDc := fcLA_D hD
  have hFc := fr_self hDc hS hA
  refine gv_i (va_runV (As := []) (rest := []) ⟨hx, hb, hml, hown, hts⟩ (c_X6_judge l D k a X H.size _ h) (cwV 0 hts gL_law_X6_judge rfl rfl rfl (by decide +kernel) ⟨Nat.le_of_ble_eq_true rfl, Nat.le_of_ble_eq_true rfl⟩) (gv_preV hK hnw hPc hDc (ci := 6) rfl 0 rfl) rfl rfl hl.1 rfl (lv_room (Nat.le_of_ble_eq_true rfl)) dL_law_701 ⟨Nat.le_of_ble_eq_true rfl, Nat.le_of_ble_eq_true rfl⟩) hS hFc (fun r X2 H locs h hP1 hD1 hk1 hS => ?_)
  obtain ⟨hP, hD⟩ := fcLA_J hP hD hk1 hFc hP1 hD1
  refine lv_aload_n hx hb dL_law_704 rfl (lv_at hl 2 rfl) ?_
  have hPc := fcLB_P hP
  have hDc := fcLB_D hD
  have hFc := fr_self hDc hS hA
  refine gv_i (va_runV (As := []) (rest := [.int r]) ⟨hx, hb, hml, hown, hts⟩ (c_X7_judge l D k g Y H.size _ h) (cwV 0 hts gL_law_X7_judge rfl rfl rfl (by decide +kernel) ⟨Nat.le_of_ble_eq_true rfl, Nat.le_of_ble_eq_true rfl⟩) (gv_preV hK hnw hPc hDc (ci := 7) rfl 0 rfl) rfl rfl hl.1 rfl (lv_room (Nat.le_of_ble_eq_true rfl)) dL_law_705 ⟨Nat.le_of_ble_eq_true rfl, Nat.le_of_ble_eq_true rfl⟩) hS hFc (fun r2 Y2 H locs h hP1 hD1 hk1 hS => ?_)
  obtain ⟨hP, hD⟩ := fcLB_J hP hD hk1 hFc hP1 hD1
  refine lv_icmp_eq (tgt := 834) hx hb dL_law_708 (by decide) (fun _ => ?_) (fun c => absurd h.1 c)
  exact ih X2 Y2 h.2 H locs ls hP hD hS hl
set_option maxRecDepth 100000 in
set_option maxHeartbeats 4000000 in
theorem lc_21 {p : Program} {l : Launch} {e : Env} {s : State} {m : MethodId} {below : List Frame} {meth : Method} {c : Code} {D : va_G} {k : Nat → ClassId} {b L : Nat} {xs : Nat → Int32} (hL : L ≤ 256) (C0 : lw_At p s m meth c b L xs) (hnw : nwP s) (hK : va_K D vwCl (tysOf k) s) {Inv : CS → St → Prop} (a g : Nat → Nat) (hI : LS_21 Inv) {i : Nat} {x3 : Int32} (hi : i + 4 ≤ L) (ex3 : x3 = nI i) {X : CS} {Y : St} (hXY : Inv X Y)
    (ih : ∀ (X : CS) (Y : St), Inv X Y → ∀ (H : Heap) (locs : List Loc) (ls : Array Slot), va_P D vwCl (wMa k a X ++ wMo k g Y) H → va_D (fun q : Nat => s.heap.size ≤ q) (wMa k a X ++ wMo k g Y) → va_S (fun q : Nat => s.heap.size ≤ q) s.heap H locs → lv_has ls 4 [(0, .ref b), (1, .ref (a 0)), (2, .ref (g 0)), (3, .int x3)] → W p l e room_1 s m #[Value.ref b] below meth c H locs 113 1553 (lw_Z below #[Value.ref b] s) (F0 m 834 ls []))
    {H : Heap} {locs : List Loc} {ls : Array Slot} (hP : va_P D vwCl (wMa k a X ++ wMo k g Y) H) (hD : va_D (fun q : Nat => s.heap.size ≤ q) (wMa k a X ++ wMo k g Y)) (hS : va_S (fun q : Nat => s.heap.size ≤ q) s.heap H locs) (hl : lv_has ls 4 [(0, .ref b), (1, .ref (a 0)), (2, .ref (g 0)), (3, .int x3)]) : W p l e room_1 s m #[Value.ref b] below meth c H locs 113 1553 (lw_Z below #[Value.ref b] s) (F0 m 713 ls []) := by
  obtain ⟨hx, hb, hr, hml, hown0, hts0, hX, hbl, hlocks, hgv⟩ := C0
  have hown : s.vm.findClass RL = some m.cls := hown0
  have hts : ∀ w ∈ wsL_law, w.before #[Value.ref b] s = true := fun w h => hts0 w (wsL_law_in w h)
  have hA : ∀ q : Nat, s.heap.size ≤ q → (fun q : Nat => s.heap.size ≤ q) q := fun _ h => h
  have hbA : ¬ (fun q : Nat => s.heap.size ≤ q) b := Nat.not_le.mpr hbl
  have h := hI X Y  hXY
  refine lv_aload_n hx hb dL_law_713 rfl (lv_at hl 1 rfl) ?_
  have hPc := fcLA_P hP
  have hDc := fcLA_D hD
  have hFc := fr_self hDc hS hA
  refine gv_i (va_runV (As := []) (rest := []) ⟨hx, hb, hml, hown, hts⟩ (c_X6_load l D k a X H.size _ h) (cwV 0 hts gL_law_X6_load rfl rfl rfl (by decide +kernel) ⟨Nat.le_of_ble_eq_true rfl, Nat.le_of_ble_eq_true rfl⟩) (gv_preV hK hnw hPc hDc (ci := 6) rfl 0 rfl) rfl rfl hl.1 rfl (lv_room (Nat.le_of_ble_eq_true rfl)) dL_law_714 ⟨Nat.le_of_ble_eq_true rfl, Nat.le_of_ble_eq_true rfl⟩) hS hFc (fun r X2 H locs h hP1 hD1 hk1 hS => ?_)
  obtain ⟨hP, hD⟩ := fcLA_J hP hD hk1 hFc hP1 hD1
  refine lv_aload_n hx hb dL_law_717 rfl (lv_at hl 2 rfl) ?_
  have hPc := fcLB_P hP
  have hDc := fcLB_D hD
  have hFc := fr_self hDc hS hA
  refine gv_i (va_runV (As := []) (rest := [.int r]) ⟨hx, hb, hml, hown, hts⟩ (c_X7_load l D k g Y H.size _ h) (cwV 0 hts gL_law_X7_load rfl rfl rfl (by decide +kernel) ⟨Nat.le_of_ble_eq_true rfl, Nat.le_of_ble_eq_true rfl⟩) (gv_preV hK hnw hPc hDc (ci := 7) rfl 0 rfl) rfl rfl hl.1 rfl (lv_room (Nat.le_of_ble_eq_true rfl)) dL_law_718 ⟨Nat.le_of_ble_eq_true rfl, Nat.le_of_ble_eq_true rfl⟩) hS hFc (fun r2 Y2 H locs h hP1 hD1 hk1 hS => ?_)
  obtain ⟨hP, hD⟩ := fcLB_J hP hD hk1 hFc hP1 hD1
  refine lv_icmp_eq (tgt := 834) hx hb dL_law_721 (by decide) (fun _ => ?_) (fun c => absurd h.1 c)
  exact ih X2 Y2 h.2 H locs ls hP hD hS hl
set_option maxRecDepth 100000 in
set_option maxHeartbeats 4000000 in
theorem lc_22 {p : Program} {l : Launch} {e : Env} {s : State} {m : MethodId} {below : List Frame} {meth : Method} {c : Code} {D : va_G} {k : Nat → ClassId} {b L : Nat} {xs : Nat → Int32} (hL : L ≤ 256) (C0 : lw_At p s m meth c b L xs) (hnw : nwP s) (hK : va_K D vwCl (tysOf k) s) {Inv : CS → St → Prop} (a g : Nat → Nat) (hI : LS_22 Inv) {i : Nat} {x3 : Int32} (hi : i + 4 ≤ L) (ex3 : x3 = nI i) {X : CS} {Y : St} (hXY : Inv X Y)
    (ih : ∀ (X : CS) (Y : St), Inv X Y → ∀ (H : Heap) (locs : List Loc) (ls : Array Slot), va_P D vwCl (wMa k a X ++ wMo k g Y) H → va_D (fun q : Nat => s.heap.size ≤ q) (wMa k a X ++ wMo k g Y) → va_S (fun q : Nat => s.heap.size ≤ q) s.heap H locs → lv_has ls 4 [(0, .ref b), (1, .ref (a 0)), (2, .ref (g 0)), (3, .int x3)] → W p l e room_1 s m #[Value.ref b] below meth c H locs 113 1553 (lw_Z below #[Value.ref b] s) (F0 m 834 ls []))
    {H : Heap} {locs : List Loc} {ls : Array Slot} (hP : va_P D vwCl (wMa k a X ++ wMo k g Y) H) (hD : va_D (fun q : Nat => s.heap.size ≤ q) (wMa k a X ++ wMo k g Y)) (hS : va_S (fun q : Nat => s.heap.size ≤ q) s.heap H locs) (hl : lv_has ls 4 [(0, .ref b), (1, .ref (a 0)), (2, .ref (g 0)), (3, .int x3)]) : W p l e room_1 s m #[Value.ref b] below meth c H locs 113 1553 (lw_Z below #[Value.ref b] s) (F0 m 726 ls []) := by
  obtain ⟨hx, hb, hr, hml, hown0, hts0, hX, hbl, hlocks, hgv⟩ := C0
  have hown : s.vm.findClass RL = some m.cls := hown0
  have hts : ∀ w ∈ wsL_law, w.before #[Value.ref b] s = true := fun w h => hts0 w (wsL_law_in w h)
  have hA : ∀ q : Nat, s.heap.size ≤ q → (fun q : Nat => s.heap.size ≤ q) q := fun _ h => h
  have hbA : ¬ (fun q : Nat => s.heap.size ≤ q) b := Nat.not_le.mpr hbl
  have h := hI X Y  hXY
  refine lv_aload_n hx hb dL_law_726 rfl (lv_at hl 1 rfl) ?_
  have hPc := fcLA_P hP
  have hDc := fcLA_D hD
  have hFc := fr_self hDc hS hA
  refine gv_i (va_runV (As := []) (rest := []) ⟨hx, hb, hml, hown, hts⟩ (c_X6_cards l D k a X H.size _ h) (cwV 0 hts gL_law_X6_cards rfl rfl rfl (by decide +kernel) ⟨Nat.le_of_ble_eq_true rfl, Nat.le_of_ble_eq_true rfl⟩) (gv_preV hK hnw hPc hDc (ci := 6) rfl 0 rfl) rfl rfl hl.1 rfl (lv_room (Nat.le_of_ble_eq_true rfl)) dL_law_727 ⟨Nat.le_of_ble_eq_true rfl, Nat.le_of_ble_eq_true rfl⟩) hS hFc (fun r X2 H locs h hP1 hD1 hk1 hS => ?_)
  obtain ⟨hP, hD⟩ := fcLA_J hP hD hk1 hFc hP1 hD1
  refine lv_aload_n hx hb dL_law_730 rfl (lv_at hl 2 rfl) ?_
  have hPc := fcLB_P hP
  have hDc := fcLB_D hD
  have hFc := fr_self hDc hS hA
  refine gv_i (va_runV (As := []) (rest := [.int r]) ⟨hx, hb, hml, hown, hts⟩ (c_X7_cards l D k g Y H.size _ h) (cwV 0 hts gL_law_X7_cards rfl rfl rfl (by decide +kernel) ⟨Nat.le_of_ble_eq_true rfl, Nat.le_of_ble_eq_true rfl⟩) (gv_preV hK hnw hPc hDc (ci := 7) rfl 0 rfl) rfl rfl hl.1 rfl (lv_room (Nat.le_of_ble_eq_true rfl)) dL_law_731 ⟨Nat.le_of_ble_eq_true rfl, Nat.le_of_ble_eq_true rfl⟩) hS hFc (fun r2 Y2 H locs h hP1 hD1 hk1 hS => ?_)
  obtain ⟨hP, hD⟩ := fcLB_J hP hD hk1 hFc hP1 hD1
  refine lv_icmp_eq (tgt := 834) hx hb dL_law_734 (by decide) (fun _ => ?_) (fun c => absurd h.1 c)
  exact ih X2 Y2 h.2 H locs ls hP hD hS hl
set_option maxRecDepth 100000 in
set_option maxHeartbeats 4000000 in
theorem lc_23 {p : Program} {l : Launch} {e : Env} {s : State} {m : MethodId} {below : List Frame} {meth : Method} {c : Code} {D : va_G} {k : Nat → ClassId} {b L : Nat} {xs : Nat → Int32} (hL : L ≤ 256) (C0 : lw_At p s m meth c b L xs) (hnw : nwP s) (hK : va_K D vwCl (tysOf k) s) {Inv : CS → St → Prop} (a g : Nat → Nat) (hI : LS_23 Inv) {i : Nat} {x3 : Int32} (hi : i + 4 ≤ L) (ex3 : x3 = nI i) {X : CS} {Y : St} (hXY : Inv X Y)
    (ih : ∀ (X : CS) (Y : St), Inv X Y → ∀ (H : Heap) (locs : List Loc) (ls : Array Slot), va_P D vwCl (wMa k a X ++ wMo k g Y) H → va_D (fun q : Nat => s.heap.size ≤ q) (wMa k a X ++ wMo k g Y) → va_S (fun q : Nat => s.heap.size ≤ q) s.heap H locs → lv_has ls 4 [(0, .ref b), (1, .ref (a 0)), (2, .ref (g 0)), (3, .int x3)] → W p l e room_1 s m #[Value.ref b] below meth c H locs 113 1553 (lw_Z below #[Value.ref b] s) (F0 m 834 ls []))
    {H : Heap} {locs : List Loc} {ls : Array Slot} (hP : va_P D vwCl (wMa k a X ++ wMo k g Y) H) (hD : va_D (fun q : Nat => s.heap.size ≤ q) (wMa k a X ++ wMo k g Y)) (hS : va_S (fun q : Nat => s.heap.size ≤ q) s.heap H locs) (hl : lv_has ls 4 [(0, .ref b), (1, .ref (a 0)), (2, .ref (g 0)), (3, .int x3)]) : W p l e room_1 s m #[Value.ref b] below meth c H locs 113 1553 (lw_Z below #[Value.ref b] s) (F0 m 739 ls []) := by
  obtain ⟨hx, hb, hr, hml, hown0, hts0, hX, hbl, hlocks, hgv⟩ := C0
  have hown : s.vm.findClass RL = some m.cls := hown0
  have hts : ∀ w ∈ wsL_law, w.before #[Value.ref b] s = true := fun w h => hts0 w (wsL_law_in w h)
  have hA : ∀ q : Nat, s.heap.size ≤ q → (fun q : Nat => s.heap.size ≤ q) q := fun _ h => h
  have hbA : ¬ (fun q : Nat => s.heap.size ≤ q) b := Nat.not_le.mpr hbl
  have h := hI X Y  hXY
  refine lv_aload_n hx hb dL_law_739 rfl (lv_at hl 1 rfl) ?_
  have hPc := fcLA_P hP
  have hDc := fcLA_D hD
  have hFc := fr_self hDc hS hA
  refine gv_i (va_runV (As := []) (rest := []) ⟨hx, hb, hml, hown, hts⟩ (c_X6_clear l D k a X H.size _ h) (cwV 0 hts gL_law_X6_clear rfl rfl rfl (by decide +kernel) ⟨Nat.le_of_ble_eq_true rfl, Nat.le_of_ble_eq_true rfl⟩) (gv_preV hK hnw hPc hDc (ci := 6) rfl 0 rfl) rfl rfl hl.1 rfl (lv_room (Nat.le_of_ble_eq_true rfl)) dL_law_740 ⟨Nat.le_of_ble_eq_true rfl, Nat.le_of_ble_eq_true rfl⟩) hS hFc (fun r X2 H locs h hP1 hD1 hk1 hS => ?_)
  obtain ⟨hP, hD⟩ := fcLA_J hP hD hk1 hFc hP1 hD1
  refine lv_aload_n hx hb dL_law_743 rfl (lv_at hl 2 rfl) ?_
  have hPc := fcLB_P hP
  have hDc := fcLB_D hD
  have hFc := fr_self hDc hS hA
  refine gv_i (va_runV (As := []) (rest := [.int r]) ⟨hx, hb, hml, hown, hts⟩ (c_X7_clear l D k g Y H.size _ h) (cwV 0 hts gL_law_X7_clear rfl rfl rfl (by decide +kernel) ⟨Nat.le_of_ble_eq_true rfl, Nat.le_of_ble_eq_true rfl⟩) (gv_preV hK hnw hPc hDc (ci := 7) rfl 0 rfl) rfl rfl hl.1 rfl (lv_room (Nat.le_of_ble_eq_true rfl)) dL_law_744 ⟨Nat.le_of_ble_eq_true rfl, Nat.le_of_ble_eq_true rfl⟩) hS hFc (fun r2 Y2 H locs h hP1 hD1 hk1 hS => ?_)
  obtain ⟨hP, hD⟩ := fcLB_J hP hD hk1 hFc hP1 hD1
  refine lv_icmp_eq (tgt := 834) hx hb dL_law_747 (by decide) (fun _ => ?_) (fun c => absurd h.1 c)
  exact ih X2 Y2 h.2 H locs ls hP hD hS hl
set_option maxRecDepth 100000 in
set_option maxHeartbeats 4000000 in
theorem lc_24 {p : Program} {l : Launch} {e : Env} {s : State} {m : MethodId} {below : List Frame} {meth : Method} {c : Code} {D : va_G} {k : Nat → ClassId} {b L : Nat} {xs : Nat → Int32} (hL : L ≤ 256) (C0 : lw_At p s m meth c b L xs) (hnw : nwP s) (hK : va_K D vwCl (tysOf k) s) {Inv : CS → St → Prop} (a g : Nat → Nat) (hI : LS_24 Inv) {i : Nat} {x3 : Int32} (hi : i + 4 ≤ L) (ex3 : x3 = nI i) {X : CS} {Y : St} (hXY : Inv X Y)
    (ih : ∀ (X : CS) (Y : St), Inv X Y → ∀ (H : Heap) (locs : List Loc) (ls : Array Slot), va_P D vwCl (wMa k a X ++ wMo k g Y) H → va_D (fun q : Nat => s.heap.size ≤ q) (wMa k a X ++ wMo k g Y) → va_S (fun q : Nat => s.heap.size ≤ q) s.heap H locs → lv_has ls 4 [(0, .ref b), (1, .ref (a 0)), (2, .ref (g 0)), (3, .int x3)] → W p l e room_1 s m #[Value.ref b] below meth c H locs 113 1553 (lw_Z below #[Value.ref b] s) (F0 m 834 ls []))
    {H : Heap} {locs : List Loc} {ls : Array Slot} (hP : va_P D vwCl (wMa k a X ++ wMo k g Y) H) (hD : va_D (fun q : Nat => s.heap.size ≤ q) (wMa k a X ++ wMo k g Y)) (hS : va_S (fun q : Nat => s.heap.size ≤ q) s.heap H locs) (hl : lv_has ls 4 [(0, .ref b), (1, .ref (a 0)), (2, .ref (g 0)), (3, .int x3)]) : W p l e room_1 s m #[Value.ref b] below meth c H locs 113 1553 (lw_Z below #[Value.ref b] s) (F0 m 752 ls []) := by
  obtain ⟨hx, hb, hr, hml, hown0, hts0, hX, hbl, hlocks, hgv⟩ := C0
  have hown : s.vm.findClass RL = some m.cls := hown0
  have hts : ∀ w ∈ wsL_law, w.before #[Value.ref b] s = true := fun w h => hts0 w (wsL_law_in w h)
  have hA : ∀ q : Nat, s.heap.size ≤ q → (fun q : Nat => s.heap.size ≤ q) q := fun _ h => h
  have hbA : ¬ (fun q : Nat => s.heap.size ≤ q) b := Nat.not_le.mpr hbl
  have hv1 : vp_in (x3 + 1) L := by rw [ex3]; show vp_in (nI i + nI 1) L; rw [nI_add]; exact vp_in_nI (by omega) (by omega)
  have hv2 : vp_in (x3 + 2) L := by rw [ex3]; show vp_in (nI i + nI 2) L; rw [nI_add]; exact vp_in_nI (by omega) (by omega)
  have h := hI X Y (xs (x3 + 1).toNatClampNeg) (xs (x3 + 2).toNatClampNeg) hXY
  refine lv_aload_n hx hb dL_law_752 rfl (lv_at hl 1 rfl) ?_
  refine lv_aload_n hx hb dL_law_753 rfl (lv_at hl 0 rfl) ?_
  refine lv_iload_n hx hb dL_law_754 rfl (lv_at hl 3 rfl) ?_
  refine lv_iconst (v := (1 : Int32)) hx hb dL_law_755 (by decide) ?_
  refine lv_iadd hx hb dL_law_756 ?_
  refine va_sld hx hb hX hbl hbA hS hv1 dL_law_757 ?_
  refine lv_aload_n hx hb dL_law_758 rfl (lv_at hl 0 rfl) ?_
  refine lv_iload_n hx hb dL_law_759 rfl (lv_at hl 3 rfl) ?_
  refine lv_iconst (v := (2 : Int32)) hx hb dL_law_760 (by decide) ?_
  refine lv_iadd hx hb dL_law_761 ?_
  refine va_sld hx hb hX hbl hbA hS hv2 dL_law_762 ?_
  have hPc := fcLA_P hP
  have hDc := fcLA_D hD
  have hFc := fr_self hDc hS hA
  refine gv_i (va_runV (As := [.int (xs (x3 + 1).toNatClampNeg), .int (xs (x3 + 2).toNatClampNeg)]) (rest := []) ⟨hx, hb, hml, hown, hts⟩ (c_X6_seeds l D k a X H.size (xs (x3 + 1).toNatClampNeg) (xs (x3 + 2).toNatClampNeg) _ h) (cwV 2 hts gL_law_X6_seeds rfl rfl rfl (by decide +kernel) ⟨Nat.le_of_ble_eq_true rfl, Nat.le_of_ble_eq_true rfl⟩) (gv_preV hK hnw hPc hDc (ci := 6) rfl 0 rfl) rfl rfl hl.1 rfl (lv_room (Nat.le_of_ble_eq_true rfl)) dL_law_763 ⟨Nat.le_of_ble_eq_true rfl, Nat.le_of_ble_eq_true rfl⟩) hS hFc (fun r X2 H locs h hP1 hD1 hk1 hS => ?_)
  obtain ⟨hP, hD⟩ := fcLA_J hP hD hk1 hFc hP1 hD1
  refine lv_aload_n hx hb dL_law_766 rfl (lv_at hl 2 rfl) ?_
  refine lv_aload_n hx hb dL_law_767 rfl (lv_at hl 0 rfl) ?_
  refine lv_iload_n hx hb dL_law_768 rfl (lv_at hl 3 rfl) ?_
  refine lv_iconst (v := (1 : Int32)) hx hb dL_law_769 (by decide) ?_
  refine lv_iadd hx hb dL_law_770 ?_
  refine va_sld hx hb hX hbl hbA hS hv1 dL_law_771 ?_
  refine lv_aload_n hx hb dL_law_772 rfl (lv_at hl 0 rfl) ?_
  refine lv_iload_n hx hb dL_law_773 rfl (lv_at hl 3 rfl) ?_
  refine lv_iconst (v := (2 : Int32)) hx hb dL_law_774 (by decide) ?_
  refine lv_iadd hx hb dL_law_775 ?_
  refine va_sld hx hb hX hbl hbA hS hv2 dL_law_776 ?_
  have hPc := fcLB_P hP
  have hDc := fcLB_D hD
  have hFc := fr_self hDc hS hA
  refine gv_i (va_runV (As := [.int (xs (x3 + 1).toNatClampNeg), .int (xs (x3 + 2).toNatClampNeg)]) (rest := [.int r]) ⟨hx, hb, hml, hown, hts⟩ (c_X7_seeds l D k g Y H.size (xs (x3 + 1).toNatClampNeg) (xs (x3 + 2).toNatClampNeg) _ h) (cwV 2 hts gL_law_X7_seeds rfl rfl rfl (by decide +kernel) ⟨Nat.le_of_ble_eq_true rfl, Nat.le_of_ble_eq_true rfl⟩) (gv_preV hK hnw hPc hDc (ci := 7) rfl 0 rfl) rfl rfl hl.1 rfl (lv_room (Nat.le_of_ble_eq_true rfl)) dL_law_777 ⟨Nat.le_of_ble_eq_true rfl, Nat.le_of_ble_eq_true rfl⟩) hS hFc (fun r2 Y2 H locs h hP1 hD1 hk1 hS => ?_)
  obtain ⟨hP, hD⟩ := fcLB_J hP hD hk1 hFc hP1 hD1
  refine lv_icmp_eq (tgt := 834) hx hb dL_law_780 (by decide) (fun _ => ?_) (fun c => absurd h.1 c)
  exact ih X2 Y2 h.2 H locs ls hP hD hS hl
set_option maxRecDepth 100000 in
set_option maxHeartbeats 4000000 in
theorem lc_25 {p : Program} {l : Launch} {e : Env} {s : State} {m : MethodId} {below : List Frame} {meth : Method} {c : Code} {D : va_G} {k : Nat → ClassId} {b L : Nat} {xs : Nat → Int32} (hL : L ≤ 256) (C0 : lw_At p s m meth c b L xs) (hnw : nwP s) (hK : va_K D vwCl (tysOf k) s) {Inv : CS → St → Prop} (a g : Nat → Nat) (hI : LS_25 Inv) {i : Nat} {x3 : Int32} (hi : i + 4 ≤ L) (ex3 : x3 = nI i) {X : CS} {Y : St} (hXY : Inv X Y)
    (ih : ∀ (X : CS) (Y : St), Inv X Y → ∀ (H : Heap) (locs : List Loc) (ls : Array Slot), va_P D vwCl (wMa k a X ++ wMo k g Y) H → va_D (fun q : Nat => s.heap.size ≤ q) (wMa k a X ++ wMo k g Y) → va_S (fun q : Nat => s.heap.size ≤ q) s.heap H locs → lv_has ls 4 [(0, .ref b), (1, .ref (a 0)), (2, .ref (g 0)), (3, .int x3)] → W p l e room_1 s m #[Value.ref b] below meth c H locs 113 1553 (lw_Z below #[Value.ref b] s) (F0 m 834 ls []))
    {H : Heap} {locs : List Loc} {ls : Array Slot} (hP : va_P D vwCl (wMa k a X ++ wMo k g Y) H) (hD : va_D (fun q : Nat => s.heap.size ≤ q) (wMa k a X ++ wMo k g Y)) (hS : va_S (fun q : Nat => s.heap.size ≤ q) s.heap H locs) (hl : lv_has ls 4 [(0, .ref b), (1, .ref (a 0)), (2, .ref (g 0)), (3, .int x3)]) : W p l e room_1 s m #[Value.ref b] below meth c H locs 113 1553 (lw_Z below #[Value.ref b] s) (F0 m 785 ls []) := by
  obtain ⟨hx, hb, hr, hml, hown0, hts0, hX, hbl, hlocks, hgv⟩ := C0
  have hown : s.vm.findClass RL = some m.cls := hown0
  have hts : ∀ w ∈ wsL_law, w.before #[Value.ref b] s = true := fun w h => hts0 w (wsL_law_in w h)
  have hA : ∀ q : Nat, s.heap.size ≤ q → (fun q : Nat => s.heap.size ≤ q) q := fun _ h => h
  have hbA : ¬ (fun q : Nat => s.heap.size ≤ q) b := Nat.not_le.mpr hbl
  have h := hI X Y  hXY
  refine lv_aload_n hx hb dL_law_785 rfl (lv_at hl 1 rfl) ?_
  have hPc := fcLA_P hP
  have hDc := fcLA_D hD
  have hFc := fr_self hDc hS hA
  refine gv_i (va_runV (As := []) (rest := []) ⟨hx, hb, hml, hown, hts⟩ (c_X6_image l D k a X H.size _ h) (cwV 0 hts gL_law_X6_image rfl rfl rfl (by decide +kernel) ⟨Nat.le_of_ble_eq_true rfl, Nat.le_of_ble_eq_true rfl⟩) (gv_preV hK hnw hPc hDc (ci := 6) rfl 0 rfl) rfl rfl hl.1 rfl (lv_room (Nat.le_of_ble_eq_true rfl)) dL_law_786 ⟨Nat.le_of_ble_eq_true rfl, Nat.le_of_ble_eq_true rfl⟩) hS hFc (fun r X2 H locs h hP1 hD1 hk1 hS => ?_)
  obtain ⟨hP, hD⟩ := fcLA_J hP hD hk1 hFc hP1 hD1
  refine lv_aload_n hx hb dL_law_789 rfl (lv_at hl 2 rfl) ?_
  have hPc := fcLB_P hP
  have hDc := fcLB_D hD
  have hFc := fr_self hDc hS hA
  refine gv_i (va_runV (As := []) (rest := [.int r]) ⟨hx, hb, hml, hown, hts⟩ (c_X7_image l D k g Y H.size _ h) (cwV 0 hts gL_law_X7_image rfl rfl rfl (by decide +kernel) ⟨Nat.le_of_ble_eq_true rfl, Nat.le_of_ble_eq_true rfl⟩) (gv_preV hK hnw hPc hDc (ci := 7) rfl 0 rfl) rfl rfl hl.1 rfl (lv_room (Nat.le_of_ble_eq_true rfl)) dL_law_790 ⟨Nat.le_of_ble_eq_true rfl, Nat.le_of_ble_eq_true rfl⟩) hS hFc (fun r2 Y2 H locs h hP1 hD1 hk1 hS => ?_)
  obtain ⟨hP, hD⟩ := fcLB_J hP hD hk1 hFc hP1 hD1
  refine lv_icmp_eq (tgt := 834) hx hb dL_law_793 (by decide) (fun _ => ?_) (fun c => absurd h.1 c)
  exact ih X2 Y2 h.2 H locs ls hP hD hS hl
set_option maxRecDepth 100000 in
set_option maxHeartbeats 4000000 in
theorem lc_26 {p : Program} {l : Launch} {e : Env} {s : State} {m : MethodId} {below : List Frame} {meth : Method} {c : Code} {D : va_G} {k : Nat → ClassId} {b L : Nat} {xs : Nat → Int32} (hL : L ≤ 256) (C0 : lw_At p s m meth c b L xs) (hnw : nwP s) (hK : va_K D vwCl (tysOf k) s) {Inv : CS → St → Prop} (a g : Nat → Nat) (hI : LS_26 Inv) {i : Nat} {x3 : Int32} (hi : i + 4 ≤ L) (ex3 : x3 = nI i) {X : CS} {Y : St} (hXY : Inv X Y)
    (ih : ∀ (X : CS) (Y : St), Inv X Y → ∀ (H : Heap) (locs : List Loc) (ls : Array Slot), va_P D vwCl (wMa k a X ++ wMo k g Y) H → va_D (fun q : Nat => s.heap.size ≤ q) (wMa k a X ++ wMo k g Y) → va_S (fun q : Nat => s.heap.size ≤ q) s.heap H locs → lv_has ls 4 [(0, .ref b), (1, .ref (a 0)), (2, .ref (g 0)), (3, .int x3)] → W p l e room_1 s m #[Value.ref b] below meth c H locs 113 1553 (lw_Z below #[Value.ref b] s) (F0 m 834 ls []))
    {H : Heap} {locs : List Loc} {ls : Array Slot} (hP : va_P D vwCl (wMa k a X ++ wMo k g Y) H) (hD : va_D (fun q : Nat => s.heap.size ≤ q) (wMa k a X ++ wMo k g Y)) (hS : va_S (fun q : Nat => s.heap.size ≤ q) s.heap H locs) (hl : lv_has ls 4 [(0, .ref b), (1, .ref (a 0)), (2, .ref (g 0)), (3, .int x3)]) : W p l e room_1 s m #[Value.ref b] below meth c H locs 113 1553 (lw_Z below #[Value.ref b] s) (F0 m 798 ls []) := by
  obtain ⟨hx, hb, hr, hml, hown0, hts0, hX, hbl, hlocks, hgv⟩ := C0
  have hown : s.vm.findClass RL = some m.cls := hown0
  have hts : ∀ w ∈ wsL_law, w.before #[Value.ref b] s = true := fun w h => hts0 w (wsL_law_in w h)
  have hA : ∀ q : Nat, s.heap.size ≤ q → (fun q : Nat => s.heap.size ≤ q) q := fun _ h => h
  have hbA : ¬ (fun q : Nat => s.heap.size ≤ q) b := Nat.not_le.mpr hbl
  have h := hI X Y  hXY
  refine lv_aload_n hx hb dL_law_798 rfl (lv_at hl 1 rfl) ?_
  have hPc := fcLA_P hP
  have hDc := fcLA_D hD
  have hFc := fr_self hDc hS hA
  refine gv_i (va_runV (As := []) (rest := []) ⟨hx, hb, hml, hown, hts⟩ (c_X6_restore l D k a X H.size _ h) (cwV 0 hts gL_law_X6_restore rfl rfl rfl (by decide +kernel) ⟨Nat.le_of_ble_eq_true rfl, Nat.le_of_ble_eq_true rfl⟩) (gv_preV hK hnw hPc hDc (ci := 6) rfl 0 rfl) rfl rfl hl.1 rfl (lv_room (Nat.le_of_ble_eq_true rfl)) dL_law_799 ⟨Nat.le_of_ble_eq_true rfl, Nat.le_of_ble_eq_true rfl⟩) hS hFc (fun r X2 H locs h hP1 hD1 hk1 hS => ?_)
  obtain ⟨hP, hD⟩ := fcLA_J hP hD hk1 hFc hP1 hD1
  refine lv_aload_n hx hb dL_law_802 rfl (lv_at hl 2 rfl) ?_
  have hPc := fcLB_P hP
  have hDc := fcLB_D hD
  have hFc := fr_self hDc hS hA
  refine gv_i (va_runV (As := []) (rest := [.int r]) ⟨hx, hb, hml, hown, hts⟩ (c_X7_restore l D k g Y H.size _ h) (cwV 0 hts gL_law_X7_restore rfl rfl rfl (by decide +kernel) ⟨Nat.le_of_ble_eq_true rfl, Nat.le_of_ble_eq_true rfl⟩) (gv_preV hK hnw hPc hDc (ci := 7) rfl 0 rfl) rfl rfl hl.1 rfl (lv_room (Nat.le_of_ble_eq_true rfl)) dL_law_803 ⟨Nat.le_of_ble_eq_true rfl, Nat.le_of_ble_eq_true rfl⟩) hS hFc (fun r2 Y2 H locs h hP1 hD1 hk1 hS => ?_)
  obtain ⟨hP, hD⟩ := fcLB_J hP hD hk1 hFc hP1 hD1
  refine lv_icmp_eq (tgt := 834) hx hb dL_law_806 (by decide) (fun _ => ?_) (fun c => absurd h.1 c)
  exact ih X2 Y2 h.2 H locs ls hP hD hS hl
set_option maxRecDepth 100000 in
set_option maxHeartbeats 4000000 in
theorem lc_27 {p : Program} {l : Launch} {e : Env} {s : State} {m : MethodId} {below : List Frame} {meth : Method} {c : Code} {D : va_G} {k : Nat → ClassId} {b L : Nat} {xs : Nat → Int32} (hL : L ≤ 256) (C0 : lw_At p s m meth c b L xs) (hnw : nwP s) (hK : va_K D vwCl (tysOf k) s) {Inv : CS → St → Prop} (a g : Nat → Nat) (hI : LS_27 Inv) {i : Nat} {x3 : Int32} (hi : i + 4 ≤ L) (ex3 : x3 = nI i) {X : CS} {Y : St} (hXY : Inv X Y)
    (ih : ∀ (X : CS) (Y : St), Inv X Y → ∀ (H : Heap) (locs : List Loc) (ls : Array Slot), va_P D vwCl (wMa k a X ++ wMo k g Y) H → va_D (fun q : Nat => s.heap.size ≤ q) (wMa k a X ++ wMo k g Y) → va_S (fun q : Nat => s.heap.size ≤ q) s.heap H locs → lv_has ls 4 [(0, .ref b), (1, .ref (a 0)), (2, .ref (g 0)), (3, .int x3)] → W p l e room_1 s m #[Value.ref b] below meth c H locs 113 1553 (lw_Z below #[Value.ref b] s) (F0 m 834 ls []))
    {H : Heap} {locs : List Loc} {ls : Array Slot} (hP : va_P D vwCl (wMa k a X ++ wMo k g Y) H) (hD : va_D (fun q : Nat => s.heap.size ≤ q) (wMa k a X ++ wMo k g Y)) (hS : va_S (fun q : Nat => s.heap.size ≤ q) s.heap H locs) (hl : lv_has ls 4 [(0, .ref b), (1, .ref (a 0)), (2, .ref (g 0)), (3, .int x3)]) : W p l e room_1 s m #[Value.ref b] below meth c H locs 113 1553 (lw_Z below #[Value.ref b] s) (F0 m 811 ls []) := by
  obtain ⟨hx, hb, hr, hml, hown0, hts0, hX, hbl, hlocks, hgv⟩ := C0
  have hown : s.vm.findClass RL = some m.cls := hown0
  have hts : ∀ w ∈ wsL_law, w.before #[Value.ref b] s = true := fun w h => hts0 w (wsL_law_in w h)
  have hA : ∀ q : Nat, s.heap.size ≤ q → (fun q : Nat => s.heap.size ≤ q) q := fun _ h => h
  have hbA : ¬ (fun q : Nat => s.heap.size ≤ q) b := Nat.not_le.mpr hbl
  have hv1 : vp_in (x3 + 1) L := by rw [ex3]; show vp_in (nI i + nI 1) L; rw [nI_add]; exact vp_in_nI (by omega) (by omega)
  have h := hI X Y (xs (x3 + 1).toNatClampNeg) hXY
  refine lv_aload_n hx hb dL_law_811 rfl (lv_at hl 1 rfl) ?_
  refine lv_aload_n hx hb dL_law_812 rfl (lv_at hl 0 rfl) ?_
  refine lv_iload_n hx hb dL_law_813 rfl (lv_at hl 3 rfl) ?_
  refine lv_iconst (v := (1 : Int32)) hx hb dL_law_814 (by decide) ?_
  refine lv_iadd hx hb dL_law_815 ?_
  refine va_sld hx hb hX hbl hbA hS hv1 dL_law_816 ?_
  have hPc := fcLA_P hP
  have hDc := fcLA_D hD
  have hFc := fr_self hDc hS hA
  refine gv_i (va_runV (As := [.int (xs (x3 + 1).toNatClampNeg)]) (rest := []) ⟨hx, hb, hml, hown, hts⟩ (c_X6_count l D k a X H.size (xs (x3 + 1).toNatClampNeg) _ h) (cwV 1 hts gL_law_X6_count rfl rfl rfl (by decide +kernel) ⟨Nat.le_of_ble_eq_true rfl, Nat.le_of_ble_eq_true rfl⟩) (gv_preV hK hnw hPc hDc (ci := 6) rfl 0 rfl) rfl rfl hl.1 rfl (lv_room (Nat.le_of_ble_eq_true rfl)) dL_law_817 ⟨Nat.le_of_ble_eq_true rfl, Nat.le_of_ble_eq_true rfl⟩) hS hFc (fun r X2 H locs h hP1 hD1 hk1 hS => ?_)
  obtain ⟨hP, hD⟩ := fcLA_J hP hD hk1 hFc hP1 hD1
  refine lv_aload_n hx hb dL_law_820 rfl (lv_at hl 2 rfl) ?_
  refine lv_aload_n hx hb dL_law_821 rfl (lv_at hl 0 rfl) ?_
  refine lv_iload_n hx hb dL_law_822 rfl (lv_at hl 3 rfl) ?_
  refine lv_iconst (v := (1 : Int32)) hx hb dL_law_823 (by decide) ?_
  refine lv_iadd hx hb dL_law_824 ?_
  refine va_sld hx hb hX hbl hbA hS hv1 dL_law_825 ?_
  have hPc := fcLB_P hP
  have hDc := fcLB_D hD
  have hFc := fr_self hDc hS hA
  refine gv_i (va_runV (As := [.int (xs (x3 + 1).toNatClampNeg)]) (rest := [.int r]) ⟨hx, hb, hml, hown, hts⟩ (c_X7_count l D k g Y H.size (xs (x3 + 1).toNatClampNeg) _ h) (cwV 1 hts gL_law_X7_count rfl rfl rfl (by decide +kernel) ⟨Nat.le_of_ble_eq_true rfl, Nat.le_of_ble_eq_true rfl⟩) (gv_preV hK hnw hPc hDc (ci := 7) rfl 0 rfl) rfl rfl hl.1 rfl (lv_room (Nat.le_of_ble_eq_true rfl)) dL_law_826 ⟨Nat.le_of_ble_eq_true rfl, Nat.le_of_ble_eq_true rfl⟩) hS hFc (fun r2 Y2 H locs h hP1 hD1 hk1 hS => ?_)
  obtain ⟨hP, hD⟩ := fcLB_J hP hD hk1 hFc hP1 hD1
  refine lv_icmp_eq (tgt := 834) hx hb dL_law_829 (by decide) (fun _ => ?_) (fun c => absurd h.1 c)
  exact ih X2 Y2 h.2 H locs ls hP hD hS hl
