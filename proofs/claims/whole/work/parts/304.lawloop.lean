set_option maxRecDepth 100000 in
set_option maxHeartbeats 4000000 in
theorem law_loop {p : Program} {l : Launch} {e : Env} {s : State} {m : MethodId} {below : List Frame} {meth : Method} {c : Code} {D : va_G} {k : Nat → ClassId} {b L : Nat} {xs : Nat → Int32} (hL : L ≤ 256) (C0 : lw_At p s m meth c b L xs) (hnw : nwP s) (hK : va_K D vwCl (tysOf k) s) {Inv : CS → St → Prop} (a g : Nat → Nat) (hI : LawStep Inv) : ∀ (n i : Nat) (x3 : Int32), i ≤ L → L + 4 ≤ i + n → x3 = nI i → ∀ (X : CS) (Y : St), Inv X Y → ∀ (H : Heap) (locs : List Loc) (ls : Array Slot), va_P D vwCl (wMa k a X ++ wMo k g Y) H → va_D (fun q : Nat => s.heap.size ≤ q) (wMa k a X ++ wMo k g Y) → va_S (fun q : Nat => s.heap.size ≤ q) s.heap H locs → lv_has ls 4 [(0, .ref b), (1, .ref (a 0)), (2, .ref (g 0)), (3, .int x3)] → W p l e room_1 s m #[Value.ref b] below meth c H locs 113 1553 (lw_Z below #[Value.ref b] s) (F0 m 18 ls []) := by
  have C1 := C0
  obtain ⟨hx, hb, hr, hml, hown0, hts0, hX, hbl, hlocks, hgv⟩ := C0
  have hown : s.vm.findClass RL = some m.cls := hown0
  have hts : ∀ w ∈ wsL_law, w.before #[Value.ref b] s = true := fun w h => hts0 w (wsL_law_in w h)
  have hA : ∀ q : Nat, s.heap.size ≤ q → (fun q : Nat => s.heap.size ≤ q) q := fun _ h => h
  have hbA : ¬ (fun q : Nat => s.heap.size ≤ q) b := Nat.not_le.mpr hbl
  intro n
  induction n with
  | zero => intro i x3 h1 h2; exact absurd h2 (by omega)
  | succ n ih =>
    intro i x3 hi hn ex3 X Y hXY H locs ls hP hD hS hl
    refine lv_iload_n hx hb dL_law_18 rfl (lv_at hl 3 rfl) ?_
    refine lv_aload_n hx hb dL_law_19 rfl (lv_at hl 0 rfl) ?_
    refine va_slen hx hb hX hbl hbA hS dL_law_20 ?_
    refine lv_iconst (v := (4 : Int32)) hx hb dL_law_21 (by decide) ?_
    refine lv_isub hx hb dL_law_22 ?_
    have key : (Int32.ofNat L - 4 < x3) ↔ L < i + 4 := by
      rw [ex3, Int32.lt_iff_toInt_lt]
      have e1 : (Int32.ofNat L - 4).toInt = (L : Int) - 4 := pk_sub_toInt (a := L) (b := 4) (by omega) (by decide)
      rw [e1, nI_toInt (by omega)]
      omega
    refine lv_icmp_gt (tgt := 840) hx hb dL_law_23 (by decide) (fun c_1 => ?_) (fun c_1 => ?_)
    · refine lv_iconst (v := 1) hx hb dL_law_840 (by decide) ?_
      refine va_forget (fun q hq => hS.2.2 q hq) ?_
      refine W.widen (k := 600000) (n := 7302250) (Nat.le_of_ble_eq_true rfl) (Nat.le_of_ble_eq_true rfl) ?_
      exact lw_ret hx hb hr hlocks dL_law_841
    · have hi4 : i + 4 ≤ L := by
        have := mt key.mpr c_1
        omega
      have hv0 : vp_in x3 L := by rw [ex3]; exact vp_in_nI (by omega) (by omega)
      refine lv_aload_n hx hb dL_law_26 rfl (lv_at hl 0 rfl) ?_
      refine lv_iload_n hx hb dL_law_27 rfl (lv_at hl 3 rfl) ?_
      refine va_sld hx hb hX hbl hbA hS hv0 dL_law_28 ?_
      refine lv_bipush (v := (31 : Int32)) hx hb dL_law_29 (by decide) ?_
      refine lv_iand hx hb dL_law_31 ?_
      refine lv_topi (fun y ey => ?_)
      have K834 : ∀ (X : CS) (Y : St), Inv X Y → ∀ (H : Heap) (locs : List Loc) (ls : Array Slot), va_P D vwCl (wMa k a X ++ wMo k g Y) H → va_D (fun q : Nat => s.heap.size ≤ q) (wMa k a X ++ wMo k g Y) → va_S (fun q : Nat => s.heap.size ≤ q) s.heap H locs → lv_has ls 4 [(0, .ref b), (1, .ref (a 0)), (2, .ref (g 0)), (3, .int x3)] → W p l e room_1 s m #[Value.ref b] below meth c H locs 113 1553 (lw_Z below #[Value.ref b] s) (F0 m 834 ls []) := by
        intro X Y hXY H locs ls hP hD hS hl
        refine lv_iinc (v := (x3 + 4)) (lv' := [(3, .int (x3 + 4)), (0, .ref b), (1, .ref (a 0)), (2, .ref (g 0))]) hx hb dL_law_834 hl (k := 3) rfl rfl (by decide) rfl (fun ls hl => ?_)
        refine lv_goto (tgt := 18) hx hb dL_law_837 (by decide) ?_
        exact ih (i + 4) (x3 + 4) hi4 (by omega) (by rw [ex3]; exact nI_add i 4) X Y hXY H locs ls hP hD hS (lv_sub hl [1, 2, 3, 0] rfl)
      rcases Classical.em (y = (0 : Int32)) with c_0_ | c_0_
      · refine lv_tableIn (off := 128) (tgt := 160) hx hb dL_law_32 (by rw [c_0_]; decide) (by rw [c_0_]; decide) (by rw [c_0_]; rfl) (by decide) ?_
        exact lc_0 hL C1 hnw hK a g (hI.1) hi4 ex3 hXY K834 hP hD hS hl
      rcases Classical.em (y = (1 : Int32)) with c_1_ | c_1_
      · refine lv_tableIn (off := 151) (tgt := 183) hx hb dL_law_32 (by rw [c_1_]; decide) (by rw [c_1_]; decide) (by rw [c_1_]; rfl) (by decide) ?_
        exact lc_1 hL C1 hnw hK a g (hI.2.1) hi4 ex3 hXY K834 hP hD hS hl
      rcases Classical.em (y = (2 : Int32)) with c_2_ | c_2_
      · refine lv_tableIn (off := 164) (tgt := 196) hx hb dL_law_32 (by rw [c_2_]; decide) (by rw [c_2_]; decide) (by rw [c_2_]; rfl) (by decide) ?_
        exact lc_2 hL C1 hnw hK a g (hI.2.2.1) hi4 ex3 hXY K834 hP hD hS hl
      rcases Classical.em (y = (3 : Int32)) with c_3_ | c_3_
      · refine lv_tableIn (off := 197) (tgt := 229) hx hb dL_law_32 (by rw [c_3_]; decide) (by rw [c_3_]; decide) (by rw [c_3_]; rfl) (by decide) ?_
        exact lc_3 hL C1 hnw hK a g (hI.2.2.2.1) hi4 ex3 hXY K834 hP hD hS hl
      rcases Classical.em (y = (4 : Int32)) with c_4_ | c_4_
      · refine lv_tableIn (off := 220) (tgt := 252) hx hb dL_law_32 (by rw [c_4_]; decide) (by rw [c_4_]; decide) (by rw [c_4_]; rfl) (by decide) ?_
        exact lc_4 hL C1 hnw hK a g (hI.2.2.2.2.1) hi4 ex3 hXY K834 hP hD hS hl
      rcases Classical.em (y = (5 : Int32)) with c_5_ | c_5_
      · refine lv_tableIn (off := 253) (tgt := 285) hx hb dL_law_32 (by rw [c_5_]; decide) (by rw [c_5_]; decide) (by rw [c_5_]; rfl) (by decide) ?_
        exact lc_5 hL C1 hnw hK a g (hI.2.2.2.2.2.1) hi4 ex3 hXY K834 hP hD hS hl
      rcases Classical.em (y = (6 : Int32)) with c_6_ | c_6_
      · refine lv_tableIn (off := 286) (tgt := 318) hx hb dL_law_32 (by rw [c_6_]; decide) (by rw [c_6_]; decide) (by rw [c_6_]; rfl) (by decide) ?_
        exact lc_6 hL C1 hnw hK a g (hI.2.2.2.2.2.2.1) hi4 ex3 hXY K834 hP hD hS hl
      rcases Classical.em (y = (7 : Int32)) with c_7_ | c_7_
      · refine lv_tableIn (off := 319) (tgt := 351) hx hb dL_law_32 (by rw [c_7_]; decide) (by rw [c_7_]; decide) (by rw [c_7_]; rfl) (by decide) ?_
        exact lc_7 hL C1 hnw hK a g (hI.2.2.2.2.2.2.2.1) hi4 ex3 hXY K834 hP hD hS hl
      rcases Classical.em (y = (8 : Int32)) with c_8_ | c_8_
      · refine lv_tableIn (off := 362) (tgt := 394) hx hb dL_law_32 (by rw [c_8_]; decide) (by rw [c_8_]; decide) (by rw [c_8_]; rfl) (by decide) ?_
        exact lc_8 hL C1 hnw hK a g (hI.2.2.2.2.2.2.2.2.1) hi4 ex3 hXY K834 hP hD hS hl
      rcases Classical.em (y = (9 : Int32)) with c_9_ | c_9_
      · refine lv_tableIn (off := 375) (tgt := 407) hx hb dL_law_32 (by rw [c_9_]; decide) (by rw [c_9_]; decide) (by rw [c_9_]; rfl) (by decide) ?_
        exact lc_9 hL C1 hnw hK a g (hI.2.2.2.2.2.2.2.2.2.1) hi4 ex3 hXY K834 hP hD hS hl
      rcases Classical.em (y = (10 : Int32)) with c_10_ | c_10_
      · refine lv_tableIn (off := 408) (tgt := 440) hx hb dL_law_32 (by rw [c_10_]; decide) (by rw [c_10_]; decide) (by rw [c_10_]; rfl) (by decide) ?_
        exact lc_10 hL C1 hnw hK a g (hI.2.2.2.2.2.2.2.2.2.2.1) hi4 ex3 hXY K834 hP hD hS hl
      rcases Classical.em (y = (11 : Int32)) with c_11_ | c_11_
      · refine lv_tableIn (off := 441) (tgt := 473) hx hb dL_law_32 (by rw [c_11_]; decide) (by rw [c_11_]; decide) (by rw [c_11_]; rfl) (by decide) ?_
        exact lc_11 hL C1 hnw hK a g (hI.2.2.2.2.2.2.2.2.2.2.2.1) hi4 ex3 hXY K834 hP hD hS hl
      rcases Classical.em (y = (12 : Int32)) with c_12_ | c_12_
      · refine lv_tableIn (off := 464) (tgt := 496) hx hb dL_law_32 (by rw [c_12_]; decide) (by rw [c_12_]; decide) (by rw [c_12_]; rfl) (by decide) ?_
        exact lc_12 hL C1 hnw hK a g (hI.2.2.2.2.2.2.2.2.2.2.2.2.1) hi4 ex3 hXY K834 hP hD hS hl
      rcases Classical.em (y = (13 : Int32)) with c_13_ | c_13_
      · refine lv_tableIn (off := 497) (tgt := 529) hx hb dL_law_32 (by rw [c_13_]; decide) (by rw [c_13_]; decide) (by rw [c_13_]; rfl) (by decide) ?_
        exact lc_13 hL C1 hnw hK a g (hI.2.2.2.2.2.2.2.2.2.2.2.2.2.1) hi4 ex3 hXY K834 hP hD hS hl
      rcases Classical.em (y = (14 : Int32)) with c_14_ | c_14_
      · refine lv_tableIn (off := 510) (tgt := 542) hx hb dL_law_32 (by rw [c_14_]; decide) (by rw [c_14_]; decide) (by rw [c_14_]; rfl) (by decide) ?_
        exact lc_14 hL C1 hnw hK a g (hI.2.2.2.2.2.2.2.2.2.2.2.2.2.2.1) hi4 ex3 hXY K834 hP hD hS hl
      rcases Classical.em (y = (15 : Int32)) with c_15_ | c_15_
      · refine lv_tableIn (off := 533) (tgt := 565) hx hb dL_law_32 (by rw [c_15_]; decide) (by rw [c_15_]; decide) (by rw [c_15_]; rfl) (by decide) ?_
        exact lc_15 hL C1 hnw hK a g (hI.2.2.2.2.2.2.2.2.2.2.2.2.2.2.2.1) hi4 ex3 hXY K834 hP hD hS hl
      rcases Classical.em (y = (16 : Int32)) with c_16_ | c_16_
      · refine lv_tableIn (off := 566) (tgt := 598) hx hb dL_law_32 (by rw [c_16_]; decide) (by rw [c_16_]; decide) (by rw [c_16_]; rfl) (by decide) ?_
        exact lc_16 hL C1 hnw hK a g (hI.2.2.2.2.2.2.2.2.2.2.2.2.2.2.2.2.1) hi4 ex3 hXY K834 hP hD hS hl
      rcases Classical.em (y = (17 : Int32)) with c_17_ | c_17_
      · refine lv_tableIn (off := 599) (tgt := 631) hx hb dL_law_32 (by rw [c_17_]; decide) (by rw [c_17_]; decide) (by rw [c_17_]; rfl) (by decide) ?_
        exact lc_17 hL C1 hnw hK a g (hI.2.2.2.2.2.2.2.2.2.2.2.2.2.2.2.2.2.1) hi4 ex3 hXY K834 hP hD hS hl
      rcases Classical.em (y = (18 : Int32)) with c_18_ | c_18_
      · refine lv_tableIn (off := 622) (tgt := 654) hx hb dL_law_32 (by rw [c_18_]; decide) (by rw [c_18_]; decide) (by rw [c_18_]; rfl) (by decide) ?_
        exact lc_18 hL C1 hnw hK a g (hI.2.2.2.2.2.2.2.2.2.2.2.2.2.2.2.2.2.2.1) hi4 ex3 hXY K834 hP hD hS hl
      rcases Classical.em (y = (19 : Int32)) with c_19_ | c_19_
      · refine lv_tableIn (off := 645) (tgt := 677) hx hb dL_law_32 (by rw [c_19_]; decide) (by rw [c_19_]; decide) (by rw [c_19_]; rfl) (by decide) ?_
        exact lc_19 hL C1 hnw hK a g (hI.2.2.2.2.2.2.2.2.2.2.2.2.2.2.2.2.2.2.2.1) hi4 ex3 hXY K834 hP hD hS hl
      rcases Classical.em (y = (20 : Int32)) with c_20_ | c_20_
      · refine lv_tableIn (off := 668) (tgt := 700) hx hb dL_law_32 (by rw [c_20_]; decide) (by rw [c_20_]; decide) (by rw [c_20_]; rfl) (by decide) ?_
        exact lc_20 hL C1 hnw hK a g (hI.2.2.2.2.2.2.2.2.2.2.2.2.2.2.2.2.2.2.2.2.1) hi4 ex3 hXY K834 hP hD hS hl
      rcases Classical.em (y = (21 : Int32)) with c_21_ | c_21_
      · refine lv_tableIn (off := 681) (tgt := 713) hx hb dL_law_32 (by rw [c_21_]; decide) (by rw [c_21_]; decide) (by rw [c_21_]; rfl) (by decide) ?_
        exact lc_21 hL C1 hnw hK a g (hI.2.2.2.2.2.2.2.2.2.2.2.2.2.2.2.2.2.2.2.2.2.1) hi4 ex3 hXY K834 hP hD hS hl
      rcases Classical.em (y = (22 : Int32)) with c_22_ | c_22_
      · refine lv_tableIn (off := 694) (tgt := 726) hx hb dL_law_32 (by rw [c_22_]; decide) (by rw [c_22_]; decide) (by rw [c_22_]; rfl) (by decide) ?_
        exact lc_22 hL C1 hnw hK a g (hI.2.2.2.2.2.2.2.2.2.2.2.2.2.2.2.2.2.2.2.2.2.2.1) hi4 ex3 hXY K834 hP hD hS hl
      rcases Classical.em (y = (23 : Int32)) with c_23_ | c_23_
      · refine lv_tableIn (off := 707) (tgt := 739) hx hb dL_law_32 (by rw [c_23_]; decide) (by rw [c_23_]; decide) (by rw [c_23_]; rfl) (by decide) ?_
        exact lc_23 hL C1 hnw hK a g (hI.2.2.2.2.2.2.2.2.2.2.2.2.2.2.2.2.2.2.2.2.2.2.2.1) hi4 ex3 hXY K834 hP hD hS hl
      rcases Classical.em (y = (24 : Int32)) with c_24_ | c_24_
      · refine lv_tableIn (off := 720) (tgt := 752) hx hb dL_law_32 (by rw [c_24_]; decide) (by rw [c_24_]; decide) (by rw [c_24_]; rfl) (by decide) ?_
        exact lc_24 hL C1 hnw hK a g (hI.2.2.2.2.2.2.2.2.2.2.2.2.2.2.2.2.2.2.2.2.2.2.2.2.1) hi4 ex3 hXY K834 hP hD hS hl
      rcases Classical.em (y = (25 : Int32)) with c_25_ | c_25_
      · refine lv_tableIn (off := 753) (tgt := 785) hx hb dL_law_32 (by rw [c_25_]; decide) (by rw [c_25_]; decide) (by rw [c_25_]; rfl) (by decide) ?_
        exact lc_25 hL C1 hnw hK a g (hI.2.2.2.2.2.2.2.2.2.2.2.2.2.2.2.2.2.2.2.2.2.2.2.2.2.1) hi4 ex3 hXY K834 hP hD hS hl
      rcases Classical.em (y = (26 : Int32)) with c_26_ | c_26_
      · refine lv_tableIn (off := 766) (tgt := 798) hx hb dL_law_32 (by rw [c_26_]; decide) (by rw [c_26_]; decide) (by rw [c_26_]; rfl) (by decide) ?_
        exact lc_26 hL C1 hnw hK a g (hI.2.2.2.2.2.2.2.2.2.2.2.2.2.2.2.2.2.2.2.2.2.2.2.2.2.2.1) hi4 ex3 hXY K834 hP hD hS hl
      rcases Classical.em (y = (27 : Int32)) with c_27_ | c_27_
      · refine lv_tableIn (off := 779) (tgt := 811) hx hb dL_law_32 (by rw [c_27_]; decide) (by rw [c_27_]; decide) (by rw [c_27_]; rfl) (by decide) ?_
        exact lc_27 hL C1 hnw hK a g (hI.2.2.2.2.2.2.2.2.2.2.2.2.2.2.2.2.2.2.2.2.2.2.2.2.2.2.2) hi4 ex3 hXY K834 hP hD hS hl
      refine lv_tableD (tgt := 834) hx hb dL_law_32 (by
          have n0 := lv_neT (k := (0 : Int32)) (a := 0) c_0_ (by decide)
          have n1 := lv_neT (k := (1 : Int32)) (a := 1) c_1_ (by decide)
          have n2 := lv_neT (k := (2 : Int32)) (a := 2) c_2_ (by decide)
          have n3 := lv_neT (k := (3 : Int32)) (a := 3) c_3_ (by decide)
          have n4 := lv_neT (k := (4 : Int32)) (a := 4) c_4_ (by decide)
          have n5 := lv_neT (k := (5 : Int32)) (a := 5) c_5_ (by decide)
          have n6 := lv_neT (k := (6 : Int32)) (a := 6) c_6_ (by decide)
          have n7 := lv_neT (k := (7 : Int32)) (a := 7) c_7_ (by decide)
          have n8 := lv_neT (k := (8 : Int32)) (a := 8) c_8_ (by decide)
          have n9 := lv_neT (k := (9 : Int32)) (a := 9) c_9_ (by decide)
          have n10 := lv_neT (k := (10 : Int32)) (a := 10) c_10_ (by decide)
          have n11 := lv_neT (k := (11 : Int32)) (a := 11) c_11_ (by decide)
          have n12 := lv_neT (k := (12 : Int32)) (a := 12) c_12_ (by decide)
          have n13 := lv_neT (k := (13 : Int32)) (a := 13) c_13_ (by decide)
          have n14 := lv_neT (k := (14 : Int32)) (a := 14) c_14_ (by decide)
          have n15 := lv_neT (k := (15 : Int32)) (a := 15) c_15_ (by decide)
          have n16 := lv_neT (k := (16 : Int32)) (a := 16) c_16_ (by decide)
          have n17 := lv_neT (k := (17 : Int32)) (a := 17) c_17_ (by decide)
          have n18 := lv_neT (k := (18 : Int32)) (a := 18) c_18_ (by decide)
          have n19 := lv_neT (k := (19 : Int32)) (a := 19) c_19_ (by decide)
          have n20 := lv_neT (k := (20 : Int32)) (a := 20) c_20_ (by decide)
          have n21 := lv_neT (k := (21 : Int32)) (a := 21) c_21_ (by decide)
          have n22 := lv_neT (k := (22 : Int32)) (a := 22) c_22_ (by decide)
          have n23 := lv_neT (k := (23 : Int32)) (a := 23) c_23_ (by decide)
          have n24 := lv_neT (k := (24 : Int32)) (a := 24) c_24_ (by decide)
          have n25 := lv_neT (k := (25 : Int32)) (a := 25) c_25_ (by decide)
          have n26 := lv_neT (k := (26 : Int32)) (a := 26) c_26_ (by decide)
          have n27 := lv_neT (k := (27 : Int32)) (a := 27) c_27_ (by decide)
          rcases (show y.toInt < 0 ∨ 27 < y.toInt by omega) with q | q
          · exact Or.inl q
          · exact Or.inr (Or.inl q)) (by decide) ?_
      exact K834 X Y hXY H locs ls hP hD hS hl
