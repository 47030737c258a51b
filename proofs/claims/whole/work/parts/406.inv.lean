/-! the whole picture: floor, image's floor, whether there is an image, letters, row, refusals -/
abbrev AS : Type := TV × TV × Bool × Nat × Nat × (Nat → Int32) × (Nat → Int32) × (Nat → Int32)
def gt (G : AS) : TV := G.1
def gi (G : AS) : TV := G.2.1
def gm (G : AS) : Bool := G.2.2.1
def gL (G : AS) : Nat := G.2.2.2.1
def gR (G : AS) : Nat := G.2.2.2.2.1
def gx (G : AS) : Nat → Int32 := G.2.2.2.2.2.1
def gw (G : AS) : Nat → Int32 := G.2.2.2.2.2.2.1
def gf (G : AS) : Nat → Int32 := G.2.2.2.2.2.2.2
def setT (G : AS) (t : TV) : AS := (t, G.2)
def setF (G : AS) (f : Nat → Int32) : AS := (G.1, G.2.1, G.2.2.1, G.2.2.2.1, G.2.2.2.2.1, G.2.2.2.2.2.1, G.2.2.2.2.2.2.1, f)
def setL (G : AS) (n : Nat) (x : Nat → Int32) : AS := (G.1, G.2.1, G.2.2.1, n, G.2.2.2.2.1, x, G.2.2.2.2.2.2.1, G.2.2.2.2.2.2.2)
def setR (G : AS) (n : Nat) (x : Nat → Int32) : AS := (G.1, G.2.1, G.2.2.1, G.2.2.2.1, n, G.2.2.2.2.2.1, x, G.2.2.2.2.2.2.2)
def setM (G : AS) (t : TV) : AS := (G.1, t, true, G.2.2.2)
def okG (G : AS) : Prop := okT (gt G) ∧ (gm G = true → okT (gi G)) ∧ gL G ≤ 64 ∧ gR G ≤ 6 ∧ (∀ i, i < gL G → ∃ c, c < 256 ∧ gx G i = nI c) ∧ ∀ i, i < gR G → ∃ p, p < 100 ∧ gw G i = nI p
def absX (X : CS) (G : AS) : Prop :=
  absF X.2.1 (gt G) ∧ X.1.1 7 = b2i (gm G) ∧ (gm G = true → absF X.2.2.1 (gi G)) ∧ X.2.2.2.1.1.1 0 = nI (gL G) ∧ (∀ i, i < gL G → X.2.2.2.1.1.2 1 i = gx G i) ∧ X.2.2.2.2.2.2.1.1 0 = nI (gR G) ∧ (∀ i, i < gR G → X.2.2.2.2.2.2.1.2 1 i = gw G i) ∧ ∀ i, i < 7 → X.1.2 6 i = gf G i
def absY (Y : St) (G : AS) : Prop :=
  absF (flM Y) (gt G) ∧ Y.1 16 = b2i (gm G) ∧ (gm G = true → absF (flK Y 0) (gi G)) ∧ Y.1 12 = nI (gL G) ∧ (∀ i, i < gL G → Y.2 7 i = gx G i) ∧ Y.1 29 = nI (gR G) ∧ (∀ i, i < gR G → Y.2 27 i = gw G i) ∧ ∀ i, i < 7 → Y.2 0 i = gf G i
def Inv (X : CS) (Y : St) : Prop := ∃ G, okG G ∧ absX X G ∧ absY Y G
theorem absX.xf {X : CS} {G : AS} {F : St} {t : TV} (h : absX X G) (hF : absF F t) : absX (xf X F) (setT G t) := ⟨hF, h.2.1, h.2.2.1, h.2.2.2.1, h.2.2.2.2.1, h.2.2.2.2.2.1, h.2.2.2.2.2.2.1, h.2.2.2.2.2.2.2⟩
theorem absX.xh {X : CS} {G : AS} {v : Nat → St} (h : absX X G) : absX (xh X v) G := h
theorem absX.xw {X : CS} {G : AS} {v : St × (Nat → St)} (h : absX X G) : absX (xw X v) G := h
theorem absK_eq {Y Y' : St} {t : TV} (ht : tn t ≤ 8) (h : absF (flK Y 0) t) (hq : ∀ q, q < 34 → Y'.2 15 q = Y.2 15 q) : absF (flK Y' 0) t :=
  absF.eq8 ht h (hq 32 (by omega)) (hq 33 (by omega)) (fun i hi => hq _ (by omega)) (fun i hi => hq _ (by omega)) (fun i hi => hq _ (by omega)) (fun i hi => hq _ (by omega))
theorem absY.of {Y Y' : St} {G : AS} {t : TV} (hG : okG G) (h : absY Y G) (hF : absF (flM Y') t) {is as : List Nat} (hf : frm is as Y Y') (hi : 12 ∉ is ∧ 16 ∉ is ∧ 29 ∉ is) (ha : 0 ∉ as ∧ 7 ∉ as ∧ 27 ∉ as) (hq : ∀ q, q < 34 → Y'.2 15 q = Y.2 15 q) : absY Y' (setT G t) := by
  obtain ⟨_, h2, h3, h4, h5, h6, h7, h8⟩ := h
  refine ⟨hF, (hf.1 16 hi.2.1).trans h2, fun e => absK_eq (hG.2.1 e).1 (h3 e) hq, (hf.1 12 hi.1).trans h4, fun i z => ?_, (hf.1 29 hi.2.2).trans h6, fun i z => ?_, fun i z => ?_⟩
  · rw [hf.2 7 ha.2.1]; exact h5 i z
  · rw [hf.2 27 ha.2.2]; exact h7 i z
  · rw [hf.2 0 ha.1]; exact h8 i z
theorem setT_self (G : AS) : setT G (gt G) = G := rfl
theorem absY.fr {Y Y' : St} {G : AS} {t : TV} (hG : okG G) (h : absY Y G) (hF : absF (flM Y') t) {is as : List Nat} (hf : frm is as Y Y') (hi : 12 ∉ is ∧ 16 ∉ is ∧ 29 ∉ is) (ha : 0 ∉ as ∧ 7 ∉ as ∧ 27 ∉ as ∧ 15 ∉ as) : absY Y' (setT G t) :=
  absY.of hG h hF hf hi ⟨ha.1, ha.2.1, ha.2.2.1⟩ (fun q _ => by rw [hf.2 15 ha.2.2.2])
theorem flM_frm {Y Y' : St} {is as : List Nat} (hf : frm is as Y Y') (hi : 5 ∉ is ∧ 6 ∉ is) (ha : 1 ∉ as ∧ 2 ∉ as ∧ 3 ∉ as ∧ 4 ∉ as) {t : TV} (h : absF (flM Y) t) : absF (flM Y') t := by
  obtain ⟨g1, g2, g3, g4, g5, g6⟩ := h
  refine ⟨(hf.1 5 hi.1).trans g1, (hf.1 6 hi.2).trans g2, fun i z => ?_, fun i z => ?_, fun i z => ?_, fun i z j => ?_⟩
  · show Y'.2 1 i = _
    rw [hf.2 1 ha.1]; exact g3 i z
  · show Y'.2 2 i = _
    rw [hf.2 2 ha.2.1]; exact g4 i z
  · show Y'.2 3 i = _
    rw [hf.2 3 ha.2.2.1]; exact g5 i z
  · show bt (Y'.2 4 i) j = _
    rw [hf.2 4 ha.2.2.2]; exact g6 i z j
/-- scratch slots alone -/
theorem absY.scr {Y Y' : St} {G : AS} (hG : okG G) (h : absY Y G) {is as : List Nat} (hf : frm is as Y Y') (hi : 12 ∉ is ∧ 16 ∉ is ∧ 29 ∉ is ∧ 5 ∉ is ∧ 6 ∉ is) (ha : 0 ∉ as ∧ 7 ∉ as ∧ 27 ∉ as ∧ 1 ∉ as ∧ 2 ∉ as ∧ 3 ∉ as ∧ 4 ∉ as) (hq : ∀ q, q < 34 → Y'.2 15 q = Y.2 15 q) : absY Y' G :=
  absY.of (t := gt G) hG h (flM_frm hf ⟨hi.2.2.2.1, hi.2.2.2.2⟩ ⟨ha.2.2.2.1, ha.2.2.2.2.1, ha.2.2.2.2.2.1, ha.2.2.2.2.2.2⟩ h.1) hf ⟨hi.1, hi.2.1, hi.2.2.1⟩ ⟨ha.1, ha.2.1, ha.2.2.1⟩ hq
/-! refusals -/
def rfG (G : AS) (k : Nat) : AS := setF G (fun i => if i = k then gf G i + 1 else gf G i)
theorem okG.rf {G : AS} (h : okG G) (k : Nat) : okG (rfG G k) := h
theorem neg_nI {k : Nat} {x : Int32} (hx : -x = nI k) (hk : k < 7) : vp_in (-x) 7 ∧ (-x).toNatClampNeg = k := by
  rw [hx]; exact ⟨vp_in_nI hk (by omega), nI_clamp (by omega)⟩
theorem s_refuse {X : CS} {G : AS} {x : Int32} {k : Nat} {Q : Int32 → CS → Prop} (hx : -x = nI k) (hk : k < 7) (h : absX X G) (hQ : ∀ X', absX X' (rfG G k) → Q x X') : wp_X6_refuse X x Q := by
  obtain ⟨v1, v2⟩ := neg_nI hx hk
  unfold wp_X6_refuse
  rw [v2]
  refine ⟨v1, v1, fun S e => hQ S ?_⟩
  obtain ⟨h1, h2, h3, h4, h5, h6, h7, h8⟩ := h
  rw [e]
  refine ⟨h1, h2, h3, h4, h5, h6, h7, fun i hi => ?_⟩
  show (sA X.1 6 k (X.1.2 6 k + 1)).2 6 i = if i = k then gf G i + 1 else gf G i
  rw [sA_s]
  by_cases c : i = k
  · rw [c, upd_s, if_pos rfl, h8 k hk]
  · rw [upd_n _ _ c, if_neg c, h8 i hi]
theorem s7_no {Y : St} {G : AS} {x : Int32} {k : Nat} {Q : Int32 → St → Prop} (hx : -x = nI k) (hk : k < 7) (h : absY Y G) (hQ : ∀ Y', absY Y' (rfG G k) → Q x Y') : wp_X7_no Y x Q := by
  obtain ⟨v1, v2⟩ := neg_nI hx hk
  unfold wp_X7_no
  rw [v2]
  refine ⟨v1, v1, fun S e => hQ S ?_⟩
  obtain ⟨h1, h2, h3, h4, h5, h6, h7, h8⟩ := h
  rw [e]
  refine ⟨h1, h2, h3, h4, h5, h6, h7, fun i hi => ?_⟩
  show (sA Y 0 k (Y.2 0 k + 1)).2 0 i = if i = k then gf G i + 1 else gf G i
  rw [sA_s]
  by_cases c : i = k
  · rw [c, upd_s, if_pos rfl, h8 k hk]
  · rw [upd_n _ _ c, if_neg c, h8 i hi]
/-- both refuse -/
theorem both_no {X : CS} {Y : St} {G : AS} {x : Int32} {k : Nat} (hx : -x = nI k) (hk : k < 7) (hG : okG G) (h1 : absX X G) (h2 : absY Y G) : wp_X6_refuse X x (fun r X2 => wp_X7_no Y x (fun r2 Y2 => r = r2 ∧ Inv X2 Y2)) :=
  s_refuse hx hk h1 (fun _ g1 => s7_no hx hk h2 (fun _ g2 => ⟨rfl, _, hG.rf k, g1, g2⟩))
/-! 0 feed -/
theorem lit_lt {a b : Nat} (ha : a < 100000) (hb : b < 100000) : nI a < nI b ↔ a < b := nI_ltI (by omega) (by omega)
theorem lit_le {a b : Nat} (ha : a < 100000) (hb : b < 100000) : nI a ≤ nI b ↔ a ≤ b := nI_leI (by omega) (by omega)
theorem ls_feed : LS_0 Inv := by
  rintro X Y x ⟨G, hG, hX, hY⟩
  obtain ⟨x1, x2, x3, x4, x5, x6, x7, x8⟩ := id hX
  obtain ⟨y1, y2, y3, y4, y5, y6, y7, y8⟩ := id hY
  have hL := hG.2.2.1
  have bound_t : ∀ {Q : Int32 → Prop}, (0 : Int32) ≤ x → x ≤ 255 → Q 0 → wp_X7_bound x 0 255 Q := fun h0 h1 h => br_t h0 (br_t h1 h)
  unfold wp_X6_feed
  by_cases c0 : (0 : Int32) ≤ x
  · refine br_t c0 ?_
    by_cases c1 : (255 : Int32) < x
    · refine br_t c1 ?_
      refine s_refuse (k := 6) rfl (by omega) hX (fun X2 g1 => ?_)
      refine br_t c0 (br_f (fun z => ?_) (bn_t (by decide) (br_f (by decide) (s7_no (k := 6) rfl (by omega) hY (fun Y2 g2 => ⟨rfl, _, hG.rf 6, g1, g2⟩)))))
      rw [Int32.lt_iff_toInt_lt] at c1; rw [Int32.le_iff_toInt_le] at z; omega
    · have c1' : x ≤ (255 : Int32) := by rw [Int32.lt_iff_toInt_lt] at c1; rw [Int32.le_iff_toInt_le]; omega
      obtain ⟨j, hj, ej⟩ : ∃ j, j ≤ 255 ∧ x = nI j := nI_of2 (n := 255) rfl (by rw [Int32.le_iff_toInt_le] at c0; rw [Int32.lt_iff_toInt_lt]; omega) c1'
      refine br_f c1 ?_
      rw [x4]
      by_cases c2 : gL G < 64
      · refine br_t ((lit_lt (b := 64) (by omega) (by omega)).mpr c2) ?_
        unfold wp_X4_append
        rw [x4]
        refine br_f (fun z => by rw [show (64 : Int32) = nI 64 from rfl, lit_le (by omega) (by omega)] at z; omega) ⟨vp_in_nI c2 (by omega), fun S2 e2 S4 e4 S8 e8 => ?_⟩
        rw [nI_clamp (n := gL G) (by omega)] at e2
        have r4 : S4.1.1 0 = nI (gL G + 1) := by
          rw [e4]
          show (sI S2.1 0 (S2.1.1 0 + 1)).1 0 = _
          rw [sI_s, e2]
          show X.2.2.2.1.1.1 0 + 1 = _
          rw [x4, nI_1]
        rw [r4]
        have hX8 : absX S8 (setL G (gL G + 1) (fun i => if i = gL G then x else gx G i)) := by
          rw [e8]
          refine ⟨x1, x2, x3, r4, fun i hi => ?_, x6, x7, x8⟩
          show S4.1.2 1 i = if i = gL G then x else gx G i
          rw [e4, e2]
          show (sA X.2.2.2.1.1 1 (gL G) x).2 1 i = _
          rw [sA_s]
          have hi' : i < gL G + 1 := hi
          by_cases c : i = gL G
          · rw [c, upd_s, if_pos rfl]
          · rw [upd_n _ _ c, if_neg c, x5 i (by omega)]
        refine bound_t c0 c1' ?_
        refine bn_f rfl ?_
        rw [y4]
        refine bn_t (fun z => by have := (nI_eq (b := 64) (by omega) (by omega)).mp z; omega) ?_
        unfold wp_X7_feed_25
        rw [y4]
        refine br_t rfl ⟨vp_in_nI c2 (by omega), fun T4 f4 T6 f6 => ?_⟩
        rw [nI_clamp (n := gL G) (by omega)] at f4
        have q6 : T6.1 12 = nI (gL G + 1) := by
          rw [f6, sI_s, f4, sA_1, y4, nI_1]
        rw [q6]
        refine ⟨rfl, setL G (gL G + 1) (fun i => if i = gL G then x else gx G i), ⟨hG.1, hG.2.1, c2, hG.2.2.2.1, fun i hi => ?_, hG.2.2.2.2.2⟩, hX8, ?_⟩
        · show ∃ c, c < 256 ∧ (if i = gL G then x else gx G i) = nI c
          have hi' : i < gL G + 1 := hi
          by_cases c : i = gL G
          · rw [if_pos c]; exact ⟨j, by omega, ej⟩
          · rw [if_neg c]; exact hG.2.2.2.2.1 i (by omega)
        · have fr : frm [12] [7] Y T6 := by
            rw [f6, f4]
            exact ((frm.sA 7 _ _).mono (fun s z => absurd z List.not_mem_nil) (fun s z => z)).tr ((frm.sI 12 _).mono (fun s z => z) (fun s z => absurd z List.not_mem_nil))
          refine ⟨flM_frm fr (by decide) (by decide) y1, (fr.1 16 (by decide)).trans y2, fun e => ?_, q6, fun i hi => ?_, (fr.1 29 (by decide)).trans y6, fun i hi => ?_, fun i hi => ?_⟩
          · exact absK_eq (hG.2.1 e).1 (y3 e) (fun q _ => by rw [fr.2 15 (by decide)])
          · show T6.2 7 i = if i = gL G then x else gx G i
            rw [f6, sI_2, f4, sA_s]
            have hi' : i < gL G + 1 := hi
            by_cases c : i = gL G
            · rw [c, upd_s, if_pos rfl]
            · rw [upd_n _ _ c, if_neg c, y5 i (by omega)]
          · rw [fr.2 27 (by decide)]; exact y7 i hi
          · rw [fr.2 0 (by decide)]; exact y8 i hi
      · have e64 : gL G = 64 := by omega
        refine br_f (fun z => by rw [show (64 : Int32) = nI 64 from rfl, lit_lt (by omega) (by omega)] at z; omega) ?_
        refine s_refuse (k := 6) rfl (by omega) hX (fun X2 g1 => ?_)
        refine bound_t c0 c1' (bn_f rfl ?_)
        rw [y4]
        exact bn_f (by rw [e64]; rfl) (br_f (by decide) (s7_no (k := 6) rfl (by omega) hY (fun Y2 g2 => ⟨rfl, _, hG.rf 6, g1, g2⟩)))
  · refine br_f c0 ?_
    refine s_refuse (k := 4) rfl (by omega) hX (fun X2 g1 => ?_)
    exact br_f c0 (bn_t (by decide) (br_f (by decide) (s7_no (k := 4) rfl (by omega) hY (fun Y2 g2 => ⟨rfl, _, hG.rf 4, g1, g2⟩))))
