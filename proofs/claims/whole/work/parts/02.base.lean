def nwL : List Cond := [.methodLinkNest RX0 47 yX6_hasBit RX6, .methodLinkNest RX0 50 yX6_lesserOf RX6, .methodLinkNest RX0 54 yX6_greaterOf RX6, .methodLinkNest RX1 45 yX6_hasBit RX6, .methodLinkNest RX2 35 yX6_lesserOf RX6, .methodLinkNest RX2 39 yX6_greaterOf RX6, .methodLinkNest RX2 46 yX6_hasBit RX6, .methodLinkNest RX2 55 yX6_isLaw RX6, .methodLinkNest RX2 85 yX6_leastOf RX6, .methodLinkNest RX3 48 yX6_pairOf RX6, .methodLinkNest RX3 76 yX6_lesserOf RX6, .methodLinkNest RX3 80 yX6_greaterOf RX6, .methodLinkNest RX5 47 yX6_lesserOf RX6, .methodLinkNest RX5 51 yX6_greaterOf RX6, .methodLinkNest RX5 58 yX6_hasBit RX6]
/-! base: states, pictures, contracts, calls -/
abbrev St : Type := (Nat → Int32) × (Nat → Nat → Int32)
def sI (S : St) (k : Nat) (v : Int32) : St := (upd S.1 k v, S.2)
def sA (S : St) (k i : Nat) (v : Int32) : St := (S.1, va_up S.2 k (upd (S.2 k) i v))
def sh (a : Nat → Nat) (n : Nat) : Nat → Nat := fun i => a (n + i)
def tysOf (k : Nat → ClassId) : List (ClassId × FieldType) := [(k 0, .int), (k 1, .object "WithTheSameOne$Floor"), (k 2, .object "WithTheSameOne$Ending")]
def bz (v : Int32) : Prop := v = 0 ∨ v = 1
theorem bz_narrow {v : Int32} (h : bz v) : narrow .boolean (.int v) = .int v := by
  rcases h with rfl | rfl <;> rfl
theorem bz_fits {v : Int32} (h : bz v) : fits .boolean (.int v) = true := by
  rcases h with rfl | rfl <;> rfl
theorem vp_lt {i : Int32} {n : Nat} (h : vp_in i n) : i.toNatClampNeg < n := Nat.not_le.mp fun q => h (Or.inr q)
def nwP (U : State) : Prop := (∀ w ∈ nwL, va_Nw w U) ∧ va_AO "WithTheSameOne$Floor" U ∧ va_AO "WithTheSameOne$Ending" U
theorem nwP.warm {s U : State} (hW : s.WarmedH U.vm) (h : nwP s) : nwP U := by
  refine ⟨?_, h.2.1.moved hW.alike, h.2.2.moved hW.alike⟩
  intro w hw
  have h1 := h.1 w hw
  simp only [nwL, List.mem_cons, List.not_mem_nil, or_false] at hw
  rcases hw with rfl | rfl | rfl | rfl | rfl | rfl | rfl | rfl | rfl | rfl | rfl | rfl | rfl | rfl | rfl <;> exact va_Nw.warmM hW h1
theorem nwP.same {u U : State} (hv : u.vm = U.vm) (h : nwP u) : nwP U := by
  refine ⟨?_, h.2.1.moved (hv ▸ Vm.Alike.refl u.vm), h.2.2.moved (hv ▸ Vm.Alike.refl u.vm)⟩
  intro w hw
  have h1 := h.1 w hw
  simp only [nwL, List.mem_cons, List.not_mem_nil, or_false] at hw
  rcases hw with rfl | rfl | rfl | rfl | rfl | rfl | rfl | rfl | rfl | rfl | rfl | rfl | rfl | rfl | rfl <;> exact va_Nw.same rfl hv h1
/-- a contract's start: the world W0, the arguments av -/
def cPc (D : va_G) (k : Nat → ClassId) (W0 : va_W) (av : List Value) (sz : Nat) : Array Value → State → Prop := va_Pc av (fun U => U.heap.size = sz ∧ va_P D vwCl W0 U.heap ∧ va_K D vwCl (tysOf k) U ∧ va_D (fun _ => True) W0 ∧ nwP U)
/-- the world behind it -/
def cB {S : Type} (D : va_G) (k : Nat → ClassId) (A : Nat → Prop) (Wf : S → va_W) : S → State → Prop := fun u t => va_P D vwCl (Wf u) t.heap ∧ va_K D vwCl (tysOf k) t ∧ va_D A (Wf u)
theorem cPc_blind {D : va_G} {k : Nat → ClassId} {W0 : va_W} {av : List Value} {sz : Nat} : FrameBlind (cPc D k W0 av sz) := by
  intro a U g mk q
  obtain ⟨q0, q1, qP, qK, qD, qN⟩ := q
  exact ⟨q0, q1, qP, va_K.moved (u := U) (U := U.calling g mk a) (Vm.Alike.refl U.vm) qK, qD, nwP.same (u := U) (U := U.calling g mk a) rfl qN⟩
theorem gv_preS {s : State} {H : Heap} {D : va_G} {k : Nat → ClassId} {Wc : va_W} {A : Nat → Prop} {As : List Value} (hK : va_K D vwCl (tysOf k) s) (hn : nwP s) (hP : va_P D vwCl Wc H) (hD : va_D A Wc) : PreS s H (cPc D k Wc As H.size) As :=
  ⟨cPc_blind, fun U hU hW => ⟨rfl, by rw [hU], by rw [hU]; exact hP, va_K.moved hW.alike hK, hD.weaken (fun _ _ _ _ => trivial), hn.warm hW⟩⟩
theorem gv_preV {s : State} {H : Heap} {D : va_G} {k : Nat → ClassId} {Wc : va_W} {A : Nat → Prop} {b : Nat} {As : List Value} {ci : Nat} {q : vw_C} {fs : List Value} (hK : va_K D vwCl (tysOf k) s) (hn : nwP s) (hP : va_P D vwCl Wc H) (hD : va_D A Wc) (hc : vwCl[ci]? = some q) (q0 : Nat) (he : Wc[q0]? = some (b, .inr (ci, fs))) : PreV s H q.1 b (cPc D k Wc (.ref b :: As) H.size) As :=
  ⟨cPc_blind, va_recv hK hP hc he, fun U hU hW => ⟨rfl, by rw [hU], by rw [hU]; exact hP, va_K.moved hW.alike hK, hD.weaken (fun _ _ _ _ => trivial), hn.warm hW⟩⟩
theorem fr_self {A : Nat → Prop} {ws : va_W} {H0 H : Heap} {locs : List Loc} (hD : va_D A ws) (hS : va_S A H0 H locs) (hA : ∀ q, H0.size ≤ q → A q) : ∀ q, va_A ws H.size q → A q := by
  intro q hq
  rcases hq with ⟨j, e, h⟩ | h
  · exact hD.2 j _ h
  · exact hA q (Nat.le_trans hS.1 h)
theorem fr_sub {A : Nat → Prop} {ws : va_W} {H0 H : Heap} {locs : List Loc} (hD : va_D A ws) (hS : va_S A H0 H locs) (hA : ∀ q, H0.size ≤ q → A q) : ∀ q, va_A ws H.size q → A q := fr_self hD hS hA
theorem ct_entry {l : Launch} {y : MethodName} {ws ws' : List Cond} {rm : Room} {cc : ByteArray} {maxL : Nat} {ret : Option FieldType} {Qc : (Nat → Prop) → Array Value → State → Outcome → State → Prop} {D : va_G} {k : Nat → ClassId} {W0 : va_W} {av : List Value} {sz : Nat} {Rn : String}
    (hy : plainName y.cls = true) (hw : ws = Cond.code y cc maxL ret :: ws') (hRn : y.cls = Rn) (hav : (lg_sl av).length ≤ maxL)
    (body : ∀ (p : Program) (e : Env) (s : State) (m : MethodId) (below : List Frame) (meth : Method) (c : Code), p.tables.exec = Jvm.exec → c.code = cc → meth.sig.returnType = ret → meth.locks = false → c.maxLocals = maxL → (∀ w ∈ ws, w.before av.toArray s = true) → s.vm.findClass Rn = some m.cls → nwP s → va_K D vwCl (tysOf k) s →
      ∀ A : Nat → Prop, (∀ q : Nat, s.heap.size ≤ q → A q) → ∀ (H : Heap) (locs : List Loc), va_P D vwCl W0 H → va_D A W0 → va_S A s.heap H locs → ∀ ls : Array Slot, lv_has ls maxL (lv_args 0 av) → W p l e rm s m av.toArray below meth c H locs 0 0 (MQ below (Qc A) av.toArray s 0 0 A) (F0 m 0 ls [])) :
    Met l y ws rm (cPc D k W0 av sz) (Qc (va_A W0 sz)) 0 0 (va_A W0 sz) := by
  refine Met.ofW (cc := cc) (maxL := maxL) (ret := ret) hy hw ?_
  intro p e s m args below meth c s₁ B hml hv
  obtain ⟨rfl, hsz, hP, hK, hD0, hn⟩ := hv
  subst hsz
  have hl := lv_entry av (n := maxL) hav
  rw [lg_entry_eq]
  exact body p e s m below meth c B.exec B.bytes B.returns B.notSynchronized hml (atoms_spec (ws := ws) B.pre) (by rw [← hRn]; exact findClass_of_methodNamed B.named) hn hK _ (fun q h => Or.inr h) s.heap [] hP hD0.self va_S.rf _ hl
theorem cs_entry {l : Launch} {y : MethodName} {ws ws' : List Cond} {rm : Room} {cc : ByteArray} {maxL : Nat} {ret : Option FieldType} {Qc : Array Value → State → Outcome → State → Prop} {av : List Value} {Rn : String}
    (hy : plainName y.cls = true) (hw : ws = Cond.code y cc maxL ret :: ws') (hRn : y.cls = Rn) (hav : (lg_sl av).length ≤ maxL)
    (body : ∀ (p : Program) (e : Env) (s : State) (m : MethodId) (below : List Frame) (meth : Method) (c : Code), p.tables.exec = Jvm.exec → c.code = cc → meth.sig.returnType = ret → meth.locks = false → c.maxLocals = maxL → (∀ w ∈ ws, w.before av.toArray s = true) → s.vm.findClass Rn = some m.cls →
      ∀ ls : Array Slot, lv_has ls maxL (lv_args 0 av) → W p l e rm s m av.toArray below meth c s.heap [] 0 0 (MQ below Qc av.toArray s 0 0 (fun _ => False)) (F0 m 0 ls [])) :
    Met l y ws rm (fun v _ => v = av.toArray) Qc 0 0 (fun _ => False) := by
  refine Met.ofW (cc := cc) (maxL := maxL) (ret := ret) hy hw ?_
  intro p e s m args below meth c s₁ B hml hv
  subst hv
  have hl := lv_entry av (n := maxL) hav
  rw [lg_entry_eq]
  exact body p e s m below meth c B.exec B.bytes B.returns B.notSynchronized hml (atoms_spec (ws := ws) B.pre) (by rw [← hRn]; exact findClass_of_methodNamed B.named) _ hl
section GCALL
variable {p : Program} {l : Launch} {e : Env} {R : Room} {s : State} {m : MethodId} {args : Array Value} {below : List Frame} {meth : Method} {c : Code} {H : Heap} {locs : List Loc} {cells slots : Nat} {Q : State → Prop}
variable {pc : Nat} {ls : Array Slot} {rest st0 : List Value} {a : Array Value} {A0 : Nat → Prop} {H0 : Heap} {D : va_G} {k : Nat → ClassId} {Wc : va_W}
theorem gv_i {S : Type} {post : Int32 → S → Prop} {Wf : S → va_W} (hr : va_Run p l e R s m args below meth c H locs cells slots 0 0 (F0 m pc ls st0) rest (va_Qi post (cB D k (va_A Wc H.size) Wf) (va_A Wc H.size) a) (va_A Wc H.size)) (hS : va_S A0 H0 H locs) (hF : ∀ q, va_A Wc H.size q → A0 q)
    (kk : ∀ (r : Int32) (u : S) (H1 : Heap) (locs1 : List Loc), post r u → va_P D vwCl (Wf u) H1 → va_D (va_A Wc H.size) (Wf u) → (∀ q : Nat, q < H.size → ¬ va_A Wc H.size q → H1[q]? = H[q]?) → va_S A0 H0 H1 locs1 → W p l e R s m args below meth c H1 locs1 cells slots Q (F0 m (pc + 3) ls (.int r :: rest))) : W p l e R s m args below meth c H locs cells slots Q (F0 m pc ls st0) :=
  va_calli hr hS (fun q _ h => hF q h) hF (fun r u t H1 locs ht _ hw hB _ hk1 hS => kk r u H1 locs hw (by rw [← ht]; exact hB.1) hB.2.2 hk1 hS)
theorem gv_v {S : Type} {post : S → Prop} {Wf : S → va_W} (hr : va_Run p l e R s m args below meth c H locs cells slots 0 0 (F0 m pc ls st0) rest (va_Qv post (cB D k (va_A Wc H.size) Wf) (va_A Wc H.size) a) (va_A Wc H.size)) (hS : va_S A0 H0 H locs) (hF : ∀ q, va_A Wc H.size q → A0 q)
    (kk : ∀ (u : S) (H1 : Heap) (locs1 : List Loc), post u → va_P D vwCl (Wf u) H1 → va_D (va_A Wc H.size) (Wf u) → (∀ q : Nat, q < H.size → ¬ va_A Wc H.size q → H1[q]? = H[q]?) → va_S A0 H0 H1 locs1 → W p l e R s m args below meth c H1 locs1 cells slots Q (F0 m (pc + 3) ls rest)) : W p l e R s m args below meth c H locs cells slots Q (F0 m pc ls st0) :=
  va_callv hr hS (fun q _ h => hF q h) hF (fun u t H1 locs ht _ hw hB _ hk1 hS => kk u H1 locs hw (by rw [← ht]; exact hB.1) hB.2.2 hk1 hS)
theorem gv_r {S : Type} {post : S → Prop} {Wf : S → va_W} {ad : Nat} (hr : va_Run p l e R s m args below meth c H locs cells slots 0 0 (F0 m pc ls st0) rest (va_Qr post (fun u x t => x = ad ∧ cB D k (va_A Wc H.size) Wf u t) (va_A Wc H.size) a) (va_A Wc H.size)) (hS : va_S A0 H0 H locs) (hF : ∀ q, va_A Wc H.size q → A0 q)
    (kk : ∀ (u : S) (H1 : Heap) (locs1 : List Loc), post u → va_P D vwCl (Wf u) H1 → va_D (va_A Wc H.size) (Wf u) → (∀ q : Nat, q < H.size → ¬ va_A Wc H.size q → H1[q]? = H[q]?) → va_S A0 H0 H1 locs1 → W p l e R s m args below meth c H1 locs1 cells slots Q (F0 m (pc + 3) ls (.ref ad :: rest))) : W p l e R s m args below meth c H locs cells slots Q (F0 m pc ls st0) :=
  va_callr hr hS (fun q _ h => hF q h) hF (fun u x t H1 locs ht _ hw hB _ hk1 hS => by
    obtain ⟨rfl, hB⟩ := hB
    exact kk u H1 locs hw (by rw [← ht]; exact hB.1) hB.2.2 hk1 hS)
theorem gs_i {post : Int32 → Prop} (hr : va_Run p l e R s m args below meth c H locs cells slots 0 0 (F0 m pc ls st0) rest (vp_Si post a) (fun _ => False))
    (kk : ∀ r : Int32, post r → W p l e R s m args below meth c H locs cells slots Q (F0 m (pc + 3) ls (.int r :: rest))) : W p l e R s m args below meth c H locs cells slots Q (F0 m pc ls st0) := vp_callSi (va_Run.run hr) kk
end GCALL
theorem vp0 {n : Nat} (h : 0 < n) : vp_in 0 n := by
  unfold vp_in
  rintro (q | q)
  · exact absurd q (by decide)
  · have e : (0 : Int32).toNatClampNeg = 0 := rfl
    rw [e] at q
    omega
theorem vaP_mem {D : va_G} {ws : va_W} {H : Heap} : va_P D vwCl ws H ↔ ∀ q ∈ ws, va_at D vwCl q H := by
  constructor
  · intro h q hq
    obtain ⟨i, hi⟩ := List.mem_iff_getElem?.mp hq
    exact h i q hi
  · intro h i q hi
    exact h q (List.mem_of_getElem? hi)
theorem vaD_mem {A : Nat → Prop} {ws : va_W} : va_D A ws ↔ (ws.map Prod.fst).Nodup ∧ ∀ q ∈ ws, A q.1 := by
  constructor
  · intro h
    refine ⟨?_, fun q hq => ?_⟩
    · refine List.pairwise_iff_getElem.mpr (fun i j hi hj hij => ?_)
      rw [List.length_map] at hi hj
      rw [List.getElem_map, List.getElem_map]
      intro e
      have := h.1 i j ws[i] ws[j] (List.getElem?_eq_getElem hi) (List.getElem?_eq_getElem hj) e
      omega
    · obtain ⟨i, hi⟩ := List.mem_iff_getElem?.mp hq
      exact h.2 i q hi
  · intro h
    refine ⟨fun i j p q hi hj e => ?_, fun i q hi => h.2 q (List.mem_of_getElem? hi)⟩
    obtain ⟨hi1, hi2⟩ := List.getElem?_eq_some_iff.mp hi
    obtain ⟨hj1, hj2⟩ := List.getElem?_eq_some_iff.mp hj
    have hn := List.pairwise_iff_getElem.mp h.1
    rcases Nat.lt_trichotomy i j with c | c | c
    · have := hn i j (by rw [List.length_map]; exact hi1) (by rw [List.length_map]; exact hj1) c
      rw [List.getElem_map, List.getElem_map, hi2, hj2] at this
      exact absurd e this
    · exact c
    · have := hn j i (by rw [List.length_map]; exact hj1) (by rw [List.length_map]; exact hi1) c
      rw [List.getElem_map, List.getElem_map, hi2, hj2] at this
      exact absurd e.symm this
theorem pm_iff {w1 w2 : va_W} (h : ∀ (_ : DecidableEq (Nat × va_E)) (x : Nat × va_E), w1.count x = w2.count x) : w1.Perm w2 := by
  have I : DecidableEq (Nat × va_E) := fun a b => Classical.propDecidable (a = b)
  exact List.perm_iff_count.mpr (h I)
theorem pf_P {D : va_G} {ws wc wr : va_W} {H : Heap} (hp : ws.Perm (wc ++ wr)) (hP : va_P D vwCl ws H) : va_P D vwCl wc H :=
  vaP_mem.mpr (fun q hq => vaP_mem.mp hP q (hp.mem_iff.mpr (List.mem_append_left _ hq)))
theorem pf_D {A : Nat → Prop} {ws wc wr : va_W} (hp : ws.Perm (wc ++ wr)) (hD : va_D A ws) : va_D A wc := by
  obtain ⟨h1, h2⟩ := vaD_mem.mp hD
  have h3 : ((wc ++ wr).map Prod.fst).Nodup := (hp.map Prod.fst).nodup_iff.mp h1
  rw [List.map_append] at h3
  exact vaD_mem.mpr ⟨(List.nodup_append.mp h3).1, fun q hq => h2 q (hp.mem_iff.mpr (List.mem_append_left _ hq))⟩
theorem pf_J {D : va_G} {A0 : Nat → Prop} {ws wc wr w1 ws1 : va_W} {H H1 : Heap} (hp : ws.Perm (wc ++ wr)) (hp1 : ws1.Perm (w1 ++ wr)) (hP : va_P D vwCl ws H) (hD : va_D A0 ws)
    (hk : ∀ q : Nat, q < H.size → ¬ va_A wc H.size q → H1[q]? = H[q]?) (hF : ∀ q, va_A wc H.size q → A0 q) (hP1 : va_P D vwCl w1 H1) (hD1 : va_D (va_A wc H.size) w1) : va_P D vwCl ws1 H1 ∧ va_D A0 ws1 := by
  obtain ⟨h1, h2⟩ := vaD_mem.mp hD
  have h3 : ((wc ++ wr).map Prod.fst).Nodup := (hp.map Prod.fst).nodup_iff.mp h1
  rw [List.map_append] at h3
  obtain ⟨h4, h5, h6⟩ := List.nodup_append.mp h3
  have hw : ∀ q ∈ wr, q ∈ ws := fun q hq => hp.mem_iff.mpr (List.mem_append_right _ hq)
  have apart : ∀ q ∈ wr, q.1 < H.size ∧ ¬ va_A wc H.size q.1 := by
    intro q hq
    have hl := (vaP_mem.mp hP q (hw q hq)).lt
    refine ⟨hl, ?_⟩
    rintro (⟨i, e, hi⟩ | z)
    · exact h6 q.1 (List.mem_map.mpr ⟨(q.1, e), List.mem_of_getElem? hi, rfl⟩) q.1 (List.mem_map.mpr ⟨q, hq, rfl⟩) rfl
    · omega
  obtain ⟨g1, g2⟩ := vaD_mem.mp hD1
  constructor
  · refine vaP_mem.mpr (fun q hq => ?_)
    rcases List.mem_append.mp (hp1.mem_iff.mp hq) with z | z
    · exact vaP_mem.mp hP1 q z
    · exact (vaP_mem.mp hP q (hw q z)).kept (hk q.1 (apart q z).1 (apart q z).2)
  · refine vaD_mem.mpr ⟨(hp1.map Prod.fst).nodup_iff.mpr ?_, fun q hq => ?_⟩
    · rw [List.map_append]
      refine List.nodup_append.mpr ⟨g1, h5, fun x hx y hy e => ?_⟩
      obtain ⟨p, hp2, rfl⟩ := List.mem_map.mp hx
      obtain ⟨q, hq2, rfl⟩ := List.mem_map.mp hy
      exact (apart q hq2).2 (by rw [← e]; exact g2 p hp2)
    · rcases List.mem_append.mp (hp1.mem_iff.mp hq) with z | z
      · exact hF _ (g2 q z)
      · exact h2 q (hw q z)
def famW (f : Nat → va_W) : Nat → va_W
  | 0 => []
  | n + 1 => famW f n ++ f n
def off (f : Nat → va_W) (j : Nat) : Nat → va_W := fun i => if i = j then [] else f i
theorem famW_congr {f g : Nat → va_W} : ∀ {n : Nat}, (∀ i, i < n → f i = g i) → famW f n = famW g n
  | 0, _ => rfl
  | n + 1, h => by rw [famW, famW, famW_congr (fun i hi => h i (by omega)), h n (by omega)]
theorem famW_pull {f : Nat → va_W} {j : Nat} : ∀ {n : Nat}, j < n → (famW f n).Perm (f j ++ famW (off f j) n)
  | 0, h => absurd h (Nat.not_lt_zero j)
  | n + 1, h => by
    refine pm_iff (fun _ x => ?_)
    rcases Nat.lt_or_ge j n with q | q
    · have e := (famW_pull (f := f) q).count_eq x
      have e2 : off f j n = f n := if_neg (by omega)
      simp only [famW, List.count_append, e2] at e ⊢
      omega
    · have e3 : j = n := by omega
      subst e3
      have e2 : off f j j = [] := if_pos rfl
      have e4 : famW (off f j) j = famW f j := famW_congr (fun i hi => if_neg (by omega))
      simp only [famW, List.count_append, e2, e4, List.count_nil]
      omega
theorem fam1 (g : Nat → St → va_W) (M : Nat → St) {n j : Nat} (hj : j < n) : (famW (fun i => g i (M i)) n).Perm (g j (M j) ++ famW (off (fun i => g i (M i)) j) n) := famW_pull hj
theorem fam1u (g : Nat → St → va_W) (M : Nat → St) (T : St) {n j : Nat} (hj : j < n) : (famW (fun i => g i (va_up M j T i)) n).Perm (g j T ++ famW (off (fun i => g i (M i)) j) n) := by
  have h := famW_pull (f := fun i => g i (va_up M j T i)) hj
  have e1 : va_up M j T j = T := if_pos rfl
  have e2 : off (fun i => g i (va_up M j T i)) j = off (fun i => g i (M i)) j := by
    funext i
    by_cases c : i = j
    · simp [off, c]
    · simp [off, c, va_up]
  rw [e2] at h
  simp only [e1] at h
  exact h
theorem fam2 (g : Nat → St → va_W) (M : Nat → St) {n j1 j2 : Nat} (h1 : j1 < n) (h2 : j2 < n) (hne : j1 ≠ j2) : (famW (fun i => g i (M i)) n).Perm ((g j1 (M j1) ++ g j2 (M j2)) ++ famW (off (off (fun i => g i (M i)) j2) j1) n) := by
  refine pm_iff (fun _ x => ?_)
  have e1 := (famW_pull (f := fun i => g i (M i)) h2).count_eq x
  have e2 := (famW_pull (f := off (fun i => g i (M i)) j2) h1).count_eq x
  have e3 : off (fun i => g i (M i)) j2 j1 = g j1 (M j1) := if_neg hne
  rw [e3] at e2
  simp only [List.count_append] at e1 e2 ⊢
  omega
theorem fam2u (g : Nat → St → va_W) (M : Nat → St) (T1 T2 : St) {n j1 j2 : Nat} (h1 : j1 < n) (h2 : j2 < n) (hne : j1 ≠ j2) : (famW (fun i => g i (va_up (va_up M j1 T1) j2 T2 i)) n).Perm ((g j1 T1 ++ g j2 T2) ++ famW (off (off (fun i => g i (M i)) j2) j1) n) := by
  have h := fam2 g (va_up (va_up M j1 T1) j2 T2) h1 h2 hne
  have e1 : va_up (va_up M j1 T1) j2 T2 j1 = T1 := by simp [va_up, hne]
  have e2 : va_up (va_up M j1 T1) j2 T2 j2 = T2 := by simp [va_up]
  have e3 : off (off (fun i => g i (va_up (va_up M j1 T1) j2 T2 i)) j2) j1 = off (off (fun i => g i (M i)) j2) j1 := by
    funext i
    by_cases c1 : i = j1
    · simp [off, c1]
    · by_cases c2 : i = j2
      · simp [off, c2]
      · simp [off, c1, c2, va_up]
  rw [e1, e2, e3] at h
  exact h
section TSW
variable {p : Program} {l : Launch} {e : Env} {R : Room} {s : State} {m : MethodId} {args : Array Value} {below : List Frame} {meth : Method} {c : Code} {H : Heap} {locs : List Loc} {cells slots : Nat} {Q : State → Prop}
variable {cc : ByteArray} {pc : Nat} {ls : Array Slot} {rest : List Value}
theorem lv_tableD (hexec : p.tables.exec = Jvm.exec) (hb : c.code = cc) {dflt lo hi : Int} {offs : Array Int} {len : Nat} {x : Int32} {tgt : Nat} (hdg : decode cc pc = .ok (.tableswitch dflt lo hi offs, len)) (h : x.toInt < lo ∨ hi < x.toInt ∨ offs[(x.toInt - lo).toNat]? = some dflt) (ht : (pc : Int) + dflt = (tgt : Int))
    (k : W p l e R s m args below meth c H locs cells slots Q (F0 m tgt ls rest)) : W p l e R s m args below meth c H locs cells slots Q (F0 m pc ls (.int x :: rest)) := by
  by_cases h1 : x.toInt < lo
  · exact lv_tableOut hexec hb hdg (Or.inl h1) ht k
  · by_cases h2 : hi < x.toInt
    · exact lv_tableOut hexec hb hdg (Or.inr h2) ht k
    · rcases h with h | h | h
      · exact absurd h h1
      · exact absurd h h2
      · exact lv_tableIn hexec hb hdg h1 h2 h ht k
end TSW
abbrev CS : Type := St × St × St × (St × St) × (Nat → St) × (St × (Nat → St)) × (St × (Nat → St))
def xo (X : CS) (v : St) : CS := (v, X.2.1, X.2.2.1, X.2.2.2.1, X.2.2.2.2.1, X.2.2.2.2.2.1, X.2.2.2.2.2.2)
def xf (X : CS) (v : St) : CS := (X.1, v, X.2.2.1, X.2.2.2.1, X.2.2.2.2.1, X.2.2.2.2.2.1, X.2.2.2.2.2.2)
def xt (X : CS) (v : St) : CS := (X.1, X.2.1, v, X.2.2.2.1, X.2.2.2.2.1, X.2.2.2.2.2.1, X.2.2.2.2.2.2)
def xl (X : CS) (v : St × St) : CS := (X.1, X.2.1, X.2.2.1, v, X.2.2.2.2.1, X.2.2.2.2.2.1, X.2.2.2.2.2.2)
def xh (X : CS) (v : Nat → St) : CS := (X.1, X.2.1, X.2.2.1, X.2.2.2.1, v, X.2.2.2.2.2.1, X.2.2.2.2.2.2)
def xw (X : CS) (v : St × (Nat → St)) : CS := (X.1, X.2.1, X.2.2.1, X.2.2.2.1, X.2.2.2.2.1, v, X.2.2.2.2.2.2)
def xe (X : CS) (v : St × (Nat → St)) : CS := (X.1, X.2.1, X.2.2.1, X.2.2.2.1, X.2.2.2.2.1, X.2.2.2.2.2.1, v)
def wFl (k : Nat → ClassId) (a : Nat → Nat) (o : St) : va_W := [(a 0, .inr (2, [.int (o.1 0), .int (o.1 1), .ref (a 1), .ref (a 2), .ref (a 3), .ref (a 4)])), (a 1, .inl (k 0, 8, .inl (o.2 2))), (a 2, .inl (k 0, 8, .inl (o.2 3))), (a 3, .inl (k 0, 8, .inl (o.2 4))), (a 4, .inl (k 0, 8, .inl (o.2 5)))]
def wEn (k : Nat → ClassId) (a : Nat → Nat) (o : St) : va_W := [(a 0, .inr (0, [.int (o.1 0), .int (o.1 1), .int (o.1 2), .int (o.1 3), .ref (a 1), .ref (a 2), .ref (a 3)])), (a 1, .inl (k 0, 8, .inl (o.2 4))), (a 2, .inl (k 0, 8, .inl (o.2 5))), (a 3, .inl (k 0, 8, .inl (o.2 6)))]
def hLe (k : Nat → ClassId) (a : Nat → Nat) (o : St) : va_W := [(a 0, .inr (4, [.int (o.1 0), .ref (a 1), .ref (a 2)])), (a 1, .inl (k 0, 64, .inl (o.2 1)))]
def wLe (k : Nat → ClassId) (a : Nat → Nat) (S : St × St) : va_W := hLe k a S.1 ++ (wFl k (sh a 2) S.2)
def hHo (k : Nat → ClassId) (a : Nat → Nat) : va_W := [(a 0, .inr (3, [.ref (a 1)])), (a 1, .inl (k 2, 4, .inr (.inr (.inr (.inr (fun j => some (a (2 + 4 * j))))))))]
def wHo (k : Nat → ClassId) (a : Nat → Nat) (S : Nat → St) : va_W := hHo k a ++ famW (fun i => wEn k (sh a (2 + 4 * i)) (S i)) 4
def hWi (k : Nat → ClassId) (a : Nat → Nat) (o : St) : va_W := [(a 0, .inr (5, [.ref (a 1), .int (o.1 1), .int (o.1 2)])), (a 1, .inl (k 1, 3, .inr (.inr (.inr (.inr (fun j => some (a (2 + 5 * j))))))))]
def wWi (k : Nat → ClassId) (a : Nat → Nat) (S : St × (Nat → St)) : va_W := hWi k a S.1 ++ famW (fun i => wFl k (sh a (2 + 5 * i)) (S.2 i)) 3
def hEv (k : Nat → ClassId) (a : Nat → Nat) (o : St) : va_W := [(a 0, .inr (1, [.int (o.1 0), .ref (a 1), .ref (a 2)])), (a 1, .inl (k 0, 6, .inl (o.2 1))), (a 2, .inl (k 1, 7, .inr (.inr (.inr (.inr (fun j => some (a (3 + 5 * j))))))))]
def wEv (k : Nat → ClassId) (a : Nat → Nat) (S : St × (Nat → St)) : va_W := hEv k a S.1 ++ famW (fun i => wFl k (sh a (3 + 5 * i)) (S.2 i)) 7
def hMa (k : Nat → ClassId) (a : Nat → Nat) (o : St) : va_W := [(a 0, .inr (6, [.ref (a 2), .ref (a 7), .ref (a 12), .ref (a 19), .ref (a 37), .ref (a 54), .ref (a 1), .int (o.1 7)])), (a 1, .inl (k 0, 7, .inl (o.2 6)))]
def wMa (k : Nat → ClassId) (a : Nat → Nat) (S : CS) : va_W := hMa k a S.1 ++ (wFl k (sh a 2) S.2.1 ++ (wFl k (sh a 7) S.2.2.1 ++ (wLe k (sh a 12) S.2.2.2.1 ++ (wHo k (sh a 19) S.2.2.2.2.1 ++ (wWi k (sh a 37) S.2.2.2.2.2.1 ++ (wEv k (sh a 54) S.2.2.2.2.2.2))))))
def wMo (k : Nat → ClassId) (a : Nat → Nat) (o : St) : va_W := [(a 0, .inr (7, [.ref (a 1), .ref (a 2), .ref (a 3), .ref (a 4), .ref (a 5), .int (o.1 5), .int (o.1 6), .ref (a 6), .ref (a 7), .ref (a 8), .ref (a 9), .ref (a 10), .int (o.1 12), .int (o.1 13), .int (o.1 14), .ref (a 11), .int (o.1 16), .int (o.1 17), .int (o.1 18), .ref (a 12), .ref (a 13), .ref (a 14), .int (o.1 22), .ref (a 15), .ref (a 16), .int (o.1 25), .int (o.1 26), .ref (a 17), .ref (a 18), .int (o.1 29), .ref (a 19), .ref (a 20), .int (o.1 32)])), (a 1, .inl (k 0, 7, .inl (o.2 0))), (a 2, .inl (k 0, 8, .inl (o.2 1))), (a 3, .inl (k 0, 8, .inl (o.2 2))), (a 4, .inl (k 0, 8, .inl (o.2 3))), (a 5, .inl (k 0, 8, .inl (o.2 4))), (a 6, .inl (k 0, 64, .inl (o.2 7))), (a 7, .inl (k 0, 32, .inl (o.2 8))), (a 8, .inl (k 0, 32, .inl (o.2 9))), (a 9, .inl (k 0, 32, .inl (o.2 10))), (a 10, .inl (k 0, 32, .inl (o.2 11))), (a 11, .inl (k 0, 400, .inl (o.2 15))), (a 12, .inl (k 0, 8, .inl (o.2 19))), (a 13, .inl (k 0, 8, .inl (o.2 20))), (a 14, .inl (k 0, 64, .inl (o.2 21))), (a 15, .inl (k 0, 28, .inl (o.2 23))), (a 16, .inl (k 0, 28, .inl (o.2 24))), (a 17, .inl (k 0, 6, .inl (o.2 27))), (a 18, .inl (k 0, 6, .inl (o.2 28))), (a 19, .inl (k 0, 6, .inl (o.2 30))), (a 20, .inl (k 0, 8, .inl (o.2 31)))]
theorem fm_Ev_0 {k : Nat → ClassId} {a : Nat → Nat} {S : St × (Nat → St)} {j : Nat} (hj : j < 7) : (wEv k a S)[3 + 5 * j + 0]? = some (a (3 + 5 * j + 0), .inr (2, [.int ((S.2 j).1 0), .int ((S.2 j).1 1), .ref (a (3 + 5 * j + 1)), .ref (a (3 + 5 * j + 2)), .ref (a (3 + 5 * j + 3)), .ref (a (3 + 5 * j + 4))])) := by
  rcases (show j = 0 ∨ j = 1 ∨ j = 2 ∨ j = 3 ∨ j = 4 ∨ j = 5 ∨ j = 6 by omega) with rfl | rfl | rfl | rfl | rfl | rfl | rfl <;> rfl
theorem fm_Ev_1 {k : Nat → ClassId} {a : Nat → Nat} {S : St × (Nat → St)} {j : Nat} (hj : j < 7) : (wEv k a S)[3 + 5 * j + 1]? = some (a (3 + 5 * j + 1), .inl (k 0, 8, .inl ((S.2 j).2 2))) := by
  rcases (show j = 0 ∨ j = 1 ∨ j = 2 ∨ j = 3 ∨ j = 4 ∨ j = 5 ∨ j = 6 by omega) with rfl | rfl | rfl | rfl | rfl | rfl | rfl <;> rfl
theorem fm_Ev_2 {k : Nat → ClassId} {a : Nat → Nat} {S : St × (Nat → St)} {j : Nat} (hj : j < 7) : (wEv k a S)[3 + 5 * j + 2]? = some (a (3 + 5 * j + 2), .inl (k 0, 8, .inl ((S.2 j).2 3))) := by
  rcases (show j = 0 ∨ j = 1 ∨ j = 2 ∨ j = 3 ∨ j = 4 ∨ j = 5 ∨ j = 6 by omega) with rfl | rfl | rfl | rfl | rfl | rfl | rfl <;> rfl
theorem fm_Ev_3 {k : Nat → ClassId} {a : Nat → Nat} {S : St × (Nat → St)} {j : Nat} (hj : j < 7) : (wEv k a S)[3 + 5 * j + 3]? = some (a (3 + 5 * j + 3), .inl (k 0, 8, .inl ((S.2 j).2 4))) := by
  rcases (show j = 0 ∨ j = 1 ∨ j = 2 ∨ j = 3 ∨ j = 4 ∨ j = 5 ∨ j = 6 by omega) with rfl | rfl | rfl | rfl | rfl | rfl | rfl <;> rfl
theorem fm_Ev_4 {k : Nat → ClassId} {a : Nat → Nat} {S : St × (Nat → St)} {j : Nat} (hj : j < 7) : (wEv k a S)[3 + 5 * j + 4]? = some (a (3 + 5 * j + 4), .inl (k 0, 8, .inl ((S.2 j).2 5))) := by
  rcases (show j = 0 ∨ j = 1 ∨ j = 2 ∨ j = 3 ∨ j = 4 ∨ j = 5 ∨ j = 6 by omega) with rfl | rfl | rfl | rfl | rfl | rfl | rfl <;> rfl
