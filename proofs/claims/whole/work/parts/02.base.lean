def nwL : List Cond := [.methodLinkNest RX0 47 yX6_hasBit RX6, .methodLinkNest RX0 50 yX6_lesserOf RX6, .methodLinkNest RX0 54 yX6_greaterOf RX6, .methodLinkNest RX1 45 yX6_hasBit RX6, .methodLinkNest RX2 35 yX6_lesserOf RX6, .methodLinkNest RX2 39 yX6_greaterOf RX6, .methodLinkNest RX2 46 yX6_hasBit RX6, .methodLinkNest RX2 55 yX6_isLaw RX6, .methodLinkNest RX2 85 yX6_leastOf RX6, .methodLinkNest RX3 48 yX6_pairOf RX6, .methodLinkNest RX3 76 yX6_lesserOf RX6, .methodLinkNest RX3 80 yX6_greaterOf RX6, .methodLinkNest RX5 47 yX6_lesserOf RX6, .methodLinkNest RX5 51 yX6_greaterOf RX6, .methodLinkNest RX5 58 yX6_hasBit RX6]
/-! base: states, pictures, contracts, calls -/
abbrev St : Type := (Nat → Int32) × (Nat → Nat → Int32)
def sI (S : St) (k : Nat) (v : Int32) : St := (upd S.1 k v, S.2)
def sA (S : St) (k i : Nat) (v : Int32) : St := (S.1, va_up S.2 k (upd (S.2 k) i v))
def sh (a : Nat → Nat) (n : Nat) : Nat → Nat := fun i => a (n + i)
def tysOf (k : Nat → ClassId) : List (ClassId × FieldType) := [(k 0, .int), (k 1, .object "WithTheSameOne$Floor"), (k 2, .object "WithTheSameOne$Ending")]
def bz (v : Int32) : Prop := v = 0 ∨ v = 1
theorem bz_narrow {v : Int32} (h : bz v) : narrow .boolean (.int v) = .int v := by
  rcases h with rfl | rfl <;> rfl
theorem bz_fits {v : Int32} (h : bz v) : fits .boolean (.int v) = true := by
  rcases h with rfl | rfl <;> rfl
theorem vp_lt {i : Int32} {n : Nat} (h : vp_in i n) : i.toNatClampNeg < n := Nat.not_le.mp fun q => h (Or.inr q)
def nwP (U : State) : Prop := ∀ w ∈ nwL, va_Nw w U
theorem nwP.warm {s U : State} (hW : s.WarmedH U.vm) (h : nwP s) : nwP U := by
  intro w hw
  have h1 := h w hw
  simp only [nwL, List.mem_cons, List.not_mem_nil, or_false] at hw
  rcases hw with rfl | rfl | rfl | rfl | rfl | rfl | rfl | rfl | rfl | rfl | rfl | rfl | rfl | rfl | rfl <;> exact va_Nw.warmM hW h1
theorem nwP.same {u U : State} (hv : u.vm = U.vm) (h : nwP u) : nwP U := by
  intro w hw
  have h1 := h w hw
  simp only [nwL, List.mem_cons, List.not_mem_nil, or_false] at hw
  rcases hw with rfl | rfl | rfl | rfl | rfl | rfl | rfl | rfl | rfl | rfl | rfl | rfl | rfl | rfl | rfl <;> exact va_Nw.same rfl hv h1
/-- a contract's start: the world W0, the arguments av -/
def cPc (D : va_G) (k : Nat → ClassId) (W0 : va_W) (av : List Value) (sz : Nat) : Array Value → State → Prop := va_Pc av (fun U => U.heap.size = sz ∧ va_P D vwCl W0 U.heap ∧ va_K D vwCl (tysOf k) U ∧ va_D (fun _ => True) W0 ∧ nwP U)
/-- the world behind it -/
def cB {S : Type} (D : va_G) (k : Nat → ClassId) (A : Nat → Prop) (Wf : S → va_W) : S → State → Prop := fun u t => va_P D vwCl (Wf u) t.heap ∧ va_K D vwCl (tysOf k) t ∧ va_D A (Wf u)
theorem cPc_blind {D : va_G} {k : Nat → ClassId} {W0 : va_W} {av : List Value} {sz : Nat} : FrameBlind (cPc D k W0 av sz) := by
  intro a U g mk q
  obtain ⟨q0, q1, qP, qK, qD, qN⟩ := q
  exact ⟨q0, q1, qP, va_K.moved (u := U) (U := U.calling g mk a) (Vm.Alike.refl U.vm) qK, qD, nwP.same (u := U) (U := U.calling g mk a) rfl qN⟩
theorem gv_preS {s : State} {H : Heap} {D : va_G} {k : Nat → ClassId} {Wc : va_W} {A : Nat → Prop} {As : List Value} (hK : va_K D vwCl (tysOf k) s) (hn : nwP s) (hP : va_P D vwCl Wc H) (hD : va_D A Wc) : PreS s H (cPc D k Wc As H.size) As :=
  ⟨cPc_blind, fun U hU hW => ⟨rfl, by rw [hU], by rw [hU]; exact hP, va_K.moved hW.alike hK, hD.weaken (fun _ _ _ _ => trivial), hn.warm hW⟩⟩
theorem gv_preV {s : State} {H : Heap} {D : va_G} {k : Nat → ClassId} {Wc : va_W} {A : Nat → Prop} {b : Nat} {As : List Value} {ci : Nat} {q : vw_C} {fs : List Value} (hK : va_K D vwCl (tysOf k) s) (hn : nwP s) (hP : va_P D vwCl Wc H) (hD : va_D A Wc) (hc : vwCl[ci]? = some q) (q0 : Nat) (he : Wc[q0]? = some (b, .inr (ci, fs))) : PreV s H q.1 b (cPc D k Wc (.ref b :: As) H.size) As :=
  ⟨cPc_blind, va_recv hK hP hc he, fun U hU hW => ⟨rfl, by rw [hU], by rw [hU]; exact hP, va_K.moved hW.alike hK, hD.weaken (fun _ _ _ _ => trivial), hn.warm hW⟩⟩
theorem fr_self {A : Nat → Prop} {ws : va_W} {H0 H : Heap} {locs : List Loc} (hD : va_D A ws) (hS : va_S A H0 H locs) (hA : ∀ q, H0.size ≤ q → A q) : ∀ q, va_A ws H.size q → A q := by
  intro q hq
  rcases hq with ⟨j, e, h⟩ | h
  · exact hD.2 j _ h
  · exact hA q (Nat.le_trans hS.1 h)
theorem fr_sub {A : Nat → Prop} {ws : va_W} {H0 H : Heap} {locs : List Loc} (hD : va_D A ws) (hS : va_S A H0 H locs) (hA : ∀ q, H0.size ≤ q → A q) : ∀ q, va_A ws H.size q → A q := fr_self hD hS hA
theorem ct_entry {l : Launch} {y : MethodName} {ws ws' : List Cond} {rm : Room} {cc : ByteArray} {maxL : Nat} {ret : Option FieldType} {Qc : (Nat → Prop) → Array Value → State → Outcome → State → Prop} {D : va_G} {k : Nat → ClassId} {W0 : va_W} {av : List Value} {sz : Nat} {Rn : String}
    (hy : plainName y.cls = true) (hw : ws = Cond.code y cc maxL ret :: ws') (hRn : y.cls = Rn) (hav : (lg_sl av).length ≤ maxL)
    (body : ∀ (p : Program) (e : Env) (s : State) (m : MethodId) (below : List Frame) (meth : Method) (c : Code), p.tables.exec = Jvm.exec → c.code = cc → meth.sig.returnType = ret → meth.locks = false → c.maxLocals = maxL → (∀ w ∈ ws, w.before av.toArray s = true) → s.vm.findClass Rn = some m.cls → nwP s → va_K D vwCl (tysOf k) s →
      ∀ A : Nat → Prop, (∀ q : Nat, s.heap.size ≤ q → A q) → ∀ (H : Heap) (locs : List Loc), va_P D vwCl W0 H → va_D A W0 → va_S A s.heap H locs → ∀ ls : Array Slot, lv_has ls maxL (lv_args 0 av) → W p l e rm s m av.toArray below meth c H locs 0 0 (MQ below (Qc A) av.toArray s 0 0 A) (F0 m 0 ls [])) :
    Met l y ws rm (cPc D k W0 av sz) (Qc (va_A W0 sz)) 0 0 (va_A W0 sz) := by
  refine Met.ofW (cc := cc) (maxL := maxL) (ret := ret) hy hw ?_
  intro p e s m args below meth c s₁ B hml hv
  obtain ⟨rfl, hsz, hP, hK, hD0, hn⟩ := hv
  subst hsz
  have hl := lv_entry av (n := maxL) hav
  rw [lg_entry_eq]
  exact body p e s m below meth c B.exec B.bytes B.returns B.notSynchronized hml (atoms_spec (ws := ws) B.pre) (by rw [← hRn]; exact findClass_of_methodNamed B.named) hn hK _ (fun q h => Or.inr h) s.heap [] hP hD0.self va_S.rf _ hl
theorem cs_entry {l : Launch} {y : MethodName} {ws ws' : List Cond} {rm : Room} {cc : ByteArray} {maxL : Nat} {ret : Option FieldType} {Qc : Array Value → State → Outcome → State → Prop} {av : List Value} {Rn : String}
    (hy : plainName y.cls = true) (hw : ws = Cond.code y cc maxL ret :: ws') (hRn : y.cls = Rn) (hav : (lg_sl av).length ≤ maxL)
    (body : ∀ (p : Program) (e : Env) (s : State) (m : MethodId) (below : List Frame) (meth : Method) (c : Code), p.tables.exec = Jvm.exec → c.code = cc → meth.sig.returnType = ret → meth.locks = false → c.maxLocals = maxL → (∀ w ∈ ws, w.before av.toArray s = true) → s.vm.findClass Rn = some m.cls →
      ∀ ls : Array Slot, lv_has ls maxL (lv_args 0 av) → W p l e rm s m av.toArray below meth c s.heap [] 0 0 (MQ below Qc av.toArray s 0 0 (fun _ => False)) (F0 m 0 ls [])) :
    Met l y ws rm (fun v _ => v = av.toArray) Qc 0 0 (fun _ => False) := by
  refine Met.ofW (cc := cc) (maxL := maxL) (ret := ret) hy hw ?_
  intro p e s m args below meth c s₁ B hml hv
  subst hv
  have hl := lv_entry av (n := maxL) hav
  rw [lg_entry_eq]
  exact body p e s m below meth c B.exec B.bytes B.returns B.notSynchronized hml (atoms_spec (ws := ws) B.pre) (by rw [← hRn]; exact findClass_of_methodNamed B.named) _ hl
section GCALL
variable {p : Program} {l : Launch} {e : Env} {R : Room} {s : State} {m : MethodId} {args : Array Value} {below : List Frame} {meth : Method} {c : Code} {H : Heap} {locs : List Loc} {cells slots : Nat} {Q : State → Prop}
variable {pc : Nat} {ls : Array Slot} {rest st0 : List Value} {a : Array Value} {A0 : Nat → Prop} {H0 : Heap} {D : va_G} {k : Nat → ClassId} {Wc : va_W}
theorem gv_i {S : Type} {post : Int32 → S → Prop} {Wf : S → va_W} (hr : va_Run p l e R s m args below meth c H locs cells slots 0 0 (F0 m pc ls st0) rest (va_Qi post (cB D k (va_A Wc H.size) Wf) (va_A Wc H.size) a) (va_A Wc H.size)) (hS : va_S A0 H0 H locs) (hF : ∀ q, va_A Wc H.size q → A0 q)
    (kk : ∀ (r : Int32) (u : S) (H1 : Heap) (locs1 : List Loc), post r u → va_P D vwCl (Wf u) H1 → va_D (va_A Wc H.size) (Wf u) → (∀ q : Nat, q < H.size → ¬ va_A Wc H.size q → H1[q]? = H[q]?) → va_S A0 H0 H1 locs1 → W p l e R s m args below meth c H1 locs1 cells slots Q (F0 m (pc + 3) ls (.int r :: rest))) : W p l e R s m args below meth c H locs cells slots Q (F0 m pc ls st0) :=
  va_calli hr hS (fun q _ h => hF q h) hF (fun r u t H1 locs ht _ hw hB _ hk1 hS => kk r u H1 locs hw (by rw [← ht]; exact hB.1) hB.2.2 hk1 hS)
theorem gv_v {S : Type} {post : S → Prop} {Wf : S → va_W} (hr : va_Run p l e R s m args below meth c H locs cells slots 0 0 (F0 m pc ls st0) rest (va_Qv post (cB D k (va_A Wc H.size) Wf) (va_A Wc H.size) a) (va_A Wc H.size)) (hS : va_S A0 H0 H locs) (hF : ∀ q, va_A Wc H.size q → A0 q)
    (kk : ∀ (u : S) (H1 : Heap) (locs1 : List Loc), post u → va_P D vwCl (Wf u) H1 → va_D (va_A Wc H.size) (Wf u) → (∀ q : Nat, q < H.size → ¬ va_A Wc H.size q → H1[q]? = H[q]?) → va_S A0 H0 H1 locs1 → W p l e R s m args below meth c H1 locs1 cells slots Q (F0 m (pc + 3) ls rest)) : W p l e R s m args below meth c H locs cells slots Q (F0 m pc ls st0) :=
  va_callv hr hS (fun q _ h => hF q h) hF (fun u t H1 locs ht _ hw hB _ hk1 hS => kk u H1 locs hw (by rw [← ht]; exact hB.1) hB.2.2 hk1 hS)
theorem gv_r {S : Type} {post : S → Prop} {Wf : S → va_W} {ad : Nat} (hr : va_Run p l e R s m args below meth c H locs cells slots 0 0 (F0 m pc ls st0) rest (va_Qr post (fun u x t => x = ad ∧ cB D k (va_A Wc H.size) Wf u t) (va_A Wc H.size) a) (va_A Wc H.size)) (hS : va_S A0 H0 H locs) (hF : ∀ q, va_A Wc H.size q → A0 q)
    (kk : ∀ (u : S) (H1 : Heap) (locs1 : List Loc), post u → va_P D vwCl (Wf u) H1 → va_D (va_A Wc H.size) (Wf u) → (∀ q : Nat, q < H.size → ¬ va_A Wc H.size q → H1[q]? = H[q]?) → va_S A0 H0 H1 locs1 → W p l e R s m args below meth c H1 locs1 cells slots Q (F0 m (pc + 3) ls (.ref ad :: rest))) : W p l e R s m args below meth c H locs cells slots Q (F0 m pc ls st0) :=
  va_callr hr hS (fun q _ h => hF q h) hF (fun u x t H1 locs ht _ hw hB _ hk1 hS => by
    obtain ⟨rfl, hB⟩ := hB
    exact kk u H1 locs hw (by rw [← ht]; exact hB.1) hB.2.2 hk1 hS)
theorem gs_i {post : Int32 → Prop} (hr : va_Run p l e R s m args below meth c H locs cells slots 0 0 (F0 m pc ls st0) rest (vp_Si post a) (fun _ => False))
    (kk : ∀ r : Int32, post r → W p l e R s m args below meth c H locs cells slots Q (F0 m (pc + 3) ls (.int r :: rest))) : W p l e R s m args below meth c H locs cells slots Q (F0 m pc ls st0) := vp_callSi (va_Run.run hr) kk
end GCALL
theorem vp0 {n : Nat} (h : 0 < n) : vp_in 0 n := by
  unfold vp_in
  rintro (q | q)
  · exact absurd q (by decide)
  · have e : (0 : Int32).toNatClampNeg = 0 := rfl
    rw [e] at q
    omega
theorem fm_of_map {α : Type} {f : Nat → Option α} : ∀ {l : List Nat} {w : List α}, l.map f = w.map some → l.filterMap f = w
  | [], [], _ => rfl
  | [], _ :: _, h => by cases h
  | _ :: _, [], h => by cases h
  | i :: l, x :: w, h => by
    have h1 : f i = some x := (List.cons.inj h).1
    have h2 : l.map f = w.map some := (List.cons.inj h).2
    rw [List.filterMap_cons, h1, fm_of_map h2]
theorem cut_join {A0 : Nat → Prop} {D : va_G} {ws wc w1 ws1 : va_W} {H H1 : Heap} (hP : va_P D vwCl ws H) (hD : va_D A0 ws) (isC isR perm : List Nat) (hn : va_nd isR = true) (hdis : ∀ i ∈ isR, i ∉ isC) (hnp : va_nd perm = true) (hC : isC.map (fun i => ws[i]?) = wc.map some) (hR : isR.map (fun i => ws[i]?) = (isR.filterMap (fun i => ws[i]?)).map some)
    (hk : ∀ q : Nat, q < H.size → ¬ va_A wc H.size q → H1[q]? = H[q]?) (hF : ∀ q, va_A wc H.size q → A0 q) (hP1 : va_P D vwCl w1 H1) (hD1 : va_D (va_A wc H.size) w1) (hp : perm.map (fun i => (isR.filterMap (fun i => ws[i]?) ++ w1)[i]?) = ws1.map some) : va_P D vwCl ws1 H1 ∧ va_D A0 ws1 := by
  obtain ⟨h1, h2⟩ := va_join (wr := isR.filterMap (fun i => ws[i]?)) (w1 := w1) hP hD isC isR hC hR hn hdis hk hF hP1 hD1
  exact ⟨h1.sub perm (fm_of_map hp), h2.sub perm hnp hp⟩
section TSW
variable {p : Program} {l : Launch} {e : Env} {R : Room} {s : State} {m : MethodId} {args : Array Value} {below : List Frame} {meth : Method} {c : Code} {H : Heap} {locs : List Loc} {cells slots : Nat} {Q : State → Prop}
variable {cc : ByteArray} {pc : Nat} {ls : Array Slot} {rest : List Value}
theorem lv_tableD (hexec : p.tables.exec = Jvm.exec) (hb : c.code = cc) {dflt lo hi : Int} {offs : Array Int} {len : Nat} {x : Int32} {tgt : Nat} (hdg : decode cc pc = .ok (.tableswitch dflt lo hi offs, len)) (h : x.toInt < lo ∨ hi < x.toInt ∨ offs[(x.toInt - lo).toNat]? = some dflt) (ht : (pc : Int) + dflt = (tgt : Int))
    (k : W p l e R s m args below meth c H locs cells slots Q (F0 m tgt ls rest)) : W p l e R s m args below meth c H locs cells slots Q (F0 m pc ls (.int x :: rest)) := by
  by_cases h1 : x.toInt < lo
  · exact lv_tableOut hexec hb hdg (Or.inl h1) ht k
  · by_cases h2 : hi < x.toInt
    · exact lv_tableOut hexec hb hdg (Or.inr h2) ht k
    · rcases h with h | h | h
      · exact absurd h h1
      · exact absurd h h2
      · exact lv_tableIn hexec hb hdg h1 h2 h ht k
end TSW
abbrev CS : Type := St × St × St × (St × St) × (Nat → St) × (St × (Nat → St)) × (St × (Nat → St))
def xo (X : CS) (v : St) : CS := (v, X.2.1, X.2.2.1, X.2.2.2.1, X.2.2.2.2.1, X.2.2.2.2.2.1, X.2.2.2.2.2.2)
def xf (X : CS) (v : St) : CS := (X.1, v, X.2.2.1, X.2.2.2.1, X.2.2.2.2.1, X.2.2.2.2.2.1, X.2.2.2.2.2.2)
def xt (X : CS) (v : St) : CS := (X.1, X.2.1, v, X.2.2.2.1, X.2.2.2.2.1, X.2.2.2.2.2.1, X.2.2.2.2.2.2)
def xl (X : CS) (v : St × St) : CS := (X.1, X.2.1, X.2.2.1, v, X.2.2.2.2.1, X.2.2.2.2.2.1, X.2.2.2.2.2.2)
def xh (X : CS) (v : Nat → St) : CS := (X.1, X.2.1, X.2.2.1, X.2.2.2.1, v, X.2.2.2.2.2.1, X.2.2.2.2.2.2)
def xw (X : CS) (v : St × (Nat → St)) : CS := (X.1, X.2.1, X.2.2.1, X.2.2.2.1, X.2.2.2.2.1, v, X.2.2.2.2.2.2)
def xe (X : CS) (v : St × (Nat → St)) : CS := (X.1, X.2.1, X.2.2.1, X.2.2.2.1, X.2.2.2.2.1, X.2.2.2.2.2.1, v)
def wFl (k : Nat → ClassId) (a : Nat → Nat) (S : St) : va_W := [(a 0, .inr (2, [.int (S.1 0), .int (S.1 1), .ref (a 1), .ref (a 2), .ref (a 3), .ref (a 4)])), (a 1, .inl (k 0, 8, .inl (S.2 2))), (a 2, .inl (k 0, 8, .inl (S.2 3))), (a 3, .inl (k 0, 8, .inl (S.2 4))), (a 4, .inl (k 0, 8, .inl (S.2 5)))]
def wEn (k : Nat → ClassId) (a : Nat → Nat) (S : St) : va_W := [(a 0, .inr (0, [.int (S.1 0), .int (S.1 1), .int (S.1 2), .int (S.1 3), .ref (a 1), .ref (a 2), .ref (a 3)])), (a 1, .inl (k 0, 8, .inl (S.2 4))), (a 2, .inl (k 0, 8, .inl (S.2 5))), (a 3, .inl (k 0, 8, .inl (S.2 6)))]
def wLe (k : Nat → ClassId) (a : Nat → Nat) (S : St × St) : va_W := [(a 0, .inr (4, [.int (S.1.1 0), .ref (a 1), .ref (a 2)])), (a 1, .inl (k 0, 64, .inl (S.1.2 1)))] ++ (wFl k (sh a 2) S.2)
def wHo (k : Nat → ClassId) (a : Nat → Nat) (S : Nat → St) : va_W := [(a 0, .inr (3, [.ref (a 1)])), (a 1, .inl (k 2, 4, .inr (.inr (.inr (.inr (fun j => some (a (2 + 4 * j))))))))] ++ (wEn k (sh a (2 + 4 * 0)) (S 0) ++ (wEn k (sh a (2 + 4 * 1)) (S 1) ++ (wEn k (sh a (2 + 4 * 2)) (S 2) ++ (wEn k (sh a (2 + 4 * 3)) (S 3)))))
def wWi (k : Nat → ClassId) (a : Nat → Nat) (S : St × (Nat → St)) : va_W := [(a 0, .inr (5, [.ref (a 1), .int (S.1.1 1), .int (S.1.1 2)])), (a 1, .inl (k 1, 3, .inr (.inr (.inr (.inr (fun j => some (a (2 + 5 * j))))))))] ++ (wFl k (sh a (2 + 5 * 0)) (S.2 0) ++ (wFl k (sh a (2 + 5 * 1)) (S.2 1) ++ (wFl k (sh a (2 + 5 * 2)) (S.2 2))))
def wEv (k : Nat → ClassId) (a : Nat → Nat) (S : St × (Nat → St)) : va_W := [(a 0, .inr (1, [.int (S.1.1 0), .ref (a 1), .ref (a 2)])), (a 1, .inl (k 0, 6, .inl (S.1.2 1))), (a 2, .inl (k 1, 7, .inr (.inr (.inr (.inr (fun j => some (a (3 + 5 * j))))))))] ++ (wFl k (sh a (3 + 5 * 0)) (S.2 0) ++ (wFl k (sh a (3 + 5 * 1)) (S.2 1) ++ (wFl k (sh a (3 + 5 * 2)) (S.2 2) ++ (wFl k (sh a (3 + 5 * 3)) (S.2 3) ++ (wFl k (sh a (3 + 5 * 4)) (S.2 4) ++ (wFl k (sh a (3 + 5 * 5)) (S.2 5) ++ (wFl k (sh a (3 + 5 * 6)) (S.2 6))))))))
def wMa (k : Nat → ClassId) (a : Nat → Nat) (S : CS) : va_W := [(a 0, .inr (6, [.ref (a 2), .ref (a 7), .ref (a 12), .ref (a 19), .ref (a 37), .ref (a 54), .ref (a 1), .int (S.1.1 7)])), (a 1, .inl (k 0, 7, .inl (S.1.2 6)))] ++ (wFl k (sh a 2) S.2.1 ++ (wFl k (sh a 7) S.2.2.1 ++ (wLe k (sh a 12) S.2.2.2.1 ++ (wHo k (sh a 19) S.2.2.2.2.1 ++ (wWi k (sh a 37) S.2.2.2.2.2.1 ++ (wEv k (sh a 54) S.2.2.2.2.2.2))))))
def wMo (k : Nat → ClassId) (a : Nat → Nat) (S : St) : va_W := [(a 0, .inr (7, [.ref (a 1), .ref (a 2), .ref (a 3), .ref (a 4), .ref (a 5), .int (S.1 5), .int (S.1 6), .ref (a 6), .ref (a 7), .ref (a 8), .ref (a 9), .ref (a 10), .int (S.1 12), .int (S.1 13), .int (S.1 14), .ref (a 11), .int (S.1 16), .int (S.1 17), .int (S.1 18), .ref (a 12), .ref (a 13), .ref (a 14), .int (S.1 22), .ref (a 15), .ref (a 16), .int (S.1 25), .int (S.1 26), .ref (a 17), .ref (a 18), .int (S.1 29), .ref (a 19), .ref (a 20), .int (S.1 32)])), (a 1, .inl (k 0, 7, .inl (S.2 0))), (a 2, .inl (k 0, 8, .inl (S.2 1))), (a 3, .inl (k 0, 8, .inl (S.2 2))), (a 4, .inl (k 0, 8, .inl (S.2 3))), (a 5, .inl (k 0, 8, .inl (S.2 4))), (a 6, .inl (k 0, 64, .inl (S.2 7))), (a 7, .inl (k 0, 32, .inl (S.2 8))), (a 8, .inl (k 0, 32, .inl (S.2 9))), (a 9, .inl (k 0, 32, .inl (S.2 10))), (a 10, .inl (k 0, 32, .inl (S.2 11))), (a 11, .inl (k 0, 400, .inl (S.2 15))), (a 12, .inl (k 0, 8, .inl (S.2 19))), (a 13, .inl (k 0, 8, .inl (S.2 20))), (a 14, .inl (k 0, 64, .inl (S.2 21))), (a 15, .inl (k 0, 28, .inl (S.2 23))), (a 16, .inl (k 0, 28, .inl (S.2 24))), (a 17, .inl (k 0, 6, .inl (S.2 27))), (a 18, .inl (k 0, 6, .inl (S.2 28))), (a 19, .inl (k 0, 6, .inl (S.2 30))), (a 20, .inl (k 0, 8, .inl (S.2 31)))]
theorem fm_Ev_0 {k : Nat → ClassId} {a : Nat → Nat} {S : St × (Nat → St)} {j : Nat} (hj : j < 7) : (wEv k a S)[3 + 5 * j + 0]? = some (a (3 + 5 * j + 0), .inr (2, [.int ((S.2 j).1 0), .int ((S.2 j).1 1), .ref (a (3 + 5 * j + 1)), .ref (a (3 + 5 * j + 2)), .ref (a (3 + 5 * j + 3)), .ref (a (3 + 5 * j + 4))])) := by
  rcases (show j = 0 ∨ j = 1 ∨ j = 2 ∨ j = 3 ∨ j = 4 ∨ j = 5 ∨ j = 6 by omega) with rfl | rfl | rfl | rfl | rfl | rfl | rfl <;> rfl
theorem fm_Ev_1 {k : Nat → ClassId} {a : Nat → Nat} {S : St × (Nat → St)} {j : Nat} (hj : j < 7) : (wEv k a S)[3 + 5 * j + 1]? = some (a (3 + 5 * j + 1), .inl (k 0, 8, .inl ((S.2 j).2 2))) := by
  rcases (show j = 0 ∨ j = 1 ∨ j = 2 ∨ j = 3 ∨ j = 4 ∨ j = 5 ∨ j = 6 by omega) with rfl | rfl | rfl | rfl | rfl | rfl | rfl <;> rfl
theorem fm_Ev_2 {k : Nat → ClassId} {a : Nat → Nat} {S : St × (Nat → St)} {j : Nat} (hj : j < 7) : (wEv k a S)[3 + 5 * j + 2]? = some (a (3 + 5 * j + 2), .inl (k 0, 8, .inl ((S.2 j).2 3))) := by
  rcases (show j = 0 ∨ j = 1 ∨ j = 2 ∨ j = 3 ∨ j = 4 ∨ j = 5 ∨ j = 6 by omega) with rfl | rfl | rfl | rfl | rfl | rfl | rfl <;> rfl
theorem fm_Ev_3 {k : Nat → ClassId} {a : Nat → Nat} {S : St × (Nat → St)} {j : Nat} (hj : j < 7) : (wEv k a S)[3 + 5 * j + 3]? = some (a (3 + 5 * j + 3), .inl (k 0, 8, .inl ((S.2 j).2 4))) := by
  rcases (show j = 0 ∨ j = 1 ∨ j = 2 ∨ j = 3 ∨ j = 4 ∨ j = 5 ∨ j = 6 by omega) with rfl | rfl | rfl | rfl | rfl | rfl | rfl <;> rfl
theorem fm_Ev_4 {k : Nat → ClassId} {a : Nat → Nat} {S : St × (Nat → St)} {j : Nat} (hj : j < 7) : (wEv k a S)[3 + 5 * j + 4]? = some (a (3 + 5 * j + 4), .inl (k 0, 8, .inl ((S.2 j).2 5))) := by
  rcases (show j = 0 ∨ j = 1 ∨ j = 2 ∨ j = 3 ∨ j = 4 ∨ j = 5 ∨ j = 6 by omega) with rfl | rfl | rfl | rfl | rfl | rfl | rfl <;> rfl
