def z0 : St := (fun _ => 0, fun _ _ => 0)
def zMa : CS := (z0, z0, z0, (z0, z0), (fun _ => z0), (z0, fun _ => z0), (z0, fun _ => z0))
theorem pm_P {D : va_G} {ws ws1 : va_W} {H : Heap} (hp : ws1.Perm ws) (hP : va_P D vwCl ws H) : va_P D vwCl ws1 H := vaP_mem.mpr (fun q hq => vaP_mem.mp hP q (hp.mem_iff.mp hq))
theorem pm_D {A : Nat → Prop} {ws ws1 : va_W} (hp : ws1.Perm ws) (hD : va_D A ws) : va_D A ws1 := by
  obtain ⟨h1, h2⟩ := vaD_mem.mp hD
  exact vaD_mem.mpr ⟨(hp.map Prod.fst).nodup_iff.mpr h1, fun q hq => h2 q (hp.mem_iff.mp hq)⟩
theorem arr_same {D : va_G} {k : Nat → ClassId} {cA : ClassId} {s : State} (hK : va_K D vwCl (tysOf k ++ [(cA, .int)]) s) : cA = k 0 := by
  have h1 := (hK.2 0 (k 0, .int) rfl).2
  have h2 := (hK.2 3 (cA, .int) rfl).2
  exact Option.some.inj (h2.symm.trans h1)
theorem arr_sameFl {D : va_G} {k : Nat → ClassId} {cA : ClassId} {s : State} (hK : va_K D vwCl (tysOf k ++ [(cA, .object "WithTheSameOne$Floor")]) s) : cA = k 1 := by
  obtain ⟨_, _, _, _, _, h1⟩ := (hK.2 1 (k 1, .object "WithTheSameOne$Floor") rfl).2
  obtain ⟨_, _, _, _, _, h2⟩ := (hK.2 3 (cA, .object "WithTheSameOne$Floor") rfl).2
  exact Option.some.inj (h2.symm.trans h1)
theorem arr_sameEn {D : va_G} {k : Nat → ClassId} {cA : ClassId} {s : State} (hK : va_K D vwCl (tysOf k ++ [(cA, .object "WithTheSameOne$Ending")]) s) : cA = k 2 := by
  obtain ⟨_, _, _, _, _, h1⟩ := (hK.2 2 (k 2, .object "WithTheSameOne$Ending") rfl).2
  obtain ⟨_, _, _, _, _, h2⟩ := (hK.2 3 (cA, .object "WithTheSameOne$Ending") rfl).2
  exact Option.some.inj (h2.symm.trans h1)
theorem arrV_congr {cA : ClassId} {n : Nat} {f g : Nat → Value} (h : ∀ j, j < n → f j = g j) : arrV cA n f = arrV cA n g := by
  unfold arrV
  congr 1
  refine Array.ext (by simp) (fun i h1 h2 => ?_)
  simp at h1
  simp [h i h1]
theorem vaP_ext {D : va_G} {X Y : va_W} {H : Heap} {q : Nat} {c : ClassId} {n : Nat} {f g : Nat → Option Nat} (h : ∀ j, j < n → f j = g j) (hP : va_P D vwCl (X ++ ([(q, .inl (c, n, .inr (.inr (.inr (.inr f)))))] ++ Y)) H) : va_P D vwCl (X ++ ([(q, .inl (c, n, .inr (.inr (.inr (.inr g)))))] ++ Y)) H := by
  refine vaP_mem.mpr (fun z hz => ?_)
  have hm := vaP_mem.mp hP
  rcases List.mem_append.mp hz with h1 | h1
  · exact hm z (List.mem_append_left _ h1)
  · rcases List.mem_append.mp h1 with h2 | h2
    · have hz2 : z = (q, .inl (c, n, .inr (.inr (.inr (.inr g))))) := by simpa using h2
      subst hz2
      have h3 : va_at D vwCl (q, .inl (c, n, .inr (.inr (.inr (.inr f))))) H := hm _ (List.mem_append_right _ (List.mem_append_left _ (by simp)))
      show H[q]? = some (vp_cell _ _)
      have h4 : H[q]? = some (vp_cell c (n, .inr (.inr (.inr (.inr f))))) := h3
      rw [h4]
      rw [vp_cell_q, vp_cell_q]
      exact congrArg some (arrV_congr (fun j hj => by rw [h j hj]))
    · exact hm z (List.mem_append_right _ (List.mem_append_right _ h2))
theorem vaD_ext {A : Nat → Prop} {X Y : va_W} {q : Nat} {c : ClassId} {n : Nat} {f g : Nat → Option Nat} (hD : va_D A (X ++ ([(q, .inl (c, n, .inr (.inr (.inr (.inr f)))))] ++ Y))) : va_D A (X ++ ([(q, .inl (c, n, .inr (.inr (.inr (.inr g)))))] ++ Y)) := by
  obtain ⟨h1, h2⟩ := vaD_mem.mp hD
  refine vaD_mem.mpr ⟨by simpa using h1, fun z hz => ?_⟩
  rcases List.mem_append.mp hz with h3 | h3
  · exact h2 z (List.mem_append_left _ h3)
  · rcases List.mem_append.mp h3 with h4 | h4
    · have hz2 : z = (q, .inl (c, n, .inr (.inr (.inr (.inr g))))) := by simpa using h4
      subst hz2
      exact h2 (q, .inl (c, n, .inr (.inr (.inr (.inr f))))) (List.mem_append_right _ (List.mem_append_left _ (by simp)))
    · exact h2 z (List.mem_append_right _ (List.mem_append_right _ h4))
theorem ci_entry {l : Launch} {y : MethodName} {ws ws' : List Cond} {rm : Room} {cc : ByteArray} {maxL mc ms : Nat} {ret : Option FieldType} {Qc : (Nat → Prop) → Array Value → State → Outcome → State → Prop} {D : va_G} {k : Nat → ClassId} {W0 : va_W} {av : List Value} {sz : Nat} {Rn : String}
    (hy : plainName y.cls = true) (hw : ws = Cond.code y cc maxL ret :: ws') (hRn : y.cls = Rn) (hav : (lg_sl av).length ≤ maxL)
    (body : ∀ (p : Program) (e : Env) (s : State) (m : MethodId) (below : List Frame) (meth : Method) (c : Code), p.tables.exec = Jvm.exec → c.code = cc → meth.sig.returnType = ret → meth.locks = false → c.maxLocals = maxL → (∀ w ∈ ws, w.before av.toArray s = true) → s.vm.findClass Rn = some m.cls → nwP s → va_K D vwCl (tysOf k) s → meth.name = y.name →
      ∀ A : Nat → Prop, (∀ q : Nat, s.heap.size ≤ q → A q) → ∀ (H : Heap) (locs : List Loc), va_P D vwCl W0 H → va_D A W0 → va_S A s.heap H locs → ∀ ls : Array Slot, lv_has ls maxL (lv_args 0 av) → W p l e rm s m av.toArray below meth c H locs 0 0 (MQ below (Qc A) av.toArray s mc ms A) (F0 m 0 ls [])) :
    Met l y ws rm (cPc D k W0 av sz) (Qc (va_A W0 sz)) mc ms (va_A W0 sz) := by
  refine Met.ofW (cc := cc) (maxL := maxL) (ret := ret) hy hw ?_
  intro p e s m args below meth c s₁ B hml hv
  obtain ⟨rfl, hsz, hP, hK, hD0, hn⟩ := hv
  subst hsz
  have hl := lv_entry av (n := maxL) hav
  rw [lg_entry_eq]
  exact body p e s m below meth c B.exec B.bytes B.returns B.notSynchronized hml (atoms_spec (ws := ws) B.pre) (by rw [← hRn]; exact findClass_of_methodNamed B.named) hn hK (name_of_methodNamed B.named B.method).1 _ (fun q h => Or.inr h) s.heap [] hP hD0.self va_S.rf _ hl
section GINIT
variable {p : Program} {l : Launch} {e : Env} {R : Room} {s : State} {m : MethodId} {args : Array Value} {below : List Frame} {meth : Method} {c : Code} {H : Heap} {locs : List Loc} {cells slots mc ms : Nat} {Q : State → Prop}
variable {pc : Nat} {ls : Array Slot} {rest st0 : List Value} {a : Array Value} {A0 : Nat → Prop} {H0 : Heap} {D : va_G} {k : Nat → ClassId} {Wc : va_W}
theorem gi_v {S : Type} {post : S → Prop} {Wf : S → va_W} (hr : va_Run p l e R s m args below meth c H locs cells slots mc ms (F0 m pc ls st0) rest (va_Qv post (cB D k (va_A Wc H.size) Wf) (va_A Wc H.size) a) (va_A Wc H.size)) (hS : va_S A0 H0 H locs) (hF : ∀ q, va_A Wc H.size q → A0 q)
    (kk : ∀ (u : S) (H1 : Heap) (locs1 : List Loc), post u → va_P D vwCl (Wf u) H1 → va_D (va_A Wc H.size) (Wf u) → (∀ q : Nat, q < H.size → ¬ va_A Wc H.size q → H1[q]? = H[q]?) → va_S A0 H0 H1 locs1 → W p l e R s m args below meth c H1 locs1 (cells + mc) (slots + ms) Q (F0 m (pc + 3) ls rest)) : W p l e R s m args below meth c H locs cells slots Q (F0 m pc ls st0) :=
  va_callv hr hS (fun q _ h => hF q h) hF (fun u t H1 locs ht _ hw hB _ hk1 hS => kk u H1 locs hw (by rw [← ht]; exact hB.1) hB.2.2 hk1 hS)
end GINIT
