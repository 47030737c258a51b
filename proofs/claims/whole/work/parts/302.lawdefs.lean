-- ===== end of PART A; then your names; then what follows =====
/-! THE CLAIM OUT OF ONE WALK OF THE LAW'S BODY. Your part is whole_start (and what it stands on); all else here is the same for every law, but numbers. -/
def R_law : String := "WithTheSameOneLaw"
def lw_P (b : Addr) (xs : List Int32) (args : Array Value) (s : State) : Prop := args = #[.ref b] ∧ s.IntsAt b xs ∧ xs.length ≤ 256 ∧ (Jvm.Cond.and given_1 narrow_1).before args s = true
def lw_Q (_ : Array Value) (s : State) (o : Outcome) (t : State) : Prop := o = .returned (some (.int 1)) ∧ Framed s o t [] 600000 7302250
def lw_Z (below : List Frame) (a : Array Value) (s : State) : State → Prop := fun t => ∃ o, t.status = .running ∧ Ended t below o ∧ lw_Q a s o t
/-- the law's own end, with 1 on the stack, nothing written that was there before, its room as the claim has it -/
theorem lw_ret {p : Program} {l : Launch} {e : Env} {s : State} {m : MethodId} {below : List Frame} {meth : Method} {c : Code} {b : Nat} (hx : p.tables.exec = Jvm.exec) (hb : c.code = code) (hr : meth.sig.returnType = ret) (hlocks : meth.locks = false) {pc : Nat} {H : Heap} {ls : Array Slot} (hdg : decode code pc = .ok (.ireturn, 1)) : W p l e room_1 s m #[Value.ref b] below meth c H [] 600000 7302250 (lw_Z below #[Value.ref b] s) (F0 m pc ls [.int 1]) := by
  intro T hT X
  obtain ⟨fs, hret, hrun, hended, hW, hframe⟩ := X.leave (v := some (.int 1)) (hlocks := hlocks) (fun h => by rw [hr] at h; cases h)
  have hmeth' : T.vm.method? m = some meth := X.method'
  refine ⟨T.setFrames fs, ?_, .returned (some (.int 1)), hrun, hended, rfl, ⟨_, rfl⟩, hW, hframe⟩
  jvm_step X.here [X.here.top, hx, hb, hdg, hmeth', hr, ret, narrow_b1]
  (try refine ⟨rfl, ?_⟩); (try refine ⟨rfl, ?_⟩)
  first | (intro acts; rw [hret _ acts rfl rfl rfl]) | rw [hret _ _ rfl rfl rfl]
  exact Steps.refl _
/-- what holds at the law's entry: the machine, the code, the tables' words (any of lw_tbl by 'hts w (by decide +kernel)'), the script of L ints xs at the cell b, what the Statement gives of the start (any of its parts by flat_of_before) -/
def lw_At (p : Program) (s : State) (m : MethodId) (meth : Method) (c : Code) (b L : Nat) (xs : Nat → Int32) : Prop :=
  p.tables.exec = Jvm.exec ∧ c.code = code ∧ meth.sig.returnType = ret ∧ c.maxLocals = 4 ∧ s.vm.findClass R_law = some m.cls ∧ (∀ w ∈ lw_tbl, w.before #[Value.ref b] s = true) ∧ va_X b L xs s s.heap ∧ b < s.heap.size ∧ meth.locks = false ∧ (Jvm.Cond.and given_1 narrow_1).before #[Value.ref b] s = true

set_option maxRecDepth 100000 in
set_option maxHeartbeats 4000000 in
theorem fcLA_p {k : Nat → ClassId} {a b : Nat → Nat} {S0 : CS} {S1 : St} : (wMa k a S0 ++ wMo k b S1).Perm ((wMa k a S0) ++ (wMo k b S1)) := by
  refine pm_iff (fun _ x => ?_)
  simp only [List.count_append, List.count_nil, Nat.mul_zero, Nat.add_zero, Nat.zero_add]
  try omega
set_option maxRecDepth 100000 in
set_option maxHeartbeats 4000000 in
theorem fcLA_q {k : Nat → ClassId} {a b : Nat → Nat} {S0 : CS} {S1 : St} {T0 : CS} : (wMa k a T0 ++ wMo k b S1).Perm ((wMa k a T0) ++ (wMo k b S1)) := by
  refine pm_iff (fun _ x => ?_)
  simp only [List.count_append, List.count_nil, Nat.mul_zero, Nat.add_zero, Nat.zero_add]
  try omega
theorem fcLA_P {D : va_G} {k : Nat → ClassId} {a b : Nat → Nat} {S0 : CS} {S1 : St} {H : Heap} (hP : va_P D vwCl (wMa k a S0 ++ wMo k b S1) H) : va_P D vwCl (wMa k a S0) H := pf_P (fcLA_p (S0 := S0) (S1 := S1)) hP
theorem fcLA_D {k : Nat → ClassId} {a b : Nat → Nat} {S0 : CS} {S1 : St} {A : Nat → Prop} (hD : va_D A (wMa k a S0 ++ wMo k b S1)) : va_D A (wMa k a S0) := pf_D (fcLA_p (S0 := S0) (S1 := S1)) hD
theorem fcLA_J {D : va_G} {k : Nat → ClassId} {a b : Nat → Nat} {S0 : CS} {S1 : St} {H : Heap} {H1 : Heap} {A0 : Nat → Prop} {T0 : CS} (hP : va_P D vwCl (wMa k a S0 ++ wMo k b S1) H) (hD : va_D A0 (wMa k a S0 ++ wMo k b S1)) (hk : ∀ q : Nat, q < H.size → ¬ va_A (wMa k a S0) H.size q → H1[q]? = H[q]?) (hF : ∀ q, va_A (wMa k a S0) H.size q → A0 q) (hP1 : va_P D vwCl (wMa k a T0) H1) (hD1 : va_D (va_A (wMa k a S0) H.size) (wMa k a T0)) : va_P D vwCl (wMa k a T0 ++ wMo k b S1) H1 ∧ va_D A0 (wMa k a T0 ++ wMo k b S1) := pf_J (fcLA_p (S0 := S0) (S1 := S1)) (fcLA_q (S0 := S0) (S1 := S1)) hP hD hk hF hP1 hD1

set_option maxRecDepth 100000 in
set_option maxHeartbeats 4000000 in
theorem fcLB_p {k : Nat → ClassId} {a b : Nat → Nat} {S0 : CS} {S1 : St} : (wMa k a S0 ++ wMo k b S1).Perm ((wMo k b S1) ++ (wMa k a S0)) := by
  refine pm_iff (fun _ x => ?_)
  simp only [List.count_append, List.count_nil, Nat.mul_zero, Nat.add_zero, Nat.zero_add]
  try omega
set_option maxRecDepth 100000 in
set_option maxHeartbeats 4000000 in
theorem fcLB_q {k : Nat → ClassId} {a b : Nat → Nat} {S0 : CS} {S1 : St} {T0 : St} : (wMa k a S0 ++ wMo k b T0).Perm ((wMo k b T0) ++ (wMa k a S0)) := by
  refine pm_iff (fun _ x => ?_)
  simp only [List.count_append, List.count_nil, Nat.mul_zero, Nat.add_zero, Nat.zero_add]
  try omega
theorem fcLB_P {D : va_G} {k : Nat → ClassId} {a b : Nat → Nat} {S0 : CS} {S1 : St} {H : Heap} (hP : va_P D vwCl (wMa k a S0 ++ wMo k b S1) H) : va_P D vwCl (wMo k b S1) H := pf_P (fcLB_p (S0 := S0) (S1 := S1)) hP
theorem fcLB_D {k : Nat → ClassId} {a b : Nat → Nat} {S0 : CS} {S1 : St} {A : Nat → Prop} (hD : va_D A (wMa k a S0 ++ wMo k b S1)) : va_D A (wMo k b S1) := pf_D (fcLB_p (S0 := S0) (S1 := S1)) hD
theorem fcLB_J {D : va_G} {k : Nat → ClassId} {a b : Nat → Nat} {S0 : CS} {S1 : St} {H : Heap} {H1 : Heap} {A0 : Nat → Prop} {T0 : St} (hP : va_P D vwCl (wMa k a S0 ++ wMo k b S1) H) (hD : va_D A0 (wMa k a S0 ++ wMo k b S1)) (hk : ∀ q : Nat, q < H.size → ¬ va_A (wMo k b S1) H.size q → H1[q]? = H[q]?) (hF : ∀ q, va_A (wMo k b S1) H.size q → A0 q) (hP1 : va_P D vwCl (wMo k b T0) H1) (hD1 : va_D (va_A (wMo k b S1) H.size) (wMo k b T0)) : va_P D vwCl (wMa k a S0 ++ wMo k b T0) H1 ∧ va_D A0 (wMa k a S0 ++ wMo k b T0) := pf_J (fcLB_p (S0 := S0) (S1 := S1)) (fcLB_q (S0 := S0) (S1 := S1)) hP hD hk hF hP1 hD1
/-- X6_feed -/
def LS_0 (Inv : CS → St → Prop) : Prop := ∀ (X : CS) (Y : St) (x1 : Int32), Inv X Y → wp_X6_feed X x1 (fun r X2 => wp_X7_feed Y x1 (fun r2 Y2 => r = r2 ∧ Inv X2 Y2))
/-- X6_ball -/
def LS_1 (Inv : CS → St → Prop) : Prop := ∀ (X : CS) (Y : St), Inv X Y → wp_X6_ball X  (fun r X2 => wp_X7_ball Y  (fun r2 Y2 => r = r2 ∧ Inv X2 Y2))
/-- X6_dancer -/
def LS_2 (Inv : CS → St → Prop) : Prop := ∀ (X : CS) (Y : St) (x1 x2 : Int32), Inv X Y → wp_X6_dancer X x1 x2 (fun r X2 => wp_X7_dancer Y x1 x2 (fun r2 Y2 => r = r2 ∧ Inv X2 Y2))
/-- X6_law -/
def LS_3 (Inv : CS → St → Prop) : Prop := ∀ (X : CS) (Y : St) (x1 : Int32), Inv X Y → wp_X6_law X x1 (fun r X2 => wp_X7_law Y x1 (fun r2 Y2 => r = r2 ∧ Inv X2 Y2))
/-- X6_danced -/
def LS_4 (Inv : CS → St → Prop) : Prop := ∀ (X : CS) (Y : St) (x1 x2 : Int32), Inv X Y → wp_X6_danced X x1 x2 (fun r X2 => wp_X7_danced Y x1 x2 (fun r2 Y2 => r = r2 ∧ Inv X2 Y2))
/-- X6_bringers -/
def LS_5 (Inv : CS → St → Prop) : Prop := ∀ (X : CS) (Y : St) (x1 x2 : Int32), Inv X Y → wp_X6_bringers X x1 x2 (fun r X2 => wp_X7_bringers Y x1 x2 (fun r2 Y2 => r = r2 ∧ Inv X2 Y2))
/-- X6_may -/
def LS_6 (Inv : CS → St → Prop) : Prop := ∀ (X : CS) (Y : St) (x1 x2 : Int32), Inv X Y → wp_X6_may X x1 x2 (fun r X2 => wp_X7_may Y x1 x2 (fun r2 Y2 => r = r2 ∧ Inv X2 Y2))
/-- X6_dance -/
def LS_7 (Inv : CS → St → Prop) : Prop := ∀ (X : CS) (Y : St) (x1 x2 x3 : Int32), Inv X Y → wp_X6_dance X x1 x2 x3 (fun r X2 => wp_X7_dance Y x1 x2 x3 (fun r2 Y2 => r = r2 ∧ Inv X2 Y2))
/-- X6_night -/
def LS_8 (Inv : CS → St → Prop) : Prop := ∀ (X : CS) (Y : St), Inv X Y → wp_X6_night X  (fun r X2 => wp_X7_night Y  (fun r2 Y2 => r = r2 ∧ Inv X2 Y2))
/-- X6_ever -/
def LS_9 (Inv : CS → St → Prop) : Prop := ∀ (X : CS) (Y : St) (x1 x2 : Int32), Inv X Y → wp_X6_ever X x1 x2 (fun r X2 => wp_X7_ever Y x1 x2 (fun r2 Y2 => r = r2 ∧ Inv X2 Y2))
/-- X6_round -/
def LS_10 (Inv : CS → St → Prop) : Prop := ∀ (X : CS) (Y : St) (x1 x2 : Int32), Inv X Y → wp_X6_round X x1 x2 (fun r X2 => wp_X7_round Y x1 x2 (fun r2 Y2 => r = r2 ∧ Inv X2 Y2))
/-- X6_closed -/
def LS_11 (Inv : CS → St → Prop) : Prop := ∀ (X : CS) (Y : St) (x1 : Int32), Inv X Y → wp_X6_closed X x1 (fun r X2 => wp_X7_closed Y x1 (fun r2 Y2 => r = r2 ∧ Inv X2 Y2))
/-- X6_opens -/
def LS_12 (Inv : CS → St → Prop) : Prop := ∀ (X : CS) (Y : St) (x1 x2 : Int32), Inv X Y → wp_X6_opens X x1 x2 (fun r X2 => wp_X7_opens Y x1 x2 (fun r2 Y2 => r = r2 ∧ Inv X2 Y2))
/-- X6_best -/
def LS_13 (Inv : CS → St → Prop) : Prop := ∀ (X : CS) (Y : St), Inv X Y → wp_X6_best X  (fun r X2 => wp_X7_best Y  (fun r2 Y2 => r = r2 ∧ Inv X2 Y2))
/-- X6_fewest -/
def LS_14 (Inv : CS → St → Prop) : Prop := ∀ (X : CS) (Y : St) (x1 : Int32), Inv X Y → wp_X6_fewest X x1 (fun r X2 => wp_X7_fewest Y x1 (fun r2 Y2 => r = r2 ∧ Inv X2 Y2))
/-- X6_wanted -/
def LS_15 (Inv : CS → St → Prop) : Prop := ∀ (X : CS) (Y : St) (x1 x2 : Int32), Inv X Y → wp_X6_wanted X x1 x2 (fun r X2 => wp_X7_wanted Y x1 x2 (fun r2 Y2 => r = r2 ∧ Inv X2 Y2))
/-- X6_off -/
def LS_16 (Inv : CS → St → Prop) : Prop := ∀ (X : CS) (Y : St) (x1 x2 : Int32), Inv X Y → wp_X6_off X x1 x2 (fun r X2 => wp_X7_off Y x1 x2 (fun r2 Y2 => r = r2 ∧ Inv X2 Y2))
/-- X6_worth -/
def LS_17 (Inv : CS → St → Prop) : Prop := ∀ (X : CS) (Y : St) (x1 : Int32), Inv X Y → wp_X6_worth X x1 (fun r X2 => wp_X7_worth Y x1 (fun r2 Y2 => r = r2 ∧ Inv X2 Y2))
/-- X6_byLaw -/
def LS_18 (Inv : CS → St → Prop) : Prop := ∀ (X : CS) (Y : St) (x1 : Int32), Inv X Y → wp_X6_byLaw X x1 (fun r X2 => wp_X7_byLaw Y x1 (fun r2 Y2 => r = r2 ∧ Inv X2 Y2))
/-- X6_row -/
def LS_19 (Inv : CS → St → Prop) : Prop := ∀ (X : CS) (Y : St) (x1 : Int32), Inv X Y → wp_X6_row X x1 (fun r X2 => wp_X7_row Y x1 (fun r2 Y2 => r = r2 ∧ Inv X2 Y2))
/-- X6_judge -/
def LS_20 (Inv : CS → St → Prop) : Prop := ∀ (X : CS) (Y : St), Inv X Y → wp_X6_judge X  (fun r X2 => wp_X7_judge Y  (fun r2 Y2 => r = r2 ∧ Inv X2 Y2))
/-- X6_load -/
def LS_21 (Inv : CS → St → Prop) : Prop := ∀ (X : CS) (Y : St), Inv X Y → wp_X6_load X  (fun r X2 => wp_X7_load Y  (fun r2 Y2 => r = r2 ∧ Inv X2 Y2))
/-- X6_cards -/
def LS_22 (Inv : CS → St → Prop) : Prop := ∀ (X : CS) (Y : St), Inv X Y → wp_X6_cards X  (fun r X2 => wp_X7_cards Y  (fun r2 Y2 => r = r2 ∧ Inv X2 Y2))
/-- X6_clear -/
def LS_23 (Inv : CS → St → Prop) : Prop := ∀ (X : CS) (Y : St), Inv X Y → wp_X6_clear X  (fun r X2 => wp_X7_clear Y  (fun r2 Y2 => r = r2 ∧ Inv X2 Y2))
/-- X6_seeds -/
def LS_24 (Inv : CS → St → Prop) : Prop := ∀ (X : CS) (Y : St) (x1 x2 : Int32), Inv X Y → wp_X6_seeds X x1 x2 (fun r X2 => wp_X7_seeds Y x1 x2 (fun r2 Y2 => r = r2 ∧ Inv X2 Y2))
/-- X6_image -/
def LS_25 (Inv : CS → St → Prop) : Prop := ∀ (X : CS) (Y : St), Inv X Y → wp_X6_image X  (fun r X2 => wp_X7_image Y  (fun r2 Y2 => r = r2 ∧ Inv X2 Y2))
/-- X6_restore -/
def LS_26 (Inv : CS → St → Prop) : Prop := ∀ (X : CS) (Y : St), Inv X Y → wp_X6_restore X  (fun r X2 => wp_X7_restore Y  (fun r2 Y2 => r = r2 ∧ Inv X2 Y2))
/-- X6_count -/
def LS_27 (Inv : CS → St → Prop) : Prop := ∀ (X : CS) (Y : St) (x1 : Int32), Inv X Y → wp_X6_count X x1 (fun r X2 => wp_X7_count Y x1 (fun r2 Y2 => r = r2 ∧ Inv X2 Y2))
def LawStep (Inv : CS → St → Prop) : Prop := LS_0 Inv ∧ LS_1 Inv ∧ LS_2 Inv ∧ LS_3 Inv ∧ LS_4 Inv ∧ LS_5 Inv ∧ LS_6 Inv ∧ LS_7 Inv ∧ LS_8 Inv ∧ LS_9 Inv ∧ LS_10 Inv ∧ LS_11 Inv ∧ LS_12 Inv ∧ LS_13 Inv ∧ LS_14 Inv ∧ LS_15 Inv ∧ LS_16 Inv ∧ LS_17 Inv ∧ LS_18 Inv ∧ LS_19 Inv ∧ LS_20 Inv ∧ LS_21 Inv ∧ LS_22 Inv ∧ LS_23 Inv ∧ LS_24 Inv ∧ LS_25 Inv ∧ LS_26 Inv ∧ LS_27 Inv
