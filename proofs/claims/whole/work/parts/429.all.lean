/-! the whole law -/
def t0Z : TV := (0, 0, fun _ => 0, fun _ => 0, fun _ => 0, fun _ _ => false)
theorem okT_z : okT t0Z := ⟨Nat.zero_le _, Nat.zero_le _, fun _ => Nat.zero_le _, fun _ => Nat.zero_le _, fun _ _ h => absurd (show false = true from h) (by decide), fun _ _ => rfl⟩
theorem absF_z {F : St} (h0 : F.1 0 = 0) (h1 : F.1 1 = 0) : absF F t0Z := ⟨h0, h1, fun i hi => absurd hi (Nat.not_lt_zero i), fun i hi => absurd hi (Nat.not_lt_zero i), fun i hi => absurd hi (Nat.not_lt_zero i), fun i hi => absurd hi (Nat.not_lt_zero i)⟩
theorem inv_0 : Inv zMa z0 :=
  ⟨(t0Z, t0Z, false, 0, 0, fun _ => 0, fun _ => 0, fun _ => 0), ⟨okT_z, fun h => absurd (show false = true from h) (by decide), Nat.zero_le _, Nat.zero_le _, fun i hi => absurd hi (Nat.not_lt_zero i), fun i hi => absurd hi (Nat.not_lt_zero i)⟩,
    ⟨absF_z rfl rfl, rfl, fun h => absurd (show false = true from h) (by decide), rfl, fun i hi => absurd hi (Nat.not_lt_zero i), rfl, fun i hi => absurd hi (Nat.not_lt_zero i), fun _ _ => rfl⟩,
    ⟨absF_z rfl rfl, rfl, fun h => absurd (show false = true from h) (by decide), rfl, fun i hi => absurd hi (Nat.not_lt_zero i), rfl, fun i hi => absurd hi (Nat.not_lt_zero i), fun _ _ => rfl⟩⟩
theorem law_all : LawStep Inv := ⟨ls_feed, ls_ball, ls_dancer, ls_law, ls_danced, ls_bringers, ls_may, ls_dance, ls_night, ls_ever, ls_round, ls_closed, ls_opens, ls_best, ls_fewest, ls_wanted, ls_off, ls_worth, ls_byLaw, ls_row, ls_judge, ls_load, ls_cards, ls_clear, ls_seeds, ls_image, ls_restore, ls_count⟩
theorem whole_start {p : Program} {e : Env} {s : State} {m : MethodId} {below : List Frame} {meth : Method} {c : Code} (l : Launch) {b L : Nat} {xs : Nat → Int32} (hL : L ≤ 256) (C0 : lw_At p s m meth c b L xs) : W p l e room_1 s m #[Value.ref b] below meth c s.heap [] 0 0 (lw_Z below #[Value.ref b] s) (entryFrame m ([Value.ref b] : List Value).toArray 4) := whole_start_of l hL C0 law_all inv_0
