def S00 : ZS := (true, 0, 0, none, [], false, false, false, [], [], [], [])
theorem row00 (r : Nat) : rowIs h00 r [] := ⟨rfl, Nat.zero_le _, fun j hj => absurd hj (Nat.not_lt_zero _), fun x hx => (by cases hx)⟩
theorem inv00 : Inv h00 S00 := by
  refine ⟨⟨rfl, by decide, rfl, by decide, rfl, ⟨id, rfl, by decide, fun j hj => ?_, fun i j _ _ e => e, fun j hj => absurd hj (Nat.not_lt_zero _)⟩, fun _ => ⟨rfl, fun n e => (by cases e), row00 0, rfl, rfl, rfl, fun z => (by cases z), by decide, fun z => (by cases z), fun _ => rfl, fun z => (by cases z)⟩⟩, Or.inl rfl, rfl, rfl, by decide, rfl, by decide, fun z => (by cases z), ⟨rfl, fun n e => (by cases e), rfl, rfl, rfl, fun _ => ⟨rfl, Nat.zero_le _, fun j hj => absurd hj (Nat.not_lt_zero _), fun x hx => (by cases hx)⟩, fun z => (by cases z), fun z => (by cases z)⟩, ⟨⟨[], ⟨fun q hq => (by cases hq), List.nodup_nil, fun p hp _ => ?_⟩, rfl⟩, List.Pairwise.nil, fun l hl => (by cases hl)⟩⟩
  · refine ⟨?_, hj⟩
    show (if j < 6 then some j else none) = some j
    rw [if_pos hj]
  · match p, hp with
    | 0, _ => rfl
    | 1, _ => rfl
    | 2, _ => rfl
    | 3, _ => rfl
    | 4, _ => rfl
    | 5, _ => rfl
    | p + 6, hp => omega
