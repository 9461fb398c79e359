/-! the state at the start -/
def h00 : Hp := (fun c => if c = 6 then (fun k => if k = 1 then -1 else 0) else if c = 0 then (fun k => if k = 6 then -1 else if k = 7 then -1 else 0) else if c = 12 then (fun k => if k = 0 then 1 else 0) else if c = 27 then (fun k => if k = 5 then -1 else if k = 14 then -1 else if k = 15 then -1 else 0) else (fun _ => 0), fun _ _ => 0, fun _ _ => 0)
def S00 : SR := (fun _ => 0, fun _ => 0, fun _ _ => 0, fun _ => 0, fun _ => 0)
def X00 : XT := ((0, -1, 0, 0, 0, 0), (fun _ => 0, fun _ => 0, fun _ => 0, fun _ => 0), (0, 0, 0, -1, -1), (0, [], [], []), (S00, fun _ => 0, 0, 0))
theorem h00_C : CX X00 (true, 0, 0) ([], 0) h00 := by
  refine ⟨⟨rfl, rfl, rfl, rfl, rfl, rfl⟩, ⟨fun p _ => ⟨rfl, rfl, rfl⟩, fun g _ => rfl, ?_⟩, ⟨rfl, rfl, rfl, rfl, rfl⟩, ⟨rfl, ⟨rfl, rfl, rfl, fun i h => absurd h (Nat.not_lt_zero _), fun i h => absurd h (Nat.not_lt_zero _), fun i h => absurd h (Nat.not_lt_zero _)⟩, 0, by decide, rfl, rfl, fun i h => absurd h (Nat.not_lt_zero _)⟩, fun h => absurd h (by decide), ⟨⟨fun n _ => ⟨rfl, rfl⟩, ?_, fun n _ h => absurd rfl h⟩, rfl, rfl⟩, fun i h => absurd h (Nat.not_lt_zero _), rfl, rfl⟩
  · show h00.1 1 4 = nI (cn (fun _ => (0 : Int32)) 240)
    rw [cn_0]
    rfl
  · show h00.1 16 5 = nI (cn (fun _ => (0 : Int32)) 64)
    rw [cn_0]
    rfl
theorem h00_M : MX X00 (true, 0, 0) ([], 0) h00 := by
  refine ⟨⟨rfl, fun _ => rfl, rfl, rfl, rfl, rfl⟩, ⟨fun p _ => ⟨rfl, rfl, rfl⟩, fun g _ => rfl⟩, ⟨rfl, fun h => absurd rfl h, rfl, rfl, rfl⟩, fun h => absurd h.1 (by decide), fun h => absurd h.1 (by decide), ⟨⟨fun n _ => ⟨rfl, fun h => absurd rfl h⟩, ?_, fun n _ h => absurd rfl h⟩, fun h => absurd h (by decide)⟩, fun i h => absurd h (Nat.not_lt_zero _), rfl, rfl⟩
  show h00.1 27 33 = nI (cn (fun _ => (0 : Int32)) 80)
  rw [cn_0]
  rfl
theorem h00_P : PI X00 (true, 0, 0) := ⟨Or.inl rfl, Nat.zero_le _, by decide, Or.inl rfl, fun _ => rfl, fun _ => rfl, fun _ => rfl, fun _ _ => rfl, fun _ _ => rfl, fun h => absurd h.1 (by decide), fun h => absurd h (by decide), fun h => absurd h.1 (by decide), fun h => absurd h (by decide), fun h => absurd h (by decide)⟩
theorem h00_I : Inv h00 := ⟨X00, (true, 0, 0), ([], 0), h00_C, h00_M, h00_P, Nat.zero_le _⟩
