/-! at the start the memories agree -/
def sg0 : Sg := fun a b => if a = 0 then (if b = 4 then 3 else if b = 5 then 4 else 0) else 0
theorem sg0_le (a b : Nat) : sg0 a b ≤ 4 := by
  unfold sg0
  split
  · split
    · omega
    · split <;> omega
  · omega
theorem sg0_z {a b : Nat} (h : a ≠ 0) : sg0 a b = 0 := by
  unfold sg0
  rw [if_neg h]
theorem ck0 : ckm sg0 = 0 := by decide +kernel
theorem gs0 : GS 0 (fun _ => rs0) sg0 := by
  refine ⟨⟨by decide, by decide, by decide, by decide, by decide, by decide, fun p => ?_, fun p => ?_, fun p => ?_, fun p => ?_, fun p => ?_, fun p => ?_⟩, ⟨by decide, by decide, by decide, fun p => ?_, fun p => ?_, fun p => ?_, fun p => ?_, fun p => ?_, fun p => ?_, by decide⟩, ⟨rfl, rfl, fun p d hp => absurd hp (Nat.not_lt_zero p)⟩, by decide, fun p => ?_, fun p q hp => absurd hp (Nat.not_lt_zero p), by decide⟩
  all_goals rw [sg0_z (by decide)]; omega
theorem sr0 {b : Nat} (hb : b = 40) : SR b sg0 mX0 ∧ SX b sg0 mX0 := by
  subst hb
  refine ⟨⟨rfl, rfl, rfl, rfl, rfl, rfl, by rw [ck0]; rfl, fun p hp => ?_, fun p hp => ?_, fun p hp => ?_, fun p hp => ?_, fun p hp => ?_, fun p hp => ?_⟩, ⟨rfl, fun i hi => absurd hi (Nat.not_lt_zero i)⟩, ⟨rfl, fun i hi => absurd hi (Nat.not_lt_zero i)⟩, ⟨rfl, fun i hi => absurd hi (Nat.not_lt_zero i)⟩, rfl⟩
  all_goals rw [sg0_z (by decide)]; rfl
theorem mr0 : MR sg0 mM0 := by
  refine ⟨rfl, rfl, rfl, rfl, fun p hp => ?_, fun p hp => ?_, fun p hp => ?_, fun p hp => ?_, fun p hp => ?_⟩
  all_goals rw [sg0_z (by decide)]; rfl
theorem tp0 : TP mX0 lX0 mM0 lM0 := fun t ht => by
  rcases (show t = 0 ∨ t = 1 ∨ t = 2 ∨ t = 3 ∨ t = 4 ∨ t = 5 by omega) with rfl | rfl | rfl | rfl | rfl | rfl
  all_goals exact ⟨by decide, Or.inl (by decide), 0, by decide, by decide, by decide, fun _ => rfl, fun j hj => absurd hj (Nat.not_lt_zero j)⟩
theorem lt0 : LT mM0 := by
  have h : ∀ i, i < 16 → mM0 25 i = wordT i := by decide
  exact h
theorem inv0 : Inv mX0 lX0 mM0 lM0 := ⟨0, fun _ => rs0, 0, fun _ => 0, sg0, sg0, false, ⟨by decide, rfl, rfl, fun i hi => absurd hi (Nat.not_lt_zero i)⟩, ⟨⟨by decide, fun r _ _ => rfl⟩, rfl, rfl, fun j hj => absurd hj (Nat.not_lt_zero j)⟩, ⟨(sr0 rfl).1, (sr0 rfl).2, mr0, ⟨rfl, ⟨rfl, fun i hi => absurd hi (Nat.not_lt_zero i)⟩, ⟨rfl, fun i hi => absurd hi (Nat.not_lt_zero i)⟩, ⟨rfl, fun i hi => absurd hi (Nat.not_lt_zero i)⟩⟩, gs0⟩, ⟨rfl, rfl, fun h => by cases h⟩, ⟨0, by decide, rfl, rfl, fun j hj => absurd hj (Nat.not_lt_zero j)⟩, tp0, lt0, rfl⟩
