/-! how many blocks there would be; the reference maps -/
theorem cu_fed_ex {μ : ma_M} (x : Nat) : (∃ r : Nat, (r : Int) < μ 3 0 10 ∧ μ 4 0 r = 114 ∧ μ 7 0 r = x) ↔ cu_fed μ x :=
  ⟨fun ⟨r, a, b, c⟩ => ⟨r, by omega, a, b, c⟩, fun ⟨i, a, b, c, e⟩ => ⟨i.toNat, by omega, by rw [show ((i.toNat : Nat) : Int) = i from by omega]; exact ⟨c, e⟩⟩⟩
