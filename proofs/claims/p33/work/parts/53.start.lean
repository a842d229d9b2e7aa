/-! what holds at the start -/
theorem st_A {av : Array Value} {s : State} {ty : FieldType} (hp : ty = .int ∨ ty = .boolean) (h : (Cond.arrayClass ty).before av s = true) : ∃ cA, ArrOfT s cA ty ∧ va_RA s cA ty := by
  obtain ⟨c, k, comp, h1, h2, h3⟩ := Cond.arrayClass_spec h
  refine ⟨c, fun n z => ⟨fun k h => (by cases h), k, h2, comp, h3⟩, ?_⟩
  rcases hp with rfl | rfl <;> exact h1
theorem st_AA {av : Array Value} {s : State} {ty : FieldType} (h : (Cond.arrayOver (.array ty)).before av s = true) : ∃ cA, ArrOfT s cA (.array ty) ∧ va_RA s cA (.array ty) := by
  obtain ⟨comp, c, k, h1, -, h3, h4, h5⟩ := arrayOverA_spec h
  exact ⟨c, fun n z => ⟨fun k h => (by cases h), k, h3, comp, h4⟩, h5⟩
theorem st_K {av : Array Value} {s : State} (hts : ∀ w ∈ bw, w.before av s = true) (h1 : (Cond.arrayOver (.array .boolean)).before av s = true) (h2 : (Cond.arrayOver (.array .int)).before av s = true) : ∃ (dC : Nat → ClassId) (dI : Nat → Nat → Nat) (cI cZ cS cW : ClassId), va_K (dC, dI) vwCl (tyL cI cZ cS cW) s := by
  obtain ⟨c0, i0, k0⟩ := u_known (C := RX0) (T := TX0) (N := 2) hts inX0 (hts _ q_is_X0)
  obtain ⟨c1, i1, k1⟩ := u_known (C := RX1) (T := TX1) (N := 10) hts inX1 (hts _ q_is_X1)
  obtain ⟨c2, i2, k2⟩ := u_known (C := RX2) (T := TX2) (N := 8) hts inX2 (hts _ q_is_X2)
  obtain ⟨cI, a1, a2⟩ := st_A (.inl rfl) (hts _ q_ac_int)
  obtain ⟨cZ, b1, b2⟩ := st_A (.inr rfl) (hts _ q_ac_boolean)
  obtain ⟨cS, d1, d2⟩ := st_AA h1
  obtain ⟨cW, e1, e2⟩ := st_AA h2
  refine ⟨fun c => if c = 0 then c0 else if c = 1 then c1 else c2, fun c => if c = 0 then i0 else if c = 1 then i1 else i2, cI, cZ, cS, cW, fun c q hq => ?_, fun k q hk => ?_⟩
  · rcases (show c = 0 ∨ c = 1 ∨ c = 2 ∨ 3 ≤ c by omega) with rfl | rfl | rfl | h
    · cases hq; exact k0
    · cases hq; exact k1
    · cases hq; exact k2
    · rw [List.getElem?_eq_none (by show 3 ≤ c; exact h)] at hq; cases hq
  · rcases (show k = 0 ∨ k = 1 ∨ k = 2 ∨ k = 3 ∨ 4 ≤ k by omega) with rfl | rfl | rfl | rfl | h
    · cases hk; exact ⟨a1, a2⟩
    · cases hk; exact ⟨b1, b2⟩
    · cases hk; exact ⟨d1, d2⟩
    · cases hk; exact ⟨e1, e2⟩
    · rw [List.getElem?_eq_none (by show 4 ≤ k; exact h)] at hk; cases hk
