theorem st_A {av : Array Value} {s : State} {ty : FieldType} (hp : ty = .int ∨ ty = .boolean ∨ ty = .long) (h : (Cond.arrayClass ty).before av s = true) : ∃ cA, ArrOfT s cA ty ∧ va_RA s cA ty := by
  obtain ⟨c, k, comp, h1, h2, h3⟩ := Cond.arrayClass_spec h
  refine ⟨c, fun n z => ⟨fun k h => (by cases h), k, h2, comp, h3⟩, ?_⟩
  rcases hp with rfl | rfl | rfl <;> exact h1
theorem st_K {av : Array Value} {s : State} (hts : ∀ w ∈ bw, w.before av s = true) : ∃ (dC : Nat → ClassId) (dI : Nat → Nat → Nat) (cI cZ cJ : ClassId), va_K (dC, dI) vwCl (tyL cI cZ cJ) s := by
  obtain ⟨c0, i0, k0⟩ := u_known (C := RX0) (T := TX0) (N := 2) hts inX0 (hts _ q_is_X0)
  obtain ⟨c1, i1, k1⟩ := u_known (C := RX1) (T := TX1) (N := 10) hts inX1 (hts _ q_is_X1)
  obtain ⟨c2, i2, k2⟩ := u_known (C := RX2) (T := TX2) (N := 11) hts inX2 (hts _ q_is_X2)
  obtain ⟨cI, a1, a2⟩ := st_A (.inl rfl) (hts _ q_ac_int)
  obtain ⟨cZ, b1, b2⟩ := st_A (.inr (.inl rfl)) (hts _ q_ac_boolean)
  obtain ⟨cJ, d1, d2⟩ := st_A (.inr (.inr rfl)) (hts _ q_ac_long)
  refine ⟨fun c => if c = 0 then c0 else if c = 1 then c1 else c2, fun c => if c = 0 then i0 else if c = 1 then i1 else i2, cI, cZ, cJ, fun c q hq => ?_, fun k q hk => ?_⟩
  · rcases (show c = 0 ∨ c = 1 ∨ c = 2 ∨ 3 ≤ c by omega) with rfl | rfl | rfl | h
    · cases hq; exact k0
    · cases hq; exact k1
    · cases hq; exact k2
    · rw [List.getElem?_eq_none (by show 3 ≤ c; exact h)] at hq; cases hq
  · rcases (show k = 0 ∨ k = 1 ∨ k = 2 ∨ 3 ≤ k by omega) with rfl | rfl | rfl | h
    · cases hk; exact ⟨a1, a2⟩
    · cases hk; exact ⟨b1, b2⟩
    · cases hk; exact ⟨d1, d2⟩
    · rw [List.getElem?_eq_none (by show 3 ≤ k; exact h)] at hk; cases hk
theorem st_pw {av : Array Value} {s : State} (hts0 : ∀ w ∈ lw_tbl, w.before av s = true) (hgv : (Jvm.Cond.and given_1 narrow_1).before av s = true) {A : Nat → Prop} (hA : ∀ a : Nat, a < s.heap.size → ¬ A a) : pwOK A s s.heap := by
  have hs := flat_of_before _ hgv
  have harr := hs (Cond.arrayOf (.static "BorrowedHatsModel" "POWER" "[I") .int) (by decide +kernel)
  have hlen := va_eqt (hs (Cond.eq (.length (.static "BorrowedHatsModel" "POWER" "[I")) (.int 6)) (by decide +kernel))
  obtain ⟨t, ht, hT⟩ := va_Tof (N := 6) (f := pwF) (A := A) (by decide) harr hlen (fun j hj => by
    rcases (show j = 0 ∨ j = 1 ∨ j = 2 ∨ j = 3 ∨ j = 4 ∨ j = 5 by omega) with rfl | rfl | rfl | rfl | rfl | rfl
    · exact va_eqt (hs (Cond.eq (.elem (.static "BorrowedHatsModel" "POWER" "[I") (.int 0)) (.int 1)) (by decide +kernel))
    · exact va_eqt (hs (Cond.eq (.elem (.static "BorrowedHatsModel" "POWER" "[I") (.int 1)) (.int 3)) (by decide +kernel))
    · exact va_eqt (hs (Cond.eq (.elem (.static "BorrowedHatsModel" "POWER" "[I") (.int 2)) (.int 9)) (by decide +kernel))
    · exact va_eqt (hs (Cond.eq (.elem (.static "BorrowedHatsModel" "POWER" "[I") (.int 3)) (.int 27)) (by decide +kernel))
    · exact va_eqt (hs (Cond.eq (.elem (.static "BorrowedHatsModel" "POWER" "[I") (.int 4)) (.int 81)) (by decide +kernel))
    · exact va_eqt (hs (Cond.eq (.elem (.static "BorrowedHatsModel" "POWER" "[I") (.int 5)) (.int 243)) (by decide +kernel))) hA
  exact ⟨t, va_Zof (hts0 (.laysStatic "BorrowedHatsModel" "POWER" "[I") (by decide +kernel)) (hts0 (.initialized "BorrowedHatsModel") (by decide +kernel)) ht hA, hT⟩
theorem st_str {av : Array Value} {s : State} {own tx : String} {k : Nat} (h : (Cond.stringRef own k tx).before av s = true) : ∃ sa, vk_R own k tx sa s := by
  have hcur : ∃ cur, s.vm.findClass own = some cur := by
    have h1 := h
    simp only [Cond.before, Cond.holds, Cond.value] at h1
    cases hc : s.vm.findClass own with
    | none => simp [hc] at h1
    | some cur => exact ⟨cur, rfl⟩
  obtain ⟨cur, hcur⟩ := hcur
  have h0 : (Cond.stringRef own k tx).before #[] s = true := by
    first
      | exact va_tabs rfl rfl h
      | (simp only [Cond.before, Cond.holds, Cond.value] at h ⊢; exact h)
  obtain ⟨-, -, -, a, -, -, -, -, -, h2⟩ := Cond.stringRef_spec hcur h0
  exact ⟨a, vk_R.of h0 h2⟩
theorem st_ex {av : Array Value} {s : State} (hts0 : ∀ w ∈ lw_tbl, w.before av s = true) (hgv : (Jvm.Cond.and given_1 narrow_1).before av s = true) {A : Nat → Prop} (hA : ∀ a : Nat, a < s.heap.size → ¬ A a) : exOK A s s.heap := by
  have hs := flat_of_before _ hgv
  refine ⟨vx_Zqof (hts0 _ (by decide +kernel)) (hts0 _ (by decide +kernel)) (hs _ (by decide +kernel)) hA, vx_Zqof (hts0 _ (by decide +kernel)) (hts0 _ (by decide +kernel)) (hs _ (by decide +kernel)) hA, fun q hq => ?_, fun E hE => ?_, fun w hw => va_Nw.of (xDec_on w hw) (hts0 w ?_)⟩
  · simp only [xStr, List.mem_cons, List.not_mem_nil, or_false] at hq
    rcases hq with rfl | rfl | rfl | rfl | rfl | rfl | rfl <;> exact st_str (hts0 _ (by decide +kernel))
  · simp only [xEx, List.mem_cons, List.not_mem_nil, or_false] at hE
    rcases hE with rfl | rfl | rfl <;> exact va_Nw.of rfl (hts0 _ (by decide +kernel))
  · have h : ∀ w ∈ xDec, w ∈ lw_tbl := by decide +kernel
    exact h w hw
theorem st_nc {av : Array Value} {s : State} (hgv : (Jvm.Cond.and given_1 narrow_1).before av s = true) : ncOK s := by
  have hs := flat_of_before _ hgv
  intro E hE F hF hne
  simp only [xEx, List.mem_cons, List.not_mem_nil, or_false] at hE hF
  rcases hE with rfl | rfl | rfl <;> rcases hF with rfl | rfl | rfl <;> first | exact absurd rfl hne | exact va_Nc.of (hs _ (by decide +kernel))
