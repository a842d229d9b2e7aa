section
variable {l : Launch} {dC : Nat → ClassId} {dI : Nat → Nat → Nat} {cI cZ cJ : ClassId}

set_option maxHeartbeats 4000000 in
set_option maxRecDepth 100000 in
theorem m_X0_init (h1 : Nat) (sz : Nat) : Gv l yX0_init ws_X0_init 1 20 1 243 sz (dC, dI) (tyL cI cZ cJ) [.ref h1] ([(h1, .inr (0, [.null, .int 0]))]) (fun u => ∃ h5, u = [(h1, .inr (0, [.ref h5, .int (nI 0)])), (h5, .inl (cI, 243, .inl (fun k => nI ((fun _ => 0) k))))]) := by
  refine Gv_of (by decide +kernel) (Nat.le_of_ble_eq_true rfl) ?_
  intro pr ev sx mi ag bl me cd Q ls A S hP hK hD hA hZ hNw hl hin ret
  obtain ⟨hx, hb, hml, hown, hts⟩ := id S
  have hown : sx.vm.findClass RX0 = some mi.cls := hown
  have hS : va_S A sx.heap sx.heap [] := va_S.rf
  have hl : lv_has ls 1 [(0, .ref h1)] := hl
  refine lv_aload_n hx hb dX0_init_0 rfl (lv_at hl 0 rfl) ?_
  refine W.objInit hx hb hown (hts _ q_oi_X0) (hts _ q_oi_im) (hts _ q_oi_c) rfl (by rw [hml]; exact hl.1) rfl dX0_init_1 (Nat.le_of_ble_eq_true rfl) (Nat.le_of_ble_eq_true rfl) ?_
  refine W.eq (g2 := F0 mi 4 ls []) rfl ?_
  refine lv_aload_n hx hb dX0_init_4 rfl (lv_at hl 0 rfl) ?_
  refine lv_sipush (v := nI 243) hx hb dX0_init_5 (by decide) ?_
  refine my_newa (atype := .int) (ty := .int) (cI := cI) (a0 := (243, .inl (fun k => nI ((fun _ => 0) k)))) (N' := 243) hx hb (hts _ q_ac_int) rfl hK 0 rfl hP hD hS hA (fun _ => rfl) (nI_pos (by omega)) (nI_clamp (by omega)) (Nat.le_of_ble_eq_true rfl) (by show _ ≤ 1; omega) (by show _ ≤ 243; omega) dX0_init_8 (by simp) (fun q8 H hP hD hS => ?_)
  have hP : va_P (dC, dI) vwCl ([(h1, .inr (0, [.null, .int 0])), (q8, .inl (cI, 243, .inl (fun k => nI ((fun _ => 0) k))))]) H := hP
  have hD : va_D A ([(h1, .inr (0, [.null, .int 0])), (q8, .inl (cI, 243, .inl (fun k => nI ((fun _ => 0) k))))]) := hD
  refine va_putF (D := (dC, dI)) (ci := 0) (v := .ref q8) (ty := .array .int) (C := RX0) (T := TX0) (N := 2) hx hb hts inX0 tyX0 tyX0_ok nmX0 hown hK hP hD hS 0 rfl rfl 0 (by decide) (hts _ q_fl_X0_9) (fun _ h9 => h9) rfl hin rfl (by decide +kernel) rfl rfl (Nat.le_of_ble_eq_true rfl) dX0_init_10 (fun H locs hP hD hS => ?_)
  have hP : va_P (dC, dI) vwCl ([(h1, .inr (0, [.ref q8, .int 0])), (q8, .inl (cI, 243, .inl (fun k => nI ((fun _ => 0) k))))]) H := hP
  have hD : va_D A ([(h1, .inr (0, [.ref q8, .int 0])), (q8, .inl (cI, 243, .inl (fun k => nI ((fun _ => 0) k))))]) := hD
  refine lv_aload_n hx hb dX0_init_13 rfl (lv_at hl 0 rfl) ?_
  refine lv_iconst (v := nI 0) hx hb dX0_init_14 (by decide) ?_
  refine va_put (D := (dC, dI)) (ci := 0) (v := .int (nI 0)) (ty := .int) (C := RX0) (T := TX0) (N := 2) hx hb hts inX0 tyX0 tyX0_ok nmX0 hown hK hP hD hS 0 rfl rfl 1 (by decide) (hts _ q_fl_X0_15) (fun _ h9 => h9) rfl (by decide +kernel) rfl rfl (Nat.le_of_ble_eq_true rfl) dX0_init_15 (fun H locs hP hD hS => ?_)
  have hP : va_P (dC, dI) vwCl ([(h1, .inr (0, [.ref q8, .int (nI 0)])), (q8, .inl (cI, 243, .inl (fun k => nI ((fun _ => 0) k))))]) H := hP
  have hD : va_D A ([(h1, .inr (0, [.ref q8, .int (nI 0)])), (q8, .inl (cI, 243, .inl (fun k => nI ((fun _ => 0) k))))]) := hD
  refine W.widen (k := 1) (n := 243) (by omega) (by omega) ?_
  exact ret ([(h1, .inr (0, [.ref q8, .int (nI 0)])), (q8, .inl (cI, 243, .inl (fun k => nI ((fun _ => 0) k))))]) _ _ _ _ dX0_init_18 ⟨_, rfl⟩ hP hD hS

set_option maxHeartbeats 4000000 in
set_option maxRecDepth 100000 in
theorem m_X1_init (h0 : Nat) (sz : Nat) : Gv l yX1_init ws_X1_init 2 40 6 1519 sz (dC, dI) (tyL cI cZ cJ) [.ref h0] ([(h0, .inr (1, [.null, .null, .null, .null, .int 0, .int 0, .int 0, .int 0, .int 0, .int 0]))]) (fun u => ∃ h1 h2 h3 h4 h5 h6, u = gW cI h0 h1 h2 h3 h4 h5 h6 h1 h2 0 0 0 0 0 false 1 0 (fun _ => 0) (fun _ => 0) (upN (fun _ => 0) 0 0) (fun _ => 0)) := by
  refine Gv_of (by decide +kernel) (Nat.le_of_ble_eq_true rfl) ?_
  intro pr ev sx mi ag bl me cd Q ls A S hP hK hD hA hZ hNw hl hin ret
  obtain ⟨hx, hb, hml, hown, hts⟩ := id S
  have hown : sx.vm.findClass RX1 = some mi.cls := hown
  have hS : va_S A sx.heap sx.heap [] := va_S.rf
  have hl : lv_has ls 1 [(0, .ref h0)] := hl
  refine lv_aload_n hx hb dX1_init_0 rfl (lv_at hl 0 rfl) ?_
  refine W.objInit hx hb hown (hts _ q_oi_X1) (hts _ q_oi_im) (hts _ q_oi_c) rfl (by rw [hml]; exact hl.1) rfl dX1_init_1 (Nat.le_of_ble_eq_true rfl) (Nat.le_of_ble_eq_true rfl) ?_
  refine W.eq (g2 := F0 mi 4 ls []) rfl ?_
  refine lv_aload_n hx hb dX1_init_4 rfl (lv_at hl 0 rfl) ?_
  refine va_new (ci := 0) (fs := [.null, .int 0]) (C := RX0) (T := TX0) (N := 2) hx hb hts inX0 tyX0 tyX0_ok hown (hts _ q_cl_X1_7) (hts _ q_is_X0) (hts _ q_in_X0) hK hP hD hS hA rfl (fun j hj => by rcases (show j = 0 ∨ j = 1 by omega) with rfl | rfl <;> rfl) (by show _ ≤ 6; omega) (by show _ ≤ 1519; omega) dX1_init_5 (fun q5 H hP hD hS => ?_)
  have hP : va_P (dC, dI) vwCl ([(h0, .inr (1, [.null, .null, .null, .null, .int 0, .int 0, .int 0, .int 0, .int 0, .int 0])), (q5, .inr (0, [.null, .int 0]))]) H := hP
  have hD : va_D A ([(h0, .inr (1, [.null, .null, .null, .null, .int 0, .int 0, .int 0, .int 0, .int 0, .int 0])), (q5, .inr (0, [.null, .int 0]))]) := hD
  refine lv_dup hx hb dX1_init_8 rfl ?_
  refine call_GN (host := RX1) (As := []) (rest := [.ref q5, .ref h0]) (wr := [(h0, .inr (1, [.null, .null, .null, .null, .int 0, .int 0, .int 0, .int 0, .int 0, .int 0]))]) S (m_X0_init q5 H.size) (bw_c q_c_X0_init) hNw q_in_X0 q_im_X0_init rfl ⟨by decide +kernel, by decide +kernel, by decide +kernel⟩ ⟨Nat.le_of_ble_eq_true rfl, Nat.le_of_ble_eq_true rfl⟩ ⟨by show _ ≤ 6; omega, by show _ ≤ 1519; omega⟩ hP hD hK hS hA hZ hNw [1] [0] rfl rfl (by decide) (by decide) (by decide) hl.1 rfl (Nat.le_of_ble_eq_true rfl) dX1_init_9 (fun u H locs hq hP hD hS => ?_)
  obtain ⟨hh9, rfl⟩ := hq
  have hP : va_P (dC, dI) vwCl ([(h0, .inr (1, [.null, .null, .null, .null, .int 0, .int 0, .int 0, .int 0, .int 0, .int 0])), (q5, .inr (0, [.ref hh9, .int (nI 0)])), (hh9, .inl (cI, 243, .inl (fun k => nI ((fun _ => 0) k))))]) H := hP
  have hD : va_D A ([(h0, .inr (1, [.null, .null, .null, .null, .int 0, .int 0, .int 0, .int 0, .int 0, .int 0])), (q5, .inr (0, [.ref hh9, .int (nI 0)])), (hh9, .inl (cI, 243, .inl (fun k => nI ((fun _ => 0) k))))]) := hD
  refine va_putF (D := (dC, dI)) (ci := 1) (v := .ref q5) (ty := .object "BorrowedHats$Ways") (C := RX1) (T := TX1) (N := 10) hx hb hts inX1 tyX1 tyX1_ok nmX1 hown hK hP hD hS 0 rfl rfl 0 (by decide) (hts _ q_fl_X1_10) (fun _ h9 => h9) rfl hin rfl (by decide +kernel) rfl rfl (Nat.le_of_ble_eq_true rfl) dX1_init_12 (fun H locs hP hD hS => ?_)
  have hP : va_P (dC, dI) vwCl ([(h0, .inr (1, [.ref q5, .null, .null, .null, .int 0, .int 0, .int 0, .int 0, .int 0, .int 0])), (q5, .inr (0, [.ref hh9, .int (nI 0)])), (hh9, .inl (cI, 243, .inl (fun k => nI ((fun _ => 0) k))))]) H := hP
  have hD : va_D A ([(h0, .inr (1, [.ref q5, .null, .null, .null, .int 0, .int 0, .int 0, .int 0, .int 0, .int 0])), (q5, .inr (0, [.ref hh9, .int (nI 0)])), (hh9, .inl (cI, 243, .inl (fun k => nI ((fun _ => 0) k))))]) := hD
  refine lv_aload_n hx hb dX1_init_15 rfl (lv_at hl 0 rfl) ?_
  refine va_new (ci := 0) (fs := [.null, .int 0]) (C := RX0) (T := TX0) (N := 2) hx hb hts inX0 tyX0 tyX0_ok hown (hts _ q_cl_X1_7) (hts _ q_is_X0) (hts _ q_in_X0) hK hP hD hS hA rfl (fun j hj => by rcases (show j = 0 ∨ j = 1 by omega) with rfl | rfl <;> rfl) (by show _ ≤ 6; omega) (by show _ ≤ 1519; omega) dX1_init_16 (fun q16 H hP hD hS => ?_)
  have hP : va_P (dC, dI) vwCl ([(h0, .inr (1, [.ref q5, .null, .null, .null, .int 0, .int 0, .int 0, .int 0, .int 0, .int 0])), (q5, .inr (0, [.ref hh9, .int (nI 0)])), (hh9, .inl (cI, 243, .inl (fun k => nI ((fun _ => 0) k)))), (q16, .inr (0, [.null, .int 0]))]) H := hP
  have hD : va_D A ([(h0, .inr (1, [.ref q5, .null, .null, .null, .int 0, .int 0, .int 0, .int 0, .int 0, .int 0])), (q5, .inr (0, [.ref hh9, .int (nI 0)])), (hh9, .inl (cI, 243, .inl (fun k => nI ((fun _ => 0) k)))), (q16, .inr (0, [.null, .int 0]))]) := hD
  refine lv_dup hx hb dX1_init_19 rfl ?_
  refine call_GN (host := RX1) (As := []) (rest := [.ref q16, .ref h0]) (wr := [(h0, .inr (1, [.ref q5, .null, .null, .null, .int 0, .int 0, .int 0, .int 0, .int 0, .int 0])), (q5, .inr (0, [.ref hh9, .int (nI 0)])), (hh9, .inl (cI, 243, .inl (fun k => nI ((fun _ => 0) k))))]) S (m_X0_init q16 H.size) (bw_c q_c_X0_init) hNw q_in_X0 q_im_X0_init rfl ⟨by decide +kernel, by decide +kernel, by decide +kernel⟩ ⟨Nat.le_of_ble_eq_true rfl, Nat.le_of_ble_eq_true rfl⟩ ⟨by show _ ≤ 6; omega, by show _ ≤ 1519; omega⟩ hP hD hK hS hA hZ hNw [3] [0, 1, 2] rfl rfl (by decide) (by decide) (by decide) hl.1 rfl (Nat.le_of_ble_eq_true rfl) dX1_init_20 (fun u H locs hq hP hD hS => ?_)
  obtain ⟨hh20, rfl⟩ := hq
  have hP : va_P (dC, dI) vwCl ([(h0, .inr (1, [.ref q5, .null, .null, .null, .int 0, .int 0, .int 0, .int 0, .int 0, .int 0])), (q5, .inr (0, [.ref hh9, .int (nI 0)])), (hh9, .inl (cI, 243, .inl (fun k => nI ((fun _ => 0) k)))), (q16, .inr (0, [.ref hh20, .int (nI 0)])), (hh20, .inl (cI, 243, .inl (fun k => nI ((fun _ => 0) k))))]) H := hP
  have hD : va_D A ([(h0, .inr (1, [.ref q5, .null, .null, .null, .int 0, .int 0, .int 0, .int 0, .int 0, .int 0])), (q5, .inr (0, [.ref hh9, .int (nI 0)])), (hh9, .inl (cI, 243, .inl (fun k => nI ((fun _ => 0) k)))), (q16, .inr (0, [.ref hh20, .int (nI 0)])), (hh20, .inl (cI, 243, .inl (fun k => nI ((fun _ => 0) k))))]) := hD
  refine va_putF (D := (dC, dI)) (ci := 1) (v := .ref q16) (ty := .object "BorrowedHats$Ways") (C := RX1) (T := TX1) (N := 10) hx hb hts inX1 tyX1 tyX1_ok nmX1 hown hK hP hD hS 0 rfl rfl 1 (by decide) (hts _ q_fl_X1_16) (fun _ h9 => h9) rfl hin rfl (by decide +kernel) rfl rfl (Nat.le_of_ble_eq_true rfl) dX1_init_23 (fun H locs hP hD hS => ?_)
  have hP : va_P (dC, dI) vwCl ([(h0, .inr (1, [.ref q5, .ref q16, .null, .null, .int 0, .int 0, .int 0, .int 0, .int 0, .int 0])), (q5, .inr (0, [.ref hh9, .int (nI 0)])), (hh9, .inl (cI, 243, .inl (fun k => nI ((fun _ => 0) k)))), (q16, .inr (0, [.ref hh20, .int (nI 0)])), (hh20, .inl (cI, 243, .inl (fun k => nI ((fun _ => 0) k))))]) H := hP
  have hD : va_D A ([(h0, .inr (1, [.ref q5, .ref q16, .null, .null, .int 0, .int 0, .int 0, .int 0, .int 0, .int 0])), (q5, .inr (0, [.ref hh9, .int (nI 0)])), (hh9, .inl (cI, 243, .inl (fun k => nI ((fun _ => 0) k)))), (q16, .inr (0, [.ref hh20, .int (nI 0)])), (hh20, .inl (cI, 243, .inl (fun k => nI ((fun _ => 0) k))))]) := hD
  refine lv_aload_n hx hb dX1_init_26 rfl (lv_at hl 0 rfl) ?_
  refine lv_iconst (v := nI 5) hx hb dX1_init_27 (by decide) ?_
  refine my_newa (atype := .int) (ty := .int) (cI := cI) (a0 := (5, .inl (fun k => nI ((fun _ => 0) k)))) (N' := 5) hx hb (hts _ q_ac_int) rfl hK 0 rfl hP hD hS hA (fun _ => rfl) (nI_pos (by omega)) (nI_clamp (by omega)) (Nat.le_of_ble_eq_true rfl) (by show _ ≤ 6; omega) (by show _ ≤ 1519; omega) dX1_init_28 (by simp) (fun q28 H hP hD hS => ?_)
  have hP : va_P (dC, dI) vwCl ([(h0, .inr (1, [.ref q5, .ref q16, .null, .null, .int 0, .int 0, .int 0, .int 0, .int 0, .int 0])), (q5, .inr (0, [.ref hh9, .int (nI 0)])), (hh9, .inl (cI, 243, .inl (fun k => nI ((fun _ => 0) k)))), (q16, .inr (0, [.ref hh20, .int (nI 0)])), (hh20, .inl (cI, 243, .inl (fun k => nI ((fun _ => 0) k)))), (q28, .inl (cI, 5, .inl (fun k => nI ((fun _ => 0) k))))]) H := hP
  have hD : va_D A ([(h0, .inr (1, [.ref q5, .ref q16, .null, .null, .int 0, .int 0, .int 0, .int 0, .int 0, .int 0])), (q5, .inr (0, [.ref hh9, .int (nI 0)])), (hh9, .inl (cI, 243, .inl (fun k => nI ((fun _ => 0) k)))), (q16, .inr (0, [.ref hh20, .int (nI 0)])), (hh20, .inl (cI, 243, .inl (fun k => nI ((fun _ => 0) k)))), (q28, .inl (cI, 5, .inl (fun k => nI ((fun _ => 0) k))))]) := hD
  refine va_putF (D := (dC, dI)) (ci := 1) (v := .ref q28) (ty := .array .int) (C := RX1) (T := TX1) (N := 10) hx hb hts inX1 tyX1 tyX1_ok nmX1 hown hK hP hD hS 0 rfl rfl 2 (by decide) (hts _ q_fl_X1_19) (fun _ h9 => h9) rfl hin rfl (by decide +kernel) rfl rfl (Nat.le_of_ble_eq_true rfl) dX1_init_30 (fun H locs hP hD hS => ?_)
  have hP : va_P (dC, dI) vwCl ([(h0, .inr (1, [.ref q5, .ref q16, .ref q28, .null, .int 0, .int 0, .int 0, .int 0, .int 0, .int 0])), (q5, .inr (0, [.ref hh9, .int (nI 0)])), (hh9, .inl (cI, 243, .inl (fun k => nI ((fun _ => 0) k)))), (q16, .inr (0, [.ref hh20, .int (nI 0)])), (hh20, .inl (cI, 243, .inl (fun k => nI ((fun _ => 0) k)))), (q28, .inl (cI, 5, .inl (fun k => nI ((fun _ => 0) k))))]) H := hP
  have hD : va_D A ([(h0, .inr (1, [.ref q5, .ref q16, .ref q28, .null, .int 0, .int 0, .int 0, .int 0, .int 0, .int 0])), (q5, .inr (0, [.ref hh9, .int (nI 0)])), (hh9, .inl (cI, 243, .inl (fun k => nI ((fun _ => 0) k)))), (q16, .inr (0, [.ref hh20, .int (nI 0)])), (hh20, .inl (cI, 243, .inl (fun k => nI ((fun _ => 0) k)))), (q28, .inl (cI, 5, .inl (fun k => nI ((fun _ => 0) k))))]) := hD
  refine lv_aload_n hx hb dX1_init_33 rfl (lv_at hl 0 rfl) ?_
  refine lv_sipush (v := nI 1024) hx hb dX1_init_34 (by decide) ?_
  refine my_newa (atype := .int) (ty := .int) (cI := cI) (a0 := (1024, .inl (fun k => nI ((fun _ => 0) k)))) (N' := 1024) hx hb (hts _ q_ac_int) rfl hK 0 rfl hP hD hS hA (fun _ => rfl) (nI_pos (by omega)) (nI_clamp (by omega)) (Nat.le_of_ble_eq_true rfl) (by show _ ≤ 6; omega) (by show _ ≤ 1519; omega) dX1_init_37 (by simp) (fun q37 H hP hD hS => ?_)
  have hP : va_P (dC, dI) vwCl ([(h0, .inr (1, [.ref q5, .ref q16, .ref q28, .null, .int 0, .int 0, .int 0, .int 0, .int 0, .int 0])), (q5, .inr (0, [.ref hh9, .int (nI 0)])), (hh9, .inl (cI, 243, .inl (fun k => nI ((fun _ => 0) k)))), (q16, .inr (0, [.ref hh20, .int (nI 0)])), (hh20, .inl (cI, 243, .inl (fun k => nI ((fun _ => 0) k)))), (q28, .inl (cI, 5, .inl (fun k => nI ((fun _ => 0) k)))), (q37, .inl (cI, 1024, .inl (fun k => nI ((fun _ => 0) k))))]) H := hP
  have hD : va_D A ([(h0, .inr (1, [.ref q5, .ref q16, .ref q28, .null, .int 0, .int 0, .int 0, .int 0, .int 0, .int 0])), (q5, .inr (0, [.ref hh9, .int (nI 0)])), (hh9, .inl (cI, 243, .inl (fun k => nI ((fun _ => 0) k)))), (q16, .inr (0, [.ref hh20, .int (nI 0)])), (hh20, .inl (cI, 243, .inl (fun k => nI ((fun _ => 0) k)))), (q28, .inl (cI, 5, .inl (fun k => nI ((fun _ => 0) k)))), (q37, .inl (cI, 1024, .inl (fun k => nI ((fun _ => 0) k))))]) := hD
  refine va_putF (D := (dC, dI)) (ci := 1) (v := .ref q37) (ty := .array .int) (C := RX1) (T := TX1) (N := 10) hx hb hts inX1 tyX1 tyX1_ok nmX1 hown hK hP hD hS 0 rfl rfl 3 (by decide) (hts _ q_fl_X1_23) (fun _ h9 => h9) rfl hin rfl (by decide +kernel) rfl rfl (Nat.le_of_ble_eq_true rfl) dX1_init_39 (fun H locs hP hD hS => ?_)
  have hP : va_P (dC, dI) vwCl ([(h0, .inr (1, [.ref q5, .ref q16, .ref q28, .ref q37, .int 0, .int 0, .int 0, .int 0, .int 0, .int 0])), (q5, .inr (0, [.ref hh9, .int (nI 0)])), (hh9, .inl (cI, 243, .inl (fun k => nI ((fun _ => 0) k)))), (q16, .inr (0, [.ref hh20, .int (nI 0)])), (hh20, .inl (cI, 243, .inl (fun k => nI ((fun _ => 0) k)))), (q28, .inl (cI, 5, .inl (fun k => nI ((fun _ => 0) k)))), (q37, .inl (cI, 1024, .inl (fun k => nI ((fun _ => 0) k))))]) H := hP
  have hD : va_D A ([(h0, .inr (1, [.ref q5, .ref q16, .ref q28, .ref q37, .int 0, .int 0, .int 0, .int 0, .int 0, .int 0])), (q5, .inr (0, [.ref hh9, .int (nI 0)])), (hh9, .inl (cI, 243, .inl (fun k => nI ((fun _ => 0) k)))), (q16, .inr (0, [.ref hh20, .int (nI 0)])), (hh20, .inl (cI, 243, .inl (fun k => nI ((fun _ => 0) k)))), (q28, .inl (cI, 5, .inl (fun k => nI ((fun _ => 0) k)))), (q37, .inl (cI, 1024, .inl (fun k => nI ((fun _ => 0) k))))]) := hD
  refine lv_aload_n hx hb dX1_init_42 rfl (lv_at hl 0 rfl) ?_
  refine lv_iconst (v := nI 0) hx hb dX1_init_43 (by decide) ?_
  refine va_put (D := (dC, dI)) (ci := 1) (v := .int (nI 0)) (ty := .int) (C := RX1) (T := TX1) (N := 10) hx hb hts inX1 tyX1 tyX1_ok nmX1 hown hK hP hD hS 0 rfl rfl 4 (by decide) (hts _ q_fl_X1_26) (fun _ h9 => h9) rfl (by decide +kernel) rfl rfl (Nat.le_of_ble_eq_true rfl) dX1_init_44 (fun H locs hP hD hS => ?_)
  have hP : va_P (dC, dI) vwCl ([(h0, .inr (1, [.ref q5, .ref q16, .ref q28, .ref q37, .int (nI 0), .int 0, .int 0, .int 0, .int 0, .int 0])), (q5, .inr (0, [.ref hh9, .int (nI 0)])), (hh9, .inl (cI, 243, .inl (fun k => nI ((fun _ => 0) k)))), (q16, .inr (0, [.ref hh20, .int (nI 0)])), (hh20, .inl (cI, 243, .inl (fun k => nI ((fun _ => 0) k)))), (q28, .inl (cI, 5, .inl (fun k => nI ((fun _ => 0) k)))), (q37, .inl (cI, 1024, .inl (fun k => nI ((fun _ => 0) k))))]) H := hP
  have hD : va_D A ([(h0, .inr (1, [.ref q5, .ref q16, .ref q28, .ref q37, .int (nI 0), .int 0, .int 0, .int 0, .int 0, .int 0])), (q5, .inr (0, [.ref hh9, .int (nI 0)])), (hh9, .inl (cI, 243, .inl (fun k => nI ((fun _ => 0) k)))), (q16, .inr (0, [.ref hh20, .int (nI 0)])), (hh20, .inl (cI, 243, .inl (fun k => nI ((fun _ => 0) k)))), (q28, .inl (cI, 5, .inl (fun k => nI ((fun _ => 0) k)))), (q37, .inl (cI, 1024, .inl (fun k => nI ((fun _ => 0) k))))]) := hD
  refine lv_aload_n hx hb dX1_init_47 rfl (lv_at hl 0 rfl) ?_
  refine lv_iconst (v := nI 0) hx hb dX1_init_48 (by decide) ?_
  refine va_put (D := (dC, dI)) (ci := 1) (v := .int (nI 0)) (ty := .int) (C := RX1) (T := TX1) (N := 10) hx hb hts inX1 tyX1 tyX1_ok nmX1 hown hK hP hD hS 0 rfl rfl 5 (by decide) (hts _ q_fl_X1_30) (fun _ h9 => h9) rfl (by decide +kernel) rfl rfl (Nat.le_of_ble_eq_true rfl) dX1_init_49 (fun H locs hP hD hS => ?_)
  have hP : va_P (dC, dI) vwCl ([(h0, .inr (1, [.ref q5, .ref q16, .ref q28, .ref q37, .int (nI 0), .int (nI 0), .int 0, .int 0, .int 0, .int 0])), (q5, .inr (0, [.ref hh9, .int (nI 0)])), (hh9, .inl (cI, 243, .inl (fun k => nI ((fun _ => 0) k)))), (q16, .inr (0, [.ref hh20, .int (nI 0)])), (hh20, .inl (cI, 243, .inl (fun k => nI ((fun _ => 0) k)))), (q28, .inl (cI, 5, .inl (fun k => nI ((fun _ => 0) k)))), (q37, .inl (cI, 1024, .inl (fun k => nI ((fun _ => 0) k))))]) H := hP
  have hD : va_D A ([(h0, .inr (1, [.ref q5, .ref q16, .ref q28, .ref q37, .int (nI 0), .int (nI 0), .int 0, .int 0, .int 0, .int 0])), (q5, .inr (0, [.ref hh9, .int (nI 0)])), (hh9, .inl (cI, 243, .inl (fun k => nI ((fun _ => 0) k)))), (q16, .inr (0, [.ref hh20, .int (nI 0)])), (hh20, .inl (cI, 243, .inl (fun k => nI ((fun _ => 0) k)))), (q28, .inl (cI, 5, .inl (fun k => nI ((fun _ => 0) k)))), (q37, .inl (cI, 1024, .inl (fun k => nI ((fun _ => 0) k))))]) := hD
  refine lv_aload_n hx hb dX1_init_52 rfl (lv_at hl 0 rfl) ?_
  refine lv_iconst (v := nI 0) hx hb dX1_init_53 (by decide) ?_
  refine va_put (D := (dC, dI)) (ci := 1) (v := .int (nI 0)) (ty := .int) (C := RX1) (T := TX1) (N := 10) hx hb hts inX1 tyX1 tyX1_ok nmX1 hown hK hP hD hS 0 rfl rfl 6 (by decide) (hts _ q_fl_X1_33) (fun _ h9 => h9) rfl (by decide +kernel) rfl rfl (Nat.le_of_ble_eq_true rfl) dX1_init_54 (fun H locs hP hD hS => ?_)
  have hP : va_P (dC, dI) vwCl ([(h0, .inr (1, [.ref q5, .ref q16, .ref q28, .ref q37, .int (nI 0), .int (nI 0), .int (nI 0), .int 0, .int 0, .int 0])), (q5, .inr (0, [.ref hh9, .int (nI 0)])), (hh9, .inl (cI, 243, .inl (fun k => nI ((fun _ => 0) k)))), (q16, .inr (0, [.ref hh20, .int (nI 0)])), (hh20, .inl (cI, 243, .inl (fun k => nI ((fun _ => 0) k)))), (q28, .inl (cI, 5, .inl (fun k => nI ((fun _ => 0) k)))), (q37, .inl (cI, 1024, .inl (fun k => nI ((fun _ => 0) k))))]) H := hP
  have hD : va_D A ([(h0, .inr (1, [.ref q5, .ref q16, .ref q28, .ref q37, .int (nI 0), .int (nI 0), .int (nI 0), .int 0, .int 0, .int 0])), (q5, .inr (0, [.ref hh9, .int (nI 0)])), (hh9, .inl (cI, 243, .inl (fun k => nI ((fun _ => 0) k)))), (q16, .inr (0, [.ref hh20, .int (nI 0)])), (hh20, .inl (cI, 243, .inl (fun k => nI ((fun _ => 0) k)))), (q28, .inl (cI, 5, .inl (fun k => nI ((fun _ => 0) k)))), (q37, .inl (cI, 1024, .inl (fun k => nI ((fun _ => 0) k))))]) := hD
  refine lv_aload_n hx hb dX1_init_57 rfl (lv_at hl 0 rfl) ?_
  refine lv_iconst (v := nI 0) hx hb dX1_init_58 (by decide) ?_
  refine va_put (D := (dC, dI)) (ci := 1) (v := .int (nI 0)) (ty := .int) (C := RX1) (T := TX1) (N := 10) hx hb hts inX1 tyX1 tyX1_ok nmX1 hown hK hP hD hS 0 rfl rfl 7 (by decide) (hts _ q_fl_X1_36) (fun _ h9 => h9) rfl (by decide +kernel) rfl rfl (Nat.le_of_ble_eq_true rfl) dX1_init_59 (fun H locs hP hD hS => ?_)
  have hP : va_P (dC, dI) vwCl ([(h0, .inr (1, [.ref q5, .ref q16, .ref q28, .ref q37, .int (nI 0), .int (nI 0), .int (nI 0), .int (nI 0), .int 0, .int 0])), (q5, .inr (0, [.ref hh9, .int (nI 0)])), (hh9, .inl (cI, 243, .inl (fun k => nI ((fun _ => 0) k)))), (q16, .inr (0, [.ref hh20, .int (nI 0)])), (hh20, .inl (cI, 243, .inl (fun k => nI ((fun _ => 0) k)))), (q28, .inl (cI, 5, .inl (fun k => nI ((fun _ => 0) k)))), (q37, .inl (cI, 1024, .inl (fun k => nI ((fun _ => 0) k))))]) H := hP
  have hD : va_D A ([(h0, .inr (1, [.ref q5, .ref q16, .ref q28, .ref q37, .int (nI 0), .int (nI 0), .int (nI 0), .int (nI 0), .int 0, .int 0])), (q5, .inr (0, [.ref hh9, .int (nI 0)])), (hh9, .inl (cI, 243, .inl (fun k => nI ((fun _ => 0) k)))), (q16, .inr (0, [.ref hh20, .int (nI 0)])), (hh20, .inl (cI, 243, .inl (fun k => nI ((fun _ => 0) k)))), (q28, .inl (cI, 5, .inl (fun k => nI ((fun _ => 0) k)))), (q37, .inl (cI, 1024, .inl (fun k => nI ((fun _ => 0) k))))]) := hD
  refine lv_aload_n hx hb dX1_init_62 rfl (lv_at hl 0 rfl) ?_
  refine lv_iconst (v := nI 0) hx hb dX1_init_63 (by decide) ?_
  refine va_put (D := (dC, dI)) (ci := 1) (v := .int (nI 0)) (ty := .int) (C := RX1) (T := TX1) (N := 10) hx hb hts inX1 tyX1 tyX1_ok nmX1 hown hK hP hD hS 0 rfl rfl 8 (by decide) (hts _ q_fl_X1_39) (fun _ h9 => h9) rfl (by decide +kernel) rfl rfl (Nat.le_of_ble_eq_true rfl) dX1_init_64 (fun H locs hP hD hS => ?_)
  have hP : va_P (dC, dI) vwCl ([(h0, .inr (1, [.ref q5, .ref q16, .ref q28, .ref q37, .int (nI 0), .int (nI 0), .int (nI 0), .int (nI 0), .int (nI 0), .int 0])), (q5, .inr (0, [.ref hh9, .int (nI 0)])), (hh9, .inl (cI, 243, .inl (fun k => nI ((fun _ => 0) k)))), (q16, .inr (0, [.ref hh20, .int (nI 0)])), (hh20, .inl (cI, 243, .inl (fun k => nI ((fun _ => 0) k)))), (q28, .inl (cI, 5, .inl (fun k => nI ((fun _ => 0) k)))), (q37, .inl (cI, 1024, .inl (fun k => nI ((fun _ => 0) k))))]) H := hP
  have hD : va_D A ([(h0, .inr (1, [.ref q5, .ref q16, .ref q28, .ref q37, .int (nI 0), .int (nI 0), .int (nI 0), .int (nI 0), .int (nI 0), .int 0])), (q5, .inr (0, [.ref hh9, .int (nI 0)])), (hh9, .inl (cI, 243, .inl (fun k => nI ((fun _ => 0) k)))), (q16, .inr (0, [.ref hh20, .int (nI 0)])), (hh20, .inl (cI, 243, .inl (fun k => nI ((fun _ => 0) k)))), (q28, .inl (cI, 5, .inl (fun k => nI ((fun _ => 0) k)))), (q37, .inl (cI, 1024, .inl (fun k => nI ((fun _ => 0) k))))]) := hD
  refine lv_aload_n hx hb dX1_init_67 rfl (lv_at hl 0 rfl) ?_
  refine lv_iconst (v := nI 0) hx hb dX1_init_68 (by decide) ?_
  refine W_i (y := bI false) rfl ?_
  refine va_put (D := (dC, dI)) (ci := 1) (v := .int (bI false)) (ty := .boolean) (C := RX1) (T := TX1) (N := 10) hx hb hts inX1 tyX1 tyX1_ok nmX1 hown hK hP hD hS 0 rfl rfl 9 (by decide) (hts _ q_fl_X1_42) (fun _ h9 => h9) rfl (by decide +kernel) rfl rfl (Nat.le_of_ble_eq_true rfl) dX1_init_69 (fun H locs hP hD hS => ?_)
  have hP : va_P (dC, dI) vwCl ([(h0, .inr (1, [.ref q5, .ref q16, .ref q28, .ref q37, .int (nI 0), .int (nI 0), .int (nI 0), .int (nI 0), .int (nI 0), .int (bI false)])), (q5, .inr (0, [.ref hh9, .int (nI 0)])), (hh9, .inl (cI, 243, .inl (fun k => nI ((fun _ => 0) k)))), (q16, .inr (0, [.ref hh20, .int (nI 0)])), (hh20, .inl (cI, 243, .inl (fun k => nI ((fun _ => 0) k)))), (q28, .inl (cI, 5, .inl (fun k => nI ((fun _ => 0) k)))), (q37, .inl (cI, 1024, .inl (fun k => nI ((fun _ => 0) k))))]) H := hP
  have hD : va_D A ([(h0, .inr (1, [.ref q5, .ref q16, .ref q28, .ref q37, .int (nI 0), .int (nI 0), .int (nI 0), .int (nI 0), .int (nI 0), .int (bI false)])), (q5, .inr (0, [.ref hh9, .int (nI 0)])), (hh9, .inl (cI, 243, .inl (fun k => nI ((fun _ => 0) k)))), (q16, .inr (0, [.ref hh20, .int (nI 0)])), (hh20, .inl (cI, 243, .inl (fun k => nI ((fun _ => 0) k)))), (q28, .inl (cI, 5, .inl (fun k => nI ((fun _ => 0) k)))), (q37, .inl (cI, 1024, .inl (fun k => nI ((fun _ => 0) k))))]) := hD
  have hP := hP.sub (ws' := gW cI h0 q5 q16 q28 q37 hh9 hh20 q5 q16 0 0 0 0 0 false 0 0 (fun _ => 0) (fun _ => 0) (fun _ => 0) (fun _ => 0)) [0, 1, 3, 5, 6, 2, 4] rfl
  have hD := hD.sub (ws' := gW cI h0 q5 q16 q28 q37 hh9 hh20 q5 q16 0 0 0 0 0 false 0 0 (fun _ => 0) (fun _ => 0) (fun _ => 0) (fun _ => 0)) [0, 1, 3, 5, 6, 2, 4] (by decide) rfl
  refine lv_aload_n hx hb dX1_init_72 rfl (lv_at hl 0 rfl) ?_
  refine va_get (D := (dC, dI)) (ci := 1) (v := .ref q5) (C := RX1) (T := TX1) (N := 10) hx hb hts inX1 hown hK hP 0 rfl rfl 0 (by decide) (hts _ q_fl_X1_10) (fun _ h9 => h9) rfl dX1_init_73 ?_
  refine lv_iconst (v := nI 0) hx hb dX1_init_76 (by decide) ?_
  refine call_Vv (As := [.int (nI 0)]) (wr := [(h0, .inr (1, [.ref q5, .ref q16, .ref q28, .ref q37, .int (nI 0), .int (nI 0), .int (nI 0), .int (nI 0), .int (nI 0), .int (bI false)])), (q16, .inr (0, [.ref hh20, .int (nI 0)])), (q28, .inl (cI, 5, .inl (fun k => nI ((fun _ => 0) k)))), (q37, .inl (cI, 1024, .inl (fun k => nI ((fun _ => 0) k)))), (hh20, .inl (cI, 243, .inl (fun k => nI ((fun _ => 0) k))))]) (rest := []) S (m_X0_add q5 hh9 0 (fun _ => 0) 0 (by omega)) g_X1_X0_add hd_X0_add ⟨Nat.le_of_ble_eq_true rfl, Nat.le_of_ble_eq_true rfl⟩ ⟨by show _ ≤ 6; omega, by show _ ≤ 1519; omega⟩ hP hD hK hS hZ [1, 5] [0, 2, 3, 4, 6] rfl rfl (by decide) 0 rfl rfl hl.1 rfl (Nat.le_of_ble_eq_true rfl) dX1_init_77 (fun u H locs hq hP hD hS => ?_)
  obtain rfl := hq
  have hP := hP.sub (ws' := gW cI h0 q5 q16 q28 q37 hh9 hh20 q5 q16 0 0 0 0 0 false (0 + 1) 0 (fun _ => 0) (fun _ => 0) (upN (fun _ => 0) 0 0) (fun _ => 0)) [0, 5, 1, 2, 3, 6, 4] rfl
  have hD := hD.sub (ws' := gW cI h0 q5 q16 q28 q37 hh9 hh20 q5 q16 0 0 0 0 0 false (0 + 1) 0 (fun _ => 0) (fun _ => 0) (upN (fun _ => 0) 0 0) (fun _ => 0)) [0, 5, 1, 2, 3, 6, 4] (by decide) rfl
  refine W.widen (k := 6) (n := 1519) (by omega) (by omega) ?_
  exact ret (gW cI h0 q5 q16 q28 q37 hh9 hh20 q5 q16 0 0 0 0 0 false (0 + 1) 0 (fun _ => 0) (fun _ => 0) (upN (fun _ => 0) 0 0) (fun _ => 0)) _ _ _ _ dX1_init_80 ⟨_, _, _, _, _, _, rfl⟩ hP hD hS

set_option maxHeartbeats 4000000 in
set_option maxRecDepth 100000 in
theorem m_X2_init (m0 : Nat) (sz : Nat) : Gv l yX2_init ws_X2_init 1 20 6 982 sz (dC, dI) (tyL cI cZ cJ) [.ref m0] ([(m0, .inr (2, [.int 0, .int 0, .int 0, .null, .null, .null, .null, .null, .null, .int 0, .int 0]))]) (fun u => ∃ m1 m2 m3 m4 m5 m6, u = mW cI cZ m0 m1 m2 m3 m4 m5 m6 0 0 false 0 0 (fun _ => 0) (fun _ => 0) (upN (fun _ => false) 0 true) (fun _ => false) (fun _ => false) (fun _ => 0)) := by
  refine Gv_of (by decide +kernel) (Nat.le_of_ble_eq_true rfl) ?_
  intro pr ev sx mi ag bl me cd Q ls A S hP hK hD hA hZ hNw hl hin ret
  obtain ⟨hx, hb, hml, hown, hts⟩ := id S
  have hown : sx.vm.findClass RX2 = some mi.cls := hown
  have hS : va_S A sx.heap sx.heap [] := va_S.rf
  have hl : lv_has ls 1 [(0, .ref m0)] := hl
  refine lv_aload_n hx hb dX2_init_0 rfl (lv_at hl 0 rfl) ?_
  refine W.objInit hx hb hown (hts _ q_oi_X2) (hts _ q_oi_im) (hts _ q_oi_c) rfl (by rw [hml]; exact hl.1) rfl dX2_init_1 (Nat.le_of_ble_eq_true rfl) (Nat.le_of_ble_eq_true rfl) ?_
  refine W.eq (g2 := F0 mi 4 ls []) rfl ?_
  refine lv_aload_n hx hb dX2_init_4 rfl (lv_at hl 0 rfl) ?_
  refine lv_iconst (v := nI 5) hx hb dX2_init_5 (by decide) ?_
  refine my_newa (atype := .int) (ty := .int) (cI := cI) (a0 := (5, .inl (fun k => nI ((fun _ => 0) k)))) (N' := 5) hx hb (hts _ q_ac_int) rfl hK 0 rfl hP hD hS hA (fun _ => rfl) (nI_pos (by omega)) (nI_clamp (by omega)) (Nat.le_of_ble_eq_true rfl) (by show _ ≤ 6; omega) (by show _ ≤ 982; omega) dX2_init_6 (by simp) (fun q6 H hP hD hS => ?_)
  have hP : va_P (dC, dI) vwCl ([(m0, .inr (2, [.int 0, .int 0, .int 0, .null, .null, .null, .null, .null, .null, .int 0, .int 0])), (q6, .inl (cI, 5, .inl (fun k => nI ((fun _ => 0) k))))]) H := hP
  have hD : va_D A ([(m0, .inr (2, [.int 0, .int 0, .int 0, .null, .null, .null, .null, .null, .null, .int 0, .int 0])), (q6, .inl (cI, 5, .inl (fun k => nI ((fun _ => 0) k))))]) := hD
  refine va_putF (D := (dC, dI)) (ci := 2) (v := .ref q6) (ty := .array .int) (C := RX2) (T := TX2) (N := 11) hx hb hts inX2 tyX2 tyX2_ok nmX2 hown hK hP hD hS 0 rfl rfl 3 (by decide) (hts _ q_fl_X2_9) (fun _ h9 => h9) rfl hin rfl (by decide +kernel) rfl rfl (Nat.le_of_ble_eq_true rfl) dX2_init_8 (fun H locs hP hD hS => ?_)
  have hP : va_P (dC, dI) vwCl ([(m0, .inr (2, [.int 0, .int 0, .int 0, .ref q6, .null, .null, .null, .null, .null, .int 0, .int 0])), (q6, .inl (cI, 5, .inl (fun k => nI ((fun _ => 0) k))))]) H := hP
  have hD : va_D A ([(m0, .inr (2, [.int 0, .int 0, .int 0, .ref q6, .null, .null, .null, .null, .null, .int 0, .int 0])), (q6, .inl (cI, 5, .inl (fun k => nI ((fun _ => 0) k))))]) := hD
  refine lv_aload_n hx hb dX2_init_11 rfl (lv_at hl 0 rfl) ?_
  refine lv_iconst (v := nI 5) hx hb dX2_init_12 (by decide) ?_
  refine my_newa (atype := .int) (ty := .int) (cI := cI) (a0 := (5, .inl (fun k => nI ((fun _ => 0) k)))) (N' := 5) hx hb (hts _ q_ac_int) rfl hK 0 rfl hP hD hS hA (fun _ => rfl) (nI_pos (by omega)) (nI_clamp (by omega)) (Nat.le_of_ble_eq_true rfl) (by show _ ≤ 6; omega) (by show _ ≤ 982; omega) dX2_init_13 (by simp) (fun q13 H hP hD hS => ?_)
  have hP : va_P (dC, dI) vwCl ([(m0, .inr (2, [.int 0, .int 0, .int 0, .ref q6, .null, .null, .null, .null, .null, .int 0, .int 0])), (q6, .inl (cI, 5, .inl (fun k => nI ((fun _ => 0) k)))), (q13, .inl (cI, 5, .inl (fun k => nI ((fun _ => 0) k))))]) H := hP
  have hD : va_D A ([(m0, .inr (2, [.int 0, .int 0, .int 0, .ref q6, .null, .null, .null, .null, .null, .int 0, .int 0])), (q6, .inl (cI, 5, .inl (fun k => nI ((fun _ => 0) k)))), (q13, .inl (cI, 5, .inl (fun k => nI ((fun _ => 0) k))))]) := hD
  refine va_putF (D := (dC, dI)) (ci := 2) (v := .ref q13) (ty := .array .int) (C := RX2) (T := TX2) (N := 11) hx hb hts inX2 tyX2 tyX2_ok nmX2 hown hK hP hD hS 0 rfl rfl 4 (by decide) (hts _ q_fl_X2_13) (fun _ h9 => h9) rfl hin rfl (by decide +kernel) rfl rfl (Nat.le_of_ble_eq_true rfl) dX2_init_15 (fun H locs hP hD hS => ?_)
  have hP : va_P (dC, dI) vwCl ([(m0, .inr (2, [.int 0, .int 0, .int 0, .ref q6, .ref q13, .null, .null, .null, .null, .int 0, .int 0])), (q6, .inl (cI, 5, .inl (fun k => nI ((fun _ => 0) k)))), (q13, .inl (cI, 5, .inl (fun k => nI ((fun _ => 0) k))))]) H := hP
  have hD : va_D A ([(m0, .inr (2, [.int 0, .int 0, .int 0, .ref q6, .ref q13, .null, .null, .null, .null, .int 0, .int 0])), (q6, .inl (cI, 5, .inl (fun k => nI ((fun _ => 0) k)))), (q13, .inl (cI, 5, .inl (fun k => nI ((fun _ => 0) k))))]) := hD
  refine lv_aload_n hx hb dX2_init_18 rfl (lv_at hl 0 rfl) ?_
  refine lv_sipush (v := nI 243) hx hb dX2_init_19 (by decide) ?_
  refine my_newa (atype := .boolean) (ty := .boolean) (cI := cZ) (a0 := (243, .inl (fun k => bI ((fun _ => false) k)))) (N' := 243) hx hb (hts _ q_ac_boolean) rfl hK 1 rfl hP hD hS hA (fun _ => rfl) (nI_pos (by omega)) (nI_clamp (by omega)) (Nat.le_of_ble_eq_true rfl) (by show _ ≤ 6; omega) (by show _ ≤ 982; omega) dX2_init_22 (by simp) (fun q22 H hP hD hS => ?_)
  have hP : va_P (dC, dI) vwCl ([(m0, .inr (2, [.int 0, .int 0, .int 0, .ref q6, .ref q13, .null, .null, .null, .null, .int 0, .int 0])), (q6, .inl (cI, 5, .inl (fun k => nI ((fun _ => 0) k)))), (q13, .inl (cI, 5, .inl (fun k => nI ((fun _ => 0) k)))), (q22, .inl (cZ, 243, .inl (fun k => bI ((fun _ => false) k))))]) H := hP
  have hD : va_D A ([(m0, .inr (2, [.int 0, .int 0, .int 0, .ref q6, .ref q13, .null, .null, .null, .null, .int 0, .int 0])), (q6, .inl (cI, 5, .inl (fun k => nI ((fun _ => 0) k)))), (q13, .inl (cI, 5, .inl (fun k => nI ((fun _ => 0) k)))), (q22, .inl (cZ, 243, .inl (fun k => bI ((fun _ => false) k))))]) := hD
  refine va_put (D := (dC, dI)) (ci := 2) (v := .ref q22) (ty := .array .boolean) (C := RX2) (T := TX2) (N := 11) hx hb hts inX2 tyX2 tyX2_ok nmX2 hown hK hP hD hS 0 rfl rfl 5 (by decide) (hts _ q_fl_X2_16) (fun _ h9 => h9) rfl (by decide +kernel) rfl rfl (Nat.le_of_ble_eq_true rfl) dX2_init_24 (fun H locs hP hD hS => ?_)
  have hP : va_P (dC, dI) vwCl ([(m0, .inr (2, [.int 0, .int 0, .int 0, .ref q6, .ref q13, .ref q22, .null, .null, .null, .int 0, .int 0])), (q6, .inl (cI, 5, .inl (fun k => nI ((fun _ => 0) k)))), (q13, .inl (cI, 5, .inl (fun k => nI ((fun _ => 0) k)))), (q22, .inl (cZ, 243, .inl (fun k => bI ((fun _ => false) k))))]) H := hP
  have hD : va_D A ([(m0, .inr (2, [.int 0, .int 0, .int 0, .ref q6, .ref q13, .ref q22, .null, .null, .null, .int 0, .int 0])), (q6, .inl (cI, 5, .inl (fun k => nI ((fun _ => 0) k)))), (q13, .inl (cI, 5, .inl (fun k => nI ((fun _ => 0) k)))), (q22, .inl (cZ, 243, .inl (fun k => bI ((fun _ => false) k))))]) := hD
  refine lv_aload_n hx hb dX2_init_27 rfl (lv_at hl 0 rfl) ?_
  refine lv_sipush (v := nI 243) hx hb dX2_init_28 (by decide) ?_
  refine my_newa (atype := .boolean) (ty := .boolean) (cI := cZ) (a0 := (243, .inl (fun k => bI ((fun _ => false) k)))) (N' := 243) hx hb (hts _ q_ac_boolean) rfl hK 1 rfl hP hD hS hA (fun _ => rfl) (nI_pos (by omega)) (nI_clamp (by omega)) (Nat.le_of_ble_eq_true rfl) (by show _ ≤ 6; omega) (by show _ ≤ 982; omega) dX2_init_31 (by simp) (fun q31 H hP hD hS => ?_)
  have hP : va_P (dC, dI) vwCl ([(m0, .inr (2, [.int 0, .int 0, .int 0, .ref q6, .ref q13, .ref q22, .null, .null, .null, .int 0, .int 0])), (q6, .inl (cI, 5, .inl (fun k => nI ((fun _ => 0) k)))), (q13, .inl (cI, 5, .inl (fun k => nI ((fun _ => 0) k)))), (q22, .inl (cZ, 243, .inl (fun k => bI ((fun _ => false) k)))), (q31, .inl (cZ, 243, .inl (fun k => bI ((fun _ => false) k))))]) H := hP
  have hD : va_D A ([(m0, .inr (2, [.int 0, .int 0, .int 0, .ref q6, .ref q13, .ref q22, .null, .null, .null, .int 0, .int 0])), (q6, .inl (cI, 5, .inl (fun k => nI ((fun _ => 0) k)))), (q13, .inl (cI, 5, .inl (fun k => nI ((fun _ => 0) k)))), (q22, .inl (cZ, 243, .inl (fun k => bI ((fun _ => false) k)))), (q31, .inl (cZ, 243, .inl (fun k => bI ((fun _ => false) k))))]) := hD
  refine va_put (D := (dC, dI)) (ci := 2) (v := .ref q31) (ty := .array .boolean) (C := RX2) (T := TX2) (N := 11) hx hb hts inX2 tyX2 tyX2_ok nmX2 hown hK hP hD hS 0 rfl rfl 6 (by decide) (hts _ q_fl_X2_20) (fun _ h9 => h9) rfl (by decide +kernel) rfl rfl (Nat.le_of_ble_eq_true rfl) dX2_init_33 (fun H locs hP hD hS => ?_)
  have hP : va_P (dC, dI) vwCl ([(m0, .inr (2, [.int 0, .int 0, .int 0, .ref q6, .ref q13, .ref q22, .ref q31, .null, .null, .int 0, .int 0])), (q6, .inl (cI, 5, .inl (fun k => nI ((fun _ => 0) k)))), (q13, .inl (cI, 5, .inl (fun k => nI ((fun _ => 0) k)))), (q22, .inl (cZ, 243, .inl (fun k => bI ((fun _ => false) k)))), (q31, .inl (cZ, 243, .inl (fun k => bI ((fun _ => false) k))))]) H := hP
  have hD : va_D A ([(m0, .inr (2, [.int 0, .int 0, .int 0, .ref q6, .ref q13, .ref q22, .ref q31, .null, .null, .int 0, .int 0])), (q6, .inl (cI, 5, .inl (fun k => nI ((fun _ => 0) k)))), (q13, .inl (cI, 5, .inl (fun k => nI ((fun _ => 0) k)))), (q22, .inl (cZ, 243, .inl (fun k => bI ((fun _ => false) k)))), (q31, .inl (cZ, 243, .inl (fun k => bI ((fun _ => false) k))))]) := hD
  refine lv_aload_n hx hb dX2_init_36 rfl (lv_at hl 0 rfl) ?_
  refine lv_sipush (v := nI 243) hx hb dX2_init_37 (by decide) ?_
  refine my_newa (atype := .boolean) (ty := .boolean) (cI := cZ) (a0 := (243, .inl (fun k => bI ((fun _ => false) k)))) (N' := 243) hx hb (hts _ q_ac_boolean) rfl hK 1 rfl hP hD hS hA (fun _ => rfl) (nI_pos (by omega)) (nI_clamp (by omega)) (Nat.le_of_ble_eq_true rfl) (by show _ ≤ 6; omega) (by show _ ≤ 982; omega) dX2_init_40 (by simp) (fun q40 H hP hD hS => ?_)
  have hP : va_P (dC, dI) vwCl ([(m0, .inr (2, [.int 0, .int 0, .int 0, .ref q6, .ref q13, .ref q22, .ref q31, .null, .null, .int 0, .int 0])), (q6, .inl (cI, 5, .inl (fun k => nI ((fun _ => 0) k)))), (q13, .inl (cI, 5, .inl (fun k => nI ((fun _ => 0) k)))), (q22, .inl (cZ, 243, .inl (fun k => bI ((fun _ => false) k)))), (q31, .inl (cZ, 243, .inl (fun k => bI ((fun _ => false) k)))), (q40, .inl (cZ, 243, .inl (fun k => bI ((fun _ => false) k))))]) H := hP
  have hD : va_D A ([(m0, .inr (2, [.int 0, .int 0, .int 0, .ref q6, .ref q13, .ref q22, .ref q31, .null, .null, .int 0, .int 0])), (q6, .inl (cI, 5, .inl (fun k => nI ((fun _ => 0) k)))), (q13, .inl (cI, 5, .inl (fun k => nI ((fun _ => 0) k)))), (q22, .inl (cZ, 243, .inl (fun k => bI ((fun _ => false) k)))), (q31, .inl (cZ, 243, .inl (fun k => bI ((fun _ => false) k)))), (q40, .inl (cZ, 243, .inl (fun k => bI ((fun _ => false) k))))]) := hD
  refine va_putF (D := (dC, dI)) (ci := 2) (v := .ref q40) (ty := .array .boolean) (C := RX2) (T := TX2) (N := 11) hx hb hts inX2 tyX2 tyX2_ok nmX2 hown hK hP hD hS 0 rfl rfl 7 (by decide) (hts _ q_fl_X2_23) (fun _ h9 => h9) rfl hin rfl (by decide +kernel) rfl rfl (Nat.le_of_ble_eq_true rfl) dX2_init_42 (fun H locs hP hD hS => ?_)
  have hP : va_P (dC, dI) vwCl ([(m0, .inr (2, [.int 0, .int 0, .int 0, .ref q6, .ref q13, .ref q22, .ref q31, .ref q40, .null, .int 0, .int 0])), (q6, .inl (cI, 5, .inl (fun k => nI ((fun _ => 0) k)))), (q13, .inl (cI, 5, .inl (fun k => nI ((fun _ => 0) k)))), (q22, .inl (cZ, 243, .inl (fun k => bI ((fun _ => false) k)))), (q31, .inl (cZ, 243, .inl (fun k => bI ((fun _ => false) k)))), (q40, .inl (cZ, 243, .inl (fun k => bI ((fun _ => false) k))))]) H := hP
  have hD : va_D A ([(m0, .inr (2, [.int 0, .int 0, .int 0, .ref q6, .ref q13, .ref q22, .ref q31, .ref q40, .null, .int 0, .int 0])), (q6, .inl (cI, 5, .inl (fun k => nI ((fun _ => 0) k)))), (q13, .inl (cI, 5, .inl (fun k => nI ((fun _ => 0) k)))), (q22, .inl (cZ, 243, .inl (fun k => bI ((fun _ => false) k)))), (q31, .inl (cZ, 243, .inl (fun k => bI ((fun _ => false) k)))), (q40, .inl (cZ, 243, .inl (fun k => bI ((fun _ => false) k))))]) := hD
  refine lv_aload_n hx hb dX2_init_45 rfl (lv_at hl 0 rfl) ?_
  refine lv_sipush (v := nI 243) hx hb dX2_init_46 (by decide) ?_
  refine my_newa (atype := .int) (ty := .int) (cI := cI) (a0 := (243, .inl (fun k => nI ((fun _ => 0) k)))) (N' := 243) hx hb (hts _ q_ac_int) rfl hK 0 rfl hP hD hS hA (fun _ => rfl) (nI_pos (by omega)) (nI_clamp (by omega)) (Nat.le_of_ble_eq_true rfl) (by show _ ≤ 6; omega) (by show _ ≤ 982; omega) dX2_init_49 (by simp) (fun q49 H hP hD hS => ?_)
  have hP : va_P (dC, dI) vwCl ([(m0, .inr (2, [.int 0, .int 0, .int 0, .ref q6, .ref q13, .ref q22, .ref q31, .ref q40, .null, .int 0, .int 0])), (q6, .inl (cI, 5, .inl (fun k => nI ((fun _ => 0) k)))), (q13, .inl (cI, 5, .inl (fun k => nI ((fun _ => 0) k)))), (q22, .inl (cZ, 243, .inl (fun k => bI ((fun _ => false) k)))), (q31, .inl (cZ, 243, .inl (fun k => bI ((fun _ => false) k)))), (q40, .inl (cZ, 243, .inl (fun k => bI ((fun _ => false) k)))), (q49, .inl (cI, 243, .inl (fun k => nI ((fun _ => 0) k))))]) H := hP
  have hD : va_D A ([(m0, .inr (2, [.int 0, .int 0, .int 0, .ref q6, .ref q13, .ref q22, .ref q31, .ref q40, .null, .int 0, .int 0])), (q6, .inl (cI, 5, .inl (fun k => nI ((fun _ => 0) k)))), (q13, .inl (cI, 5, .inl (fun k => nI ((fun _ => 0) k)))), (q22, .inl (cZ, 243, .inl (fun k => bI ((fun _ => false) k)))), (q31, .inl (cZ, 243, .inl (fun k => bI ((fun _ => false) k)))), (q40, .inl (cZ, 243, .inl (fun k => bI ((fun _ => false) k)))), (q49, .inl (cI, 243, .inl (fun k => nI ((fun _ => 0) k))))]) := hD
  refine va_putF (D := (dC, dI)) (ci := 2) (v := .ref q49) (ty := .array .int) (C := RX2) (T := TX2) (N := 11) hx hb hts inX2 tyX2 tyX2_ok nmX2 hown hK hP hD hS 0 rfl rfl 8 (by decide) (hts _ q_fl_X2_26) (fun _ h9 => h9) rfl hin rfl (by decide +kernel) rfl rfl (Nat.le_of_ble_eq_true rfl) dX2_init_51 (fun H locs hP hD hS => ?_)
  have hP : va_P (dC, dI) vwCl ([(m0, .inr (2, [.int 0, .int 0, .int 0, .ref q6, .ref q13, .ref q22, .ref q31, .ref q40, .ref q49, .int 0, .int 0])), (q6, .inl (cI, 5, .inl (fun k => nI ((fun _ => 0) k)))), (q13, .inl (cI, 5, .inl (fun k => nI ((fun _ => 0) k)))), (q22, .inl (cZ, 243, .inl (fun k => bI ((fun _ => false) k)))), (q31, .inl (cZ, 243, .inl (fun k => bI ((fun _ => false) k)))), (q40, .inl (cZ, 243, .inl (fun k => bI ((fun _ => false) k)))), (q49, .inl (cI, 243, .inl (fun k => nI ((fun _ => 0) k))))]) H := hP
  have hD : va_D A ([(m0, .inr (2, [.int 0, .int 0, .int 0, .ref q6, .ref q13, .ref q22, .ref q31, .ref q40, .ref q49, .int 0, .int 0])), (q6, .inl (cI, 5, .inl (fun k => nI ((fun _ => 0) k)))), (q13, .inl (cI, 5, .inl (fun k => nI ((fun _ => 0) k)))), (q22, .inl (cZ, 243, .inl (fun k => bI ((fun _ => false) k)))), (q31, .inl (cZ, 243, .inl (fun k => bI ((fun _ => false) k)))), (q40, .inl (cZ, 243, .inl (fun k => bI ((fun _ => false) k)))), (q49, .inl (cI, 243, .inl (fun k => nI ((fun _ => 0) k))))]) := hD
  have hP := hP.sub (ws' := mW cI cZ m0 q6 q13 q22 q31 q40 q49 0 0 false 0 0 (fun _ => 0) (fun _ => 0) (fun _ => false) (fun _ => false) (fun _ => false) (fun _ => 0)) [0, 1, 2, 3, 4, 5, 6] rfl
  have hD := hD.sub (ws' := mW cI cZ m0 q6 q13 q22 q31 q40 q49 0 0 false 0 0 (fun _ => 0) (fun _ => 0) (fun _ => false) (fun _ => false) (fun _ => false) (fun _ => 0)) [0, 1, 2, 3, 4, 5, 6] (by decide) rfl
  refine lv_aload_n hx hb dX2_init_54 rfl (lv_at hl 0 rfl) ?_
  refine va_get (D := (dC, dI)) (ci := 2) (v := .ref q22) (C := RX2) (T := TX2) (N := 11) hx hb hts inX2 hown hK hP 0 rfl rfl 5 (by decide) (hts _ q_fl_X2_16) (fun _ h9 => h9) rfl dX2_init_55 ?_
  refine lv_iconst (v := nI 0) hx hb dX2_init_58 (by decide) ?_
  refine lv_iconst (v := nI 1) hx hb dX2_init_59 (by decide) ?_
  refine W_i (y := bI true) rfl ?_
  refine za_st hx hb hK hP hD hS 3 1 rfl rfl (j := 0) (v := true) (by omega) (by decide) dX2_init_60 (fun H locs hP hD hS => ?_)
  have hP : va_P (dC, dI) vwCl (mW cI cZ m0 q6 q13 q22 q31 q40 q49 0 0 false 0 0 (fun _ => 0) (fun _ => 0) (upN (fun _ => false) 0 true) (fun _ => false) (fun _ => false) (fun _ => 0)) H := hP
  have hD : va_D A (mW cI cZ m0 q6 q13 q22 q31 q40 q49 0 0 false 0 0 (fun _ => 0) (fun _ => 0) (upN (fun _ => false) 0 true) (fun _ => false) (fun _ => false) (fun _ => 0)) := hD
  refine W.widen (k := 6) (n := 982) (by omega) (by omega) ?_
  exact ret (mW cI cZ m0 q6 q13 q22 q31 q40 q49 0 0 false 0 0 (fun _ => 0) (fun _ => 0) (upN (fun _ => false) 0 true) (fun _ => false) (fun _ => false) (fun _ => 0)) _ _ _ _ dX2_init_61 ⟨_, _, _, _, _, _, rfl⟩ hP hD hS

def dgF (f : Nat → Int32) (d : Int64) : Nat → Int64
  | 0 => d
  | i + 1 => dg (dgF f d i) (f i)
def dmO (sn ht : Nat → Nat) (o : Nat → Bool) (n p : Nat) (d : Int64) : Nat → Int64
  | 0 => d
  | k + 1 => dg (dg (dg (dmO sn ht o n p d k) (bI (seeM sn p k p))) (bI (knwM sn ht o n p k))) (bI (sureM sn ht o n p k))
def dmP (sn ht : Nat → Nat) (o : Nat → Bool) (n p : Nat) (d : Int64) : Int64 :=
  dmO sn ht o n p (dg (dg (dg (dg (dg d (nI (ht p))) (nI (possM sn ht o n p))) (bI (certM sn ht o n p))) (bI (allM ht o n p))) (nI (manyM sn ht (mix (toldF ht o p) o (3 ^ n)) n n))) n
def dmA (sn ht : Nat → Nat) (o : Nat → Bool) (n : Nat) (d : Int64) : Nat → Int64
  | 0 => d
  | p + 1 => dmP sn ht o n p (dmA sn ht o n d p)
def aftM (sn ht : Nat → Nat) (o : Nat → Bool) (n tn : Nat) : Int32 := if n = 0 then nI 0 else nI (cntP (turnM sn o n (tn % n) (realN ht n)) (3 ^ n))
def digM (sn ht : Nat → Nat) (o : Nat → Bool) (n tn sl : Nat) : Int64 :=
  dmA sn ht o n (dg (dg (dg (dg (dg (dg (dg (dg 2053 (nI n)) (nI tn)) (nI sl)) (whoM n tn)) (nI (cntP o (3 ^ n)))) (nI (manyM sn ht o n n))) (oI (bstM ht o n 3).1)) (aftM sn ht o n tn)) n
set_option maxHeartbeats 4000000 in
set_option maxRecDepth 100000 in
theorem m_X2_digest_0 (m0 m1 m2 m3 m4 m5 m6 th n : Nat) (bg : Bool) (tn sl : Nat) (ht sn : Nat → Nat) (o nx kp : Nat → Bool) (ow : Nat → Nat) (hn : n ≤ 5) (hsn : ∀ p, p < 5 → sn p < 32) (hht : ∀ p, p < 5 → ht p < 3) (htn : tn < 2 ^ 20) (h0n : n = 0) (sz : Nat) : Gl l yX2_digest ws_X2_digest 6 138 6 33 sz (dC, dI) (tyL cI cZ cJ) [.ref m0] (mW cI cZ m0 m1 m2 m3 m4 m5 m6 th n bg tn sl ht sn o nx kp ow) (fun r u => r = digM sn ht o n tn sl ∧ ∃ (a b : Nat) (nx2 kp2 : Nat → Bool) (ow2 : Nat → Nat), ((a = m3 ∧ b = m4) ∨ (a = m4 ∧ b = m3)) ∧ u = mW cI cZ m0 m1 m2 a b m5 m6 0 n bg tn sl ht sn o nx2 kp2 ow2) := by
  refine Gl_of (by decide +kernel) (Nat.le_of_ble_eq_true rfl) ?_
  intro pr ev sx mi ag bl me cd Q ls A S hP hK hD hA hZ hNw hl hin ret
  obtain ⟨hx, hb, hml, hown, hts⟩ := id S
  have hown : sx.vm.findClass RX2 = some mi.cls := hown
  have hS : va_S A sx.heap sx.heap [] := va_S.rf
  have hl : lv_has ls 10 [(0, .ref m0)] := hl
  have h3 := p3_243 n hn; have h30 := p3_0 n
  have hre : realN ht n < 3 ^ n := realN_lt n (fun p hp => hht p (by omega))
  have haft : aftM sn ht o n tn = nI 0 := by rw [aftM, if_pos h0n]
  refine lv_aload_n hx hb dX2_digest_0 rfl (lv_at hl 0 rfl) ?_
  refine lv_iconst (v := nI 0) hx hb dX2_digest_1 (by decide) ?_
  refine va_put (D := (dC, dI)) (ci := 2) (v := .int (nI 0)) (ty := .int) (C := RX2) (T := TX2) (N := 11) hx hb hts inX2 tyX2 tyX2_ok nmX2 hown hK hP hD hS 0 rfl rfl 0 (by decide) (hts _ q_fl_X2_29) (fun _ h9 => h9) rfl (by decide +kernel) rfl rfl (Nat.le_of_ble_eq_true rfl) dX2_digest_2 (fun H locs hP hD hS => ?_)
  have hP : va_P (dC, dI) vwCl (mW cI cZ m0 m1 m2 m3 m4 m5 m6 0 n bg tn sl ht sn o nx kp ow) H := hP
  have hD : va_D A (mW cI cZ m0 m1 m2 m3 m4 m5 m6 0 n bg tn sl ht sn o nx kp ow) := hD
  refine lv_bipush (v := nI 8) hx hb dX2_digest_5 (by decide) ?_
  refine my_newa (atype := .int) (ty := .int) (cI := cI) (a0 := (8, .inl (fun _ => 0))) (N' := 8) hx hb (hts _ q_ac_int) rfl hK 0 rfl hP hD hS hA (fun _ => rfl) (nI_pos (by omega)) (nI_clamp (by omega)) (Nat.le_of_ble_eq_true rfl) (by show _ ≤ 6; omega) (by show _ ≤ 33; omega) dX2_digest_7 (by simp) (fun q7 H hP hD hS => ?_)
  have hP : va_P (dC, dI) vwCl (mW cI cZ m0 m1 m2 m3 m4 m5 m6 0 n bg tn sl ht sn o nx kp ow ++ [(q7, .inl (cI, 8, .inl (fun _ => 0)))]) H := hP
  have hD : va_D A (mW cI cZ m0 m1 m2 m3 m4 m5 m6 0 n bg tn sl ht sn o nx kp ow ++ [(q7, .inl (cI, 8, .inl (fun _ => 0)))]) := hD
  refine lv_dup hx hb dX2_digest_9 rfl ?_
  refine lv_iconst (v := nI 0) hx hb dX2_digest_10 (by decide) ?_
  refine lv_aload_n hx hb dX2_digest_11 rfl (lv_at hl 0 rfl) ?_
  refine va_get (D := (dC, dI)) (ci := 2) (v := .int (nI n)) (C := RX2) (T := TX2) (N := 11) hx hb hts inX2 hown hK hP 0 rfl rfl 1 (by decide) (hts _ q_fl_X2_33) (fun _ h9 => h9) rfl dX2_digest_12 ?_
  refine ka_st hx hb hK hP hD hS 7 0 rfl rfl (j := 0) (v := nI n) (by omega) (by decide) dX2_digest_15 (fun H locs hP hD hS => ?_)
  have hP : va_P (dC, dI) vwCl (mW cI cZ m0 m1 m2 m3 m4 m5 m6 0 n bg tn sl ht sn o nx kp ow ++ [(q7, .inl (cI, 8, .inl (upd (fun _ => 0) 0 (nI n))))]) H := hP
  have hD : va_D A (mW cI cZ m0 m1 m2 m3 m4 m5 m6 0 n bg tn sl ht sn o nx kp ow ++ [(q7, .inl (cI, 8, .inl (upd (fun _ => 0) 0 (nI n))))]) := hD
  refine lv_dup hx hb dX2_digest_16 rfl ?_
  refine lv_iconst (v := nI 1) hx hb dX2_digest_17 (by decide) ?_
  refine lv_aload_n hx hb dX2_digest_18 rfl (lv_at hl 0 rfl) ?_
  refine va_get (D := (dC, dI)) (ci := 2) (v := .int (nI tn)) (C := RX2) (T := TX2) (N := 11) hx hb hts inX2 hown hK hP 0 rfl rfl 9 (by decide) (hts _ q_fl_X2_105) (fun _ h9 => h9) rfl dX2_digest_19 ?_
  refine ka_st hx hb hK hP hD hS 7 0 rfl rfl (j := 1) (v := nI tn) (by omega) (by decide) dX2_digest_22 (fun H locs hP hD hS => ?_)
  have hP : va_P (dC, dI) vwCl (mW cI cZ m0 m1 m2 m3 m4 m5 m6 0 n bg tn sl ht sn o nx kp ow ++ [(q7, .inl (cI, 8, .inl (upd (upd (fun _ => 0) 0 (nI n)) 1 (nI tn))))]) H := hP
  have hD : va_D A (mW cI cZ m0 m1 m2 m3 m4 m5 m6 0 n bg tn sl ht sn o nx kp ow ++ [(q7, .inl (cI, 8, .inl (upd (upd (fun _ => 0) 0 (nI n)) 1 (nI tn))))]) := hD
  refine lv_dup hx hb dX2_digest_23 rfl ?_
  refine lv_iconst (v := nI 2) hx hb dX2_digest_24 (by decide) ?_
  refine lv_aload_n hx hb dX2_digest_25 rfl (lv_at hl 0 rfl) ?_
  refine va_get (D := (dC, dI)) (ci := 2) (v := .int (nI sl)) (C := RX2) (T := TX2) (N := 11) hx hb hts inX2 hown hK hP 0 rfl rfl 10 (by decide) (hts _ q_fl_X2_114) (fun _ h9 => h9) rfl dX2_digest_26 ?_
  refine ka_st hx hb hK hP hD hS 7 0 rfl rfl (j := 2) (v := nI sl) (by omega) (by decide) dX2_digest_29 (fun H locs hP hD hS => ?_)
  have hP : va_P (dC, dI) vwCl (mW cI cZ m0 m1 m2 m3 m4 m5 m6 0 n bg tn sl ht sn o nx kp ow ++ [(q7, .inl (cI, 8, .inl (upd (upd (upd (fun _ => 0) 0 (nI n)) 1 (nI tn)) 2 (nI sl))))]) H := hP
  have hD : va_D A (mW cI cZ m0 m1 m2 m3 m4 m5 m6 0 n bg tn sl ht sn o nx kp ow ++ [(q7, .inl (cI, 8, .inl (upd (upd (upd (fun _ => 0) 0 (nI n)) 1 (nI tn)) 2 (nI sl))))]) := hD
  refine lv_dup hx hb dX2_digest_30 rfl ?_
  refine lv_iconst (v := nI 3) hx hb dX2_digest_31 (by decide) ?_
  refine lv_aload_n hx hb dX2_digest_32 rfl (lv_at hl 0 rfl) ?_
  refine call_Vp (As := []) (rest := [.int (nI 3), .ref q7, .ref q7]) S (m_X2_whose m0 m1 m2 m3 m4 m5 m6 0 n bg tn sl ht sn o nx kp ow  hn htn) g_X2_X2_whose hd_X2_whose ⟨Nat.le_of_ble_eq_true rfl, Nat.le_of_ble_eq_true rfl⟩ ⟨by show _ ≤ 6; omega, by show _ ≤ 33; omega⟩ hP hD hK hS hZ [0, 1, 2, 3, 4, 5, 6] rfl (by decide) 0 rfl rfl hl.1 rfl (Nat.le_of_ble_eq_true rfl) dX2_digest_33 (fun r H locs hq hP hS => ?_)
  obtain rfl := hq
  refine ka_st hx hb hK hP hD hS 7 0 rfl rfl (j := 3) (v := (whoM n tn)) (by omega) (by decide) dX2_digest_36 (fun H locs hP hD hS => ?_)
  have hP : va_P (dC, dI) vwCl (mW cI cZ m0 m1 m2 m3 m4 m5 m6 0 n bg tn sl ht sn o nx kp ow ++ [(q7, .inl (cI, 8, .inl (upd (upd (upd (upd (fun _ => 0) 0 (nI n)) 1 (nI tn)) 2 (nI sl)) 3 (whoM n tn))))]) H := hP
  have hD : va_D A (mW cI cZ m0 m1 m2 m3 m4 m5 m6 0 n bg tn sl ht sn o nx kp ow ++ [(q7, .inl (cI, 8, .inl (upd (upd (upd (upd (fun _ => 0) 0 (nI n)) 1 (nI tn)) 2 (nI sl)) 3 (whoM n tn))))]) := hD
  refine lv_dup hx hb dX2_digest_37 rfl ?_
  refine lv_iconst (v := nI 4) hx hb dX2_digest_38 (by decide) ?_
  refine lv_aload_n hx hb dX2_digest_39 rfl (lv_at hl 0 rfl) ?_
  refine call_Vp (As := []) (rest := [.int (nI 4), .ref q7, .ref q7]) S (m_X2_openNow m0 m1 m2 m3 m4 m5 m6 0 n bg tn sl ht sn o nx kp ow  hn) g_X2_X2_openNow hd_X2_openNow ⟨Nat.le_of_ble_eq_true rfl, Nat.le_of_ble_eq_true rfl⟩ ⟨by show _ ≤ 6; omega, by show _ ≤ 33; omega⟩ hP hD hK hS hZ [0, 1, 2, 3, 4, 5, 6] rfl (by decide) 0 rfl rfl hl.1 rfl (Nat.le_of_ble_eq_true rfl) dX2_digest_40 (fun r H locs hq hP hS => ?_)
  obtain rfl := hq
  refine ka_st hx hb hK hP hD hS 7 0 rfl rfl (j := 4) (v := nI (cntP o (3 ^ n))) (by omega) (by decide) dX2_digest_43 (fun H locs hP hD hS => ?_)
  have hP : va_P (dC, dI) vwCl (mW cI cZ m0 m1 m2 m3 m4 m5 m6 0 n bg tn sl ht sn o nx kp ow ++ [(q7, .inl (cI, 8, .inl (upd (upd (upd (upd (upd (fun _ => 0) 0 (nI n)) 1 (nI tn)) 2 (nI sl)) 3 (whoM n tn)) 4 (nI (cntP o (3 ^ n))))))]) H := hP
  have hD : va_D A (mW cI cZ m0 m1 m2 m3 m4 m5 m6 0 n bg tn sl ht sn o nx kp ow ++ [(q7, .inl (cI, 8, .inl (upd (upd (upd (upd (upd (fun _ => 0) 0 (nI n)) 1 (nI tn)) 2 (nI sl)) 3 (whoM n tn)) 4 (nI (cntP o (3 ^ n))))))]) := hD
  refine lv_dup hx hb dX2_digest_44 rfl ?_
  refine lv_iconst (v := nI 5) hx hb dX2_digest_45 (by decide) ?_
  refine lv_aload_n hx hb dX2_digest_46 rfl (lv_at hl 0 rfl) ?_
  refine call_Vp (As := []) (rest := [.int (nI 5), .ref q7, .ref q7]) S (m_X2_many m0 m1 m2 m3 m4 m5 m6 0 n bg tn sl ht sn o nx kp ow  hn hsn hht) g_X2_X2_many hd_X2_many ⟨Nat.le_of_ble_eq_true rfl, Nat.le_of_ble_eq_true rfl⟩ ⟨by show _ ≤ 6; omega, by show _ ≤ 33; omega⟩ hP hD hK hS hZ [0, 1, 2, 3, 4, 5, 6] rfl (by decide) 0 rfl rfl hl.1 rfl (Nat.le_of_ble_eq_true rfl) dX2_digest_47 (fun r H locs hq hP hS => ?_)
  obtain rfl := hq
  refine ka_st hx hb hK hP hD hS 7 0 rfl rfl (j := 5) (v := nI (manyM sn ht o n n)) (by omega) (by decide) dX2_digest_50 (fun H locs hP hD hS => ?_)
  have hP : va_P (dC, dI) vwCl (mW cI cZ m0 m1 m2 m3 m4 m5 m6 0 n bg tn sl ht sn o nx kp ow ++ [(q7, .inl (cI, 8, .inl (upd (upd (upd (upd (upd (upd (fun _ => 0) 0 (nI n)) 1 (nI tn)) 2 (nI sl)) 3 (whoM n tn)) 4 (nI (cntP o (3 ^ n)))) 5 (nI (manyM sn ht o n n)))))]) H := hP
  have hD : va_D A (mW cI cZ m0 m1 m2 m3 m4 m5 m6 0 n bg tn sl ht sn o nx kp ow ++ [(q7, .inl (cI, 8, .inl (upd (upd (upd (upd (upd (upd (fun _ => 0) 0 (nI n)) 1 (nI tn)) 2 (nI sl)) 3 (whoM n tn)) 4 (nI (cntP o (3 ^ n)))) 5 (nI (manyM sn ht o n n)))))]) := hD
  refine lv_dup hx hb dX2_digest_51 rfl ?_
  refine lv_bipush (v := nI 6) hx hb dX2_digest_52 (by decide) ?_
  refine lv_aload_n hx hb dX2_digest_54 rfl (lv_at hl 0 rfl) ?_
  refine call_Vp (As := []) (rest := [.int (nI 6), .ref q7, .ref q7]) S (m_X2_best m0 m1 m2 m3 m4 m5 m6 0 n bg tn sl ht sn o nx kp ow  hn hsn hht) g_X2_X2_best hd_X2_best ⟨Nat.le_of_ble_eq_true rfl, Nat.le_of_ble_eq_true rfl⟩ ⟨by show _ ≤ 6; omega, by show _ ≤ 33; omega⟩ hP hD hK hS hZ [0, 1, 2, 3, 4, 5, 6] rfl (by decide) 0 rfl rfl hl.1 rfl (Nat.le_of_ble_eq_true rfl) dX2_digest_55 (fun r H locs hq hP hS => ?_)
  obtain rfl := hq
  refine ka_st hx hb hK hP hD hS 7 0 rfl rfl (j := 6) (v := (oI (bstM ht o n 3).1)) (by omega) (by decide) dX2_digest_58 (fun H locs hP hD hS => ?_)
  have hP : va_P (dC, dI) vwCl (mW cI cZ m0 m1 m2 m3 m4 m5 m6 0 n bg tn sl ht sn o nx kp ow ++ [(q7, .inl (cI, 8, .inl (upd (upd (upd (upd (upd (upd (upd (fun _ => 0) 0 (nI n)) 1 (nI tn)) 2 (nI sl)) 3 (whoM n tn)) 4 (nI (cntP o (3 ^ n)))) 5 (nI (manyM sn ht o n n))) 6 (oI (bstM ht o n 3).1))))]) H := hP
  have hD : va_D A (mW cI cZ m0 m1 m2 m3 m4 m5 m6 0 n bg tn sl ht sn o nx kp ow ++ [(q7, .inl (cI, 8, .inl (upd (upd (upd (upd (upd (upd (upd (fun _ => 0) 0 (nI n)) 1 (nI tn)) 2 (nI sl)) 3 (whoM n tn)) 4 (nI (cntP o (3 ^ n)))) 5 (nI (manyM sn ht o n n))) 6 (oI (bstM ht o n 3).1))))]) := hD
  refine lv_dup hx hb dX2_digest_59 rfl ?_
  refine lv_bipush (v := nI 7) hx hb dX2_digest_60 (by decide) ?_
  refine lv_aload_n hx hb dX2_digest_62 rfl (lv_at hl 0 rfl) ?_
  refine call_Vi (As := []) (wr := [(q7, .inl (cI, 8, .inl (upd (upd (upd (upd (upd (upd (upd (fun _ => 0) 0 (nI n)) 1 (nI tn)) 2 (nI sl)) 3 (whoM n tn)) 4 (nI (cntP o (3 ^ n)))) 5 (nI (manyM sn ht o n n))) 6 (oI (bstM ht o n 3).1))))]) (rest := [.int (nI 7), .ref q7, .ref q7]) S (m_X2_after_0 m0 m1 m2 m3 m4 m5 m6 0 n bg tn sl ht sn o nx kp ow hn hsn hht h0n) g_X2_X2_after hd_X2_after ⟨Nat.le_of_ble_eq_true rfl, Nat.le_of_ble_eq_true rfl⟩ ⟨by show _ ≤ 6; omega, by show _ ≤ 33; omega⟩ hP hD hK hS hZ [0, 1, 2, 3, 4, 5, 6] [7] rfl rfl (by decide) 0 rfl rfl hl.1 rfl (Nat.le_of_ble_eq_true rfl) dX2_digest_63 (fun r u H locs hq hP hD hS => ?_)
  obtain ⟨rfl, rfl⟩ := hq
  have hP := hP.sub (ws' := mW cI cZ m0 m1 m2 m3 m4 m5 m6 0 n bg tn sl ht sn o nx kp ow ++ [(q7, .inl (cI, 8, .inl (upd (upd (upd (upd (upd (upd (upd (fun _ => 0) 0 (nI n)) 1 (nI tn)) 2 (nI sl)) 3 (whoM n tn)) 4 (nI (cntP o (3 ^ n)))) 5 (nI (manyM sn ht o n n))) 6 (oI (bstM ht o n 3).1))))]) [1, 2, 3, 4, 5, 6, 7, 0] rfl
  have hD := hD.sub (ws' := mW cI cZ m0 m1 m2 m3 m4 m5 m6 0 n bg tn sl ht sn o nx kp ow ++ [(q7, .inl (cI, 8, .inl (upd (upd (upd (upd (upd (upd (upd (fun _ => 0) 0 (nI n)) 1 (nI tn)) 2 (nI sl)) 3 (whoM n tn)) 4 (nI (cntP o (3 ^ n)))) 5 (nI (manyM sn ht o n n))) 6 (oI (bstM ht o n 3).1))))]) [1, 2, 3, 4, 5, 6, 7, 0] (by decide) rfl
  refine ka_st hx hb hK hP hD hS 7 0 rfl rfl (j := 7) (v := nI 0) (by omega) (by decide) dX2_digest_66 (fun H locs hP hD hS => ?_)
  have hP : va_P (dC, dI) vwCl (mW cI cZ m0 m1 m2 m3 m4 m5 m6 0 n bg tn sl ht sn o nx kp ow ++ [(q7, .inl (cI, 8, .inl (upd (upd (upd (upd (upd (upd (upd (upd (fun _ => 0) 0 (nI n)) 1 (nI tn)) 2 (nI sl)) 3 (whoM n tn)) 4 (nI (cntP o (3 ^ n)))) 5 (nI (manyM sn ht o n n))) 6 (oI (bstM ht o n 3).1)) 7 (nI 0))))]) H := hP
  have hD : va_D A (mW cI cZ m0 m1 m2 m3 m4 m5 m6 0 n bg tn sl ht sn o nx kp ow ++ [(q7, .inl (cI, 8, .inl (upd (upd (upd (upd (upd (upd (upd (upd (fun _ => 0) 0 (nI n)) 1 (nI tn)) 2 (nI sl)) 3 (whoM n tn)) 4 (nI (cntP o (3 ^ n)))) 5 (nI (manyM sn ht o n n))) 6 (oI (bstM ht o n 3).1)) 7 (nI 0))))]) := hD
  refine lv_astore_n (lv' := [(1, .ref q7), (0, .ref m0)]) hx hb dX2_digest_67 rfl hl (by decide) rfl (fun ls hl => ?_)
  refine lv_ldc2 hx hb hown (hts _ q_kl_X2_173) dX2_digest_68 ?_
  refine lv_lstore_n (lv' := [(2, .long 2053), (1, .ref q7), (0, .ref m0)]) hx hb dX2_digest_71 rfl hl (by decide) rfl (fun ls hl => ?_)
  refine lv_aload_n hx hb dX2_digest_72 rfl (lv_at hl 1 rfl) ?_
  refine lv_astore (lv' := [(4, .ref q7), (2, .long 2053), (1, .ref q7), (0, .ref m0)]) hx hb dX2_digest_73 hl (by decide) rfl (fun ls hl => ?_)
  refine lv_aload hx hb dX2_digest_75 (lv_at hl 0 rfl) ?_
  refine va_alen (v := nI 8) hx hb hK hP 7 0 rfl rfl rfl dX2_digest_77 ?_
  refine lv_istore (lv' := [(5, .int (nI 8)), (4, .ref q7), (2, .long 2053), (1, .ref q7), (0, .ref m0)]) hx hb dX2_digest_78 hl (by decide) rfl (fun ls hl => ?_)
  refine lv_iconst (v := nI 0) hx hb dX2_digest_80 (by decide) ?_
  refine lv_istore (lv' := [(6, .int (nI 0)), (5, .int (nI 8)), (4, .ref q7), (2, .long 2053), (1, .ref q7), (0, .ref m0)]) hx hb dX2_digest_81 hl (by decide) rfl (fun ls hl => ?_)
  have lp83 : ∀ (kf : Nat) (i : Nat) (e8 : Int64), 8 < i + kf → (i ≤ 8) → (e8 = dgF (upd (upd (upd (upd (upd (upd (upd (upd (fun _ => 0) 0 (nI n)) 1 (nI tn)) 2 (nI sl)) 3 (whoM n tn)) 4 (nI (cntP o (3 ^ n)))) 5 (nI (manyM sn ht o n n))) 6 (oI (bstM ht o n 3).1)) 7 (nI 0)) 2053 i) → ∀ (H : Heap) (locs : List Loc), va_P (dC, dI) vwCl (mW cI cZ m0 m1 m2 m3 m4 m5 m6 0 n bg tn sl ht sn o nx kp ow ++ [(q7, .inl (cI, 8, .inl (upd (upd (upd (upd (upd (upd (upd (upd (fun _ => 0) 0 (nI n)) 1 (nI tn)) 2 (nI sl)) 3 (whoM n tn)) 4 (nI (cntP o (3 ^ n)))) 5 (nI (manyM sn ht o n n))) 6 (oI (bstM ht o n 3).1)) 7 (nI 0))))]) H → va_D A (mW cI cZ m0 m1 m2 m3 m4 m5 m6 0 n bg tn sl ht sn o nx kp ow ++ [(q7, .inl (cI, 8, .inl (upd (upd (upd (upd (upd (upd (upd (upd (fun _ => 0) 0 (nI n)) 1 (nI tn)) 2 (nI sl)) 3 (whoM n tn)) 4 (nI (cntP o (3 ^ n)))) 5 (nI (manyM sn ht o n n))) 6 (oI (bstM ht o n 3).1)) 7 (nI 0))))]) → va_S A sx.heap H locs → ∀ ls : Array Slot, lv_has ls 10 [(6, .int (nI i)), (5, .int (nI 8)), (4, .ref q7), (2, .long e8), (0, .ref m0)] → W pr l ev (rmG 6 138 6 33) sx mi ag bl me cd H locs (0 + 1) (0 + 8) Q (F0 mi 83 ls []) := by
    intro kf
    induction kf with
    | zero => intro i e8 hkf hi8 he8; exact absurd hkf (by omega)
    | succ kf ih83 =>
      intro i e8 hkf hi8 he8 H locs hP hD hS ls hl
      refine lv_iload hx hb dX2_digest_83 (lv_at hl 0 rfl) ?_
      refine lv_iload hx hb dX2_digest_85 (lv_at hl 1 rfl) ?_
      refine icN_ge (tgt := 113) hx hb dX2_digest_87 (by decide) (by omega) (by omega) (fun c_87 => ?_) (fun c_87 => ?_)
      · refine lv_iconst (v := nI 0) hx hb dX2_digest_113 (by decide) ?_
        have hP := hP.sub (ws' := mW cI cZ m0 m1 m2 m3 m4 m5 m6 0 n bg tn sl ht sn o nx kp ow) [0, 1, 2, 3, 4, 5, 6] rfl
        have hD := hD.sub (ws' := mW cI cZ m0 m1 m2 m3 m4 m5 m6 0 n bg tn sl ht sn o nx kp ow) [0, 1, 2, 3, 4, 5, 6] (by decide) rfl
        refine lv_istore (lv' := [(4, .int (nI 0)), (6, .int (nI i)), (5, .int (nI 8)), (2, .long e8), (0, .ref m0)]) hx hb dX2_digest_114 hl (by decide) rfl (fun ls hl => ?_)
        have lp116 : ∀ (kf : Nat) (p : Nat) (kq : Nat → Bool) (oq : Nat → Nat) (e : Int64), n < p + kf → (p ≤ n) → (e = dmA sn ht o n (dg (dg (dg (dg (dg (dg (dg (dg 2053 (nI n)) (nI tn)) (nI sl)) (whoM n tn)) (nI (cntP o (3 ^ n)))) (nI (manyM sn ht o n n))) (oI (bstM ht o n 3).1)) (aftM sn ht o n tn)) p) → ∀ (H : Heap) (locs : List Loc), va_P (dC, dI) vwCl (mW cI cZ m0 m1 m2 m3 m4 m5 m6 0 n bg tn sl ht sn o nx kq oq) H → va_D A (mW cI cZ m0 m1 m2 m3 m4 m5 m6 0 n bg tn sl ht sn o nx kq oq) → va_S A sx.heap H locs → ∀ ls : Array Slot, lv_has ls 10 [(4, .int (nI p)), (2, .long e), (0, .ref m0)] → W pr l ev (rmG 6 138 6 33) sx mi ag bl me cd H locs (1 + p) (8 + 5 * p) Q (F0 mi 116 ls []) := by
          intro kf
          induction kf with
          | zero => intro p kq oq e hkf hp5 he; exact absurd hkf (by omega)
          | succ kf ih116 =>
            intro p kq oq e hkf hp5 he H locs hP hD hS ls hl
            refine lv_iload hx hb dX2_digest_116 (lv_at hl 0 rfl) ?_
            refine lv_aload_n hx hb dX2_digest_118 rfl (lv_at hl 2 rfl) ?_
            refine va_get (D := (dC, dI)) (ci := 2) (v := .int (nI n)) (C := RX2) (T := TX2) (N := 11) hx hb hts inX2 hown hK hP 0 rfl rfl 1 (by decide) (hts _ q_fl_X2_33) (fun _ h9 => h9) rfl dX2_digest_119 ?_
            refine icN_ge (tgt := 332) hx hb dX2_digest_122 (by decide) (by omega) (by omega) (fun c_122 => ?_) (fun c_122 => ?_)
            · refine lv_lload_n hx hb dX2_digest_332 rfl (lv_at hl 1 rfl) ?_
              refine W.widen (k := 6) (n := 33) (by omega) (by omega) ?_
              exact ret _ (mW cI cZ m0 m1 m2 m3 m4 m5 m6 0 n bg tn sl ht sn o nx kq oq) _ _ _ _ dX2_digest_333 ⟨by rw [he, show p = n by omega]; rfl, _, _, _, _, _, Or.inl ⟨rfl, rfl⟩, rfl⟩ hP hD hS
            · refine lv_iconst (v := nI 5) hx hb dX2_digest_125 (by decide) ?_
              refine my_newa (atype := .int) (ty := .int) (cI := cI) (a0 := (5, .inl (fun _ => 0))) (N' := 5) hx hb (hts _ q_ac_int) rfl hK 0 rfl hP hD hS hA (fun _ => rfl) (nI_pos (by omega)) (nI_clamp (by omega)) (Nat.le_of_ble_eq_true rfl) (by show _ ≤ 6; omega) (by show _ ≤ 33; omega) dX2_digest_126 (by simp) (fun q126 H hP hD hS => ?_)
              have hP : va_P (dC, dI) vwCl (mW cI cZ m0 m1 m2 m3 m4 m5 m6 0 n bg tn sl ht sn o nx kq oq ++ [(q126, .inl (cI, 5, .inl (fun _ => 0)))]) H := hP
              have hD : va_D A (mW cI cZ m0 m1 m2 m3 m4 m5 m6 0 n bg tn sl ht sn o nx kq oq ++ [(q126, .inl (cI, 5, .inl (fun _ => 0)))]) := hD
              refine lv_dup hx hb dX2_digest_128 rfl ?_
              refine lv_iconst (v := nI 0) hx hb dX2_digest_129 (by decide) ?_
              refine lv_aload_n hx hb dX2_digest_130 rfl (lv_at hl 2 rfl) ?_
              refine va_get (D := (dC, dI)) (ci := 2) (v := .ref m1) (C := RX2) (T := TX2) (N := 11) hx hb hts inX2 hown hK hP 0 rfl rfl 3 (by decide) (hts _ q_fl_X2_9) (fun _ h9 => h9) rfl dX2_digest_131 ?_
              refine lv_iload hx hb dX2_digest_134 (lv_at hl 0 rfl) ?_
              refine ia_ld hx hb hK hP 1 0 rfl rfl (j := p) (by omega) (by decide) dX2_digest_136 ?_
              refine ka_st hx hb hK hP hD hS 7 0 rfl rfl (j := 0) (v := nI (ht p)) (by omega) (by decide) dX2_digest_137 (fun H locs hP hD hS => ?_)
              have hP : va_P (dC, dI) vwCl (mW cI cZ m0 m1 m2 m3 m4 m5 m6 0 n bg tn sl ht sn o nx kq oq ++ [(q126, .inl (cI, 5, .inl (upd (fun _ => 0) 0 (nI (ht p)))))]) H := hP
              have hD : va_D A (mW cI cZ m0 m1 m2 m3 m4 m5 m6 0 n bg tn sl ht sn o nx kq oq ++ [(q126, .inl (cI, 5, .inl (upd (fun _ => 0) 0 (nI (ht p)))))]) := hD
              refine lv_dup hx hb dX2_digest_138 rfl ?_
              refine lv_iconst (v := nI 1) hx hb dX2_digest_139 (by decide) ?_
              refine lv_aload_n hx hb dX2_digest_140 rfl (lv_at hl 2 rfl) ?_
              refine lv_iload hx hb dX2_digest_141 (lv_at hl 0 rfl) ?_
              refine call_Vp (As := [.int (nI p)]) (rest := [.int (nI 1), .ref q126, .ref q126]) S (m_X2_possible m0 m1 m2 m3 m4 m5 m6 0 n bg tn sl ht sn o nx kq oq p hn hsn hht (by omega)) g_X2_X2_possible hd_X2_possible ⟨Nat.le_of_ble_eq_true rfl, Nat.le_of_ble_eq_true rfl⟩ ⟨by show _ ≤ 6; omega, by show _ ≤ 33; omega⟩ hP hD hK hS hZ [0, 1, 2, 3, 4, 5, 6] rfl (by decide) 0 rfl rfl hl.1 rfl (Nat.le_of_ble_eq_true rfl) dX2_digest_143 (fun r H locs hq hP hS => ?_)
              obtain rfl := hq
              refine ka_st hx hb hK hP hD hS 7 0 rfl rfl (j := 1) (v := nI (possM sn ht o n p)) (by omega) (by decide) dX2_digest_146 (fun H locs hP hD hS => ?_)
              have hP : va_P (dC, dI) vwCl (mW cI cZ m0 m1 m2 m3 m4 m5 m6 0 n bg tn sl ht sn o nx kq oq ++ [(q126, .inl (cI, 5, .inl (upd (upd (fun _ => 0) 0 (nI (ht p))) 1 (nI (possM sn ht o n p)))))]) H := hP
              have hD : va_D A (mW cI cZ m0 m1 m2 m3 m4 m5 m6 0 n bg tn sl ht sn o nx kq oq ++ [(q126, .inl (cI, 5, .inl (upd (upd (fun _ => 0) 0 (nI (ht p))) 1 (nI (possM sn ht o n p)))))]) := hD
              refine lv_dup hx hb dX2_digest_147 rfl ?_
              refine lv_iconst (v := nI 2) hx hb dX2_digest_148 (by decide) ?_
              refine lv_aload_n hx hb dX2_digest_149 rfl (lv_at hl 2 rfl) ?_
              refine lv_iload hx hb dX2_digest_150 (lv_at hl 0 rfl) ?_
              refine call_Vp (As := [.int (nI p)]) (rest := [.int (nI 2), .ref q126, .ref q126]) S (m_X2_certainNow m0 m1 m2 m3 m4 m5 m6 0 n bg tn sl ht sn o nx kq oq p hn hsn hht (by omega)) g_X2_X2_certainNow hd_X2_certainNow ⟨Nat.le_of_ble_eq_true rfl, Nat.le_of_ble_eq_true rfl⟩ ⟨by show _ ≤ 6; omega, by show _ ≤ 33; omega⟩ hP hD hK hS hZ [0, 1, 2, 3, 4, 5, 6] rfl (by decide) 0 rfl rfl hl.1 rfl (Nat.le_of_ble_eq_true rfl) dX2_digest_152 (fun r H locs hq hP hS => ?_)
              obtain rfl := hq
              refine tern_eq hx hb dX2_digest_155 dX2_digest_158 dX2_digest_159 dX2_digest_162 (by decide) (by decide) ?_
              refine ka_st hx hb hK hP hD hS 7 0 rfl rfl (j := 2) (v := bI (certM sn ht o n p)) (by omega) (by decide) dX2_digest_163 (fun H locs hP hD hS => ?_)
              have hP : va_P (dC, dI) vwCl (mW cI cZ m0 m1 m2 m3 m4 m5 m6 0 n bg tn sl ht sn o nx kq oq ++ [(q126, .inl (cI, 5, .inl (upd (upd (upd (fun _ => 0) 0 (nI (ht p))) 1 (nI (possM sn ht o n p))) 2 (bI (certM sn ht o n p)))))]) H := hP
              have hD : va_D A (mW cI cZ m0 m1 m2 m3 m4 m5 m6 0 n bg tn sl ht sn o nx kq oq ++ [(q126, .inl (cI, 5, .inl (upd (upd (upd (fun _ => 0) 0 (nI (ht p))) 1 (nI (possM sn ht o n p))) 2 (bI (certM sn ht o n p)))))]) := hD
              refine lv_dup hx hb dX2_digest_164 rfl ?_
              refine lv_iconst (v := nI 3) hx hb dX2_digest_165 (by decide) ?_
              refine lv_aload_n hx hb dX2_digest_166 rfl (lv_at hl 2 rfl) ?_
              refine lv_iload hx hb dX2_digest_167 (lv_at hl 0 rfl) ?_
              refine call_Vp (As := [.int (nI p)]) (rest := [.int (nI 3), .ref q126, .ref q126]) S (m_X2_known m0 m1 m2 m3 m4 m5 m6 0 n bg tn sl ht sn o nx kq oq p hn hht (by omega)) g_X2_X2_known hd_X2_known ⟨Nat.le_of_ble_eq_true rfl, Nat.le_of_ble_eq_true rfl⟩ ⟨by show _ ≤ 6; omega, by show _ ≤ 33; omega⟩ hP hD hK hS hZ [0, 1, 2, 3, 4, 5, 6] rfl (by decide) 0 rfl rfl hl.1 rfl (Nat.le_of_ble_eq_true rfl) dX2_digest_169 (fun r H locs hq hP hS => ?_)
              obtain rfl := hq
              refine tern_eq hx hb dX2_digest_172 dX2_digest_175 dX2_digest_176 dX2_digest_179 (by decide) (by decide) ?_
              refine ka_st hx hb hK hP hD hS 7 0 rfl rfl (j := 3) (v := bI (allM ht o n p)) (by omega) (by decide) dX2_digest_180 (fun H locs hP hD hS => ?_)
              have hP : va_P (dC, dI) vwCl (mW cI cZ m0 m1 m2 m3 m4 m5 m6 0 n bg tn sl ht sn o nx kq oq ++ [(q126, .inl (cI, 5, .inl (upd (upd (upd (upd (fun _ => 0) 0 (nI (ht p))) 1 (nI (possM sn ht o n p))) 2 (bI (certM sn ht o n p))) 3 (bI (allM ht o n p)))))]) H := hP
              have hD : va_D A (mW cI cZ m0 m1 m2 m3 m4 m5 m6 0 n bg tn sl ht sn o nx kq oq ++ [(q126, .inl (cI, 5, .inl (upd (upd (upd (upd (fun _ => 0) 0 (nI (ht p))) 1 (nI (possM sn ht o n p))) 2 (bI (certM sn ht o n p))) 3 (bI (allM ht o n p)))))]) := hD
              refine lv_dup hx hb dX2_digest_181 rfl ?_
              refine lv_iconst (v := nI 4) hx hb dX2_digest_182 (by decide) ?_
              refine lv_aload_n hx hb dX2_digest_183 rfl (lv_at hl 2 rfl) ?_
              refine lv_iload hx hb dX2_digest_184 (lv_at hl 0 rfl) ?_
              refine call_Vi (As := [.int (nI p)]) (wr := [(q126, .inl (cI, 5, .inl (upd (upd (upd (upd (fun _ => 0) 0 (nI (ht p))) 1 (nI (possM sn ht o n p))) 2 (bI (certM sn ht o n p))) 3 (bI (allM ht o n p)))))]) (rest := [.int (nI 4), .ref q126, .ref q126]) S (m_X2_ifTold m0 m1 m2 m3 m4 m5 m6 0 n bg tn sl ht sn o nx kq oq p hn hsn hht (by omega)) g_X2_X2_ifTold hd_X2_ifTold ⟨Nat.le_of_ble_eq_true rfl, Nat.le_of_ble_eq_true rfl⟩ ⟨by show _ ≤ 6; omega, by show _ ≤ 33; omega⟩ hP hD hK hS hZ [0, 1, 2, 3, 4, 5, 6] [7] rfl rfl (by decide) 0 rfl rfl hl.1 rfl (Nat.le_of_ble_eq_true rfl) dX2_digest_186 (fun r u H locs hq hP hD hS => ?_)
              obtain ⟨rfl, rfl⟩ := hq
              have hP := hP.sub (ws' := mW cI cZ m0 m1 m2 m3 m4 m5 m6 0 n bg tn sl ht sn o nx o oq ++ [(q126, .inl (cI, 5, .inl (upd (upd (upd (upd (fun _ => 0) 0 (nI (ht p))) 1 (nI (possM sn ht o n p))) 2 (bI (certM sn ht o n p))) 3 (bI (allM ht o n p)))))]) [1, 2, 3, 4, 5, 6, 7, 0] rfl
              have hD := hD.sub (ws' := mW cI cZ m0 m1 m2 m3 m4 m5 m6 0 n bg tn sl ht sn o nx o oq ++ [(q126, .inl (cI, 5, .inl (upd (upd (upd (upd (fun _ => 0) 0 (nI (ht p))) 1 (nI (possM sn ht o n p))) 2 (bI (certM sn ht o n p))) 3 (bI (allM ht o n p)))))]) [1, 2, 3, 4, 5, 6, 7, 0] (by decide) rfl
              refine ka_st hx hb hK hP hD hS 7 0 rfl rfl (j := 4) (v := nI (manyM sn ht (mix (toldF ht o p) o (3 ^ n)) n n)) (by omega) (by decide) dX2_digest_189 (fun H locs hP hD hS => ?_)
              have hP : va_P (dC, dI) vwCl (mW cI cZ m0 m1 m2 m3 m4 m5 m6 0 n bg tn sl ht sn o nx o oq ++ [(q126, .inl (cI, 5, .inl (upd (upd (upd (upd (upd (fun _ => 0) 0 (nI (ht p))) 1 (nI (possM sn ht o n p))) 2 (bI (certM sn ht o n p))) 3 (bI (allM ht o n p))) 4 (nI (manyM sn ht (mix (toldF ht o p) o (3 ^ n)) n n)))))]) H := hP
              have hD : va_D A (mW cI cZ m0 m1 m2 m3 m4 m5 m6 0 n bg tn sl ht sn o nx o oq ++ [(q126, .inl (cI, 5, .inl (upd (upd (upd (upd (upd (fun _ => 0) 0 (nI (ht p))) 1 (nI (possM sn ht o n p))) 2 (bI (certM sn ht o n p))) 3 (bI (allM ht o n p))) 4 (nI (manyM sn ht (mix (toldF ht o p) o (3 ^ n)) n n)))))]) := hD
              refine lv_astore (lv' := [(5, .ref q126), (4, .int (nI p)), (2, .long e), (0, .ref m0)]) hx hb dX2_digest_190 hl (by decide) rfl (fun ls hl => ?_)
              refine lv_aload hx hb dX2_digest_192 (lv_at hl 0 rfl) ?_
              refine lv_astore (lv' := [(6, .ref q126), (5, .ref q126), (4, .int (nI p)), (2, .long e), (0, .ref m0)]) hx hb dX2_digest_194 hl (by decide) rfl (fun ls hl => ?_)
              refine lv_aload hx hb dX2_digest_196 (lv_at hl 0 rfl) ?_
              refine va_alen (v := nI 5) hx hb hK hP 7 0 rfl rfl rfl dX2_digest_198 ?_
              refine lv_istore (lv' := [(7, .int (nI 5)), (6, .ref q126), (5, .ref q126), (4, .int (nI p)), (2, .long e), (0, .ref m0)]) hx hb dX2_digest_199 hl (by decide) rfl (fun ls hl => ?_)
              refine lv_iconst (v := nI 0) hx hb dX2_digest_201 (by decide) ?_
              refine lv_istore (lv' := [(8, .int (nI 0)), (7, .int (nI 5)), (6, .ref q126), (5, .ref q126), (4, .int (nI p)), (2, .long e), (0, .ref m0)]) hx hb dX2_digest_202 hl (by decide) rfl (fun ls hl => ?_)
              have lp204 : ∀ (kf : Nat) (i5 : Nat) (e5 : Int64), 5 < i5 + kf → (i5 ≤ 5) → (e5 = dgF (upd (upd (upd (upd (upd (fun _ => 0) 0 (nI (ht p))) 1 (nI (possM sn ht o n p))) 2 (bI (certM sn ht o n p))) 3 (bI (allM ht o n p))) 4 (nI (manyM sn ht (mix (toldF ht o p) o (3 ^ n)) n n))) e i5) → ∀ (H : Heap) (locs : List Loc), va_P (dC, dI) vwCl (mW cI cZ m0 m1 m2 m3 m4 m5 m6 0 n bg tn sl ht sn o nx o oq ++ [(q126, .inl (cI, 5, .inl (upd (upd (upd (upd (upd (fun _ => 0) 0 (nI (ht p))) 1 (nI (possM sn ht o n p))) 2 (bI (certM sn ht o n p))) 3 (bI (allM ht o n p))) 4 (nI (manyM sn ht (mix (toldF ht o p) o (3 ^ n)) n n)))))]) H → va_D A (mW cI cZ m0 m1 m2 m3 m4 m5 m6 0 n bg tn sl ht sn o nx o oq ++ [(q126, .inl (cI, 5, .inl (upd (upd (upd (upd (upd (fun _ => 0) 0 (nI (ht p))) 1 (nI (possM sn ht o n p))) 2 (bI (certM sn ht o n p))) 3 (bI (allM ht o n p))) 4 (nI (manyM sn ht (mix (toldF ht o p) o (3 ^ n)) n n)))))]) → va_S A sx.heap H locs → ∀ ls : Array Slot, lv_has ls 10 [(8, .int (nI i5)), (7, .int (nI 5)), (6, .ref q126), (4, .int (nI p)), (2, .long e5), (0, .ref m0)] → W pr l ev (rmG 6 138 6 33) sx mi ag bl me cd H locs (1 + p + 1) (8 + 5 * p + 5) Q (F0 mi 204 ls []) := by
                intro kf
                induction kf with
                | zero => intro i5 e5 hkf hi5 he5; exact absurd hkf (by omega)
                | succ kf ih204 =>
                  intro i5 e5 hkf hi5 he5 H locs hP hD hS ls hl
                  refine lv_iload hx hb dX2_digest_204 (lv_at hl 0 rfl) ?_
                  refine lv_iload hx hb dX2_digest_206 (lv_at hl 1 rfl) ?_
                  refine icN_ge (tgt := 234) hx hb dX2_digest_208 (by decide) (by omega) (by omega) (fun c_208 => ?_) (fun c_208 => ?_)
                  · refine lv_iconst (v := nI 0) hx hb dX2_digest_234 (by decide) ?_
                    have hP := hP.sub (ws' := mW cI cZ m0 m1 m2 m3 m4 m5 m6 0 n bg tn sl ht sn o nx o oq) [0, 1, 2, 3, 4, 5, 6] rfl
                    have hD := hD.sub (ws' := mW cI cZ m0 m1 m2 m3 m4 m5 m6 0 n bg tn sl ht sn o nx o oq) [0, 1, 2, 3, 4, 5, 6] (by decide) rfl
                    refine lv_istore (lv' := [(6, .int (nI 0)), (8, .int (nI i5)), (7, .int (nI 5)), (4, .int (nI p)), (2, .long e5), (0, .ref m0)]) hx hb dX2_digest_235 hl (by decide) rfl (fun ls hl => ?_)
                    have lp237 : ∀ (kf : Nat) (k : Nat) (ok : Nat → Nat) (eo : Int64), n < k + kf → (k ≤ n) → (eo = dmO sn ht o n p (dg (dg (dg (dg (dg e (nI (ht p))) (nI (possM sn ht o n p))) (bI (certM sn ht o n p))) (bI (allM ht o n p))) (nI (manyM sn ht (mix (toldF ht o p) o (3 ^ n)) n n))) k) → ∀ (H : Heap) (locs : List Loc), va_P (dC, dI) vwCl (mW cI cZ m0 m1 m2 m3 m4 m5 m6 0 n bg tn sl ht sn o nx o ok) H → va_D A (mW cI cZ m0 m1 m2 m3 m4 m5 m6 0 n bg tn sl ht sn o nx o ok) → va_S A sx.heap H locs → ∀ ls : Array Slot, lv_has ls 10 [(6, .int (nI k)), (4, .int (nI p)), (2, .long eo), (0, .ref m0)] → W pr l ev (rmG 6 138 6 33) sx mi ag bl me cd H locs (1 + p + 1) (8 + 5 * p + 5) Q (F0 mi 237 ls []) := by
                      intro kf
                      induction kf with
                      | zero => intro k ok eo hkf hk5 heo; exact absurd hkf (by omega)
                      | succ kf ih237 =>
                        intro k ok eo hkf hk5 heo H locs hP hD hS ls hl
                        refine lv_iload hx hb dX2_digest_237 (lv_at hl 0 rfl) ?_
                        refine lv_aload_n hx hb dX2_digest_239 rfl (lv_at hl 3 rfl) ?_
                        refine va_get (D := (dC, dI)) (ci := 2) (v := .int (nI n)) (C := RX2) (T := TX2) (N := 11) hx hb hts inX2 hown hK hP 0 rfl rfl 1 (by decide) (hts _ q_fl_X2_33) (fun _ h9 => h9) rfl dX2_digest_240 ?_
                        refine icN_ge (tgt := 326) hx hb dX2_digest_243 (by decide) (by omega) (by omega) (fun c_243 => ?_) (fun c_243 => ?_)
                        · refine lv_iinc (v := nI (p + 1)) (lv' := [(4, .int (nI (p + 1))), (6, .int (nI k)), (2, .long eo), (0, .ref m0)]) hx hb dX2_digest_326 hl (k := 1) rfl (nI_add _ _) (by decide) rfl (fun ls hl => ?_)
                          refine lv_goto (tgt := 116) hx hb dX2_digest_329 (by decide) ?_
                          refine W.widen (k := 1 + (p + 1)) (n := 8 + 5 * (p + 1)) (by omega) (by omega) ?_
                          exact ih116 (p + 1) _ _ _ (by omega) (by omega) (by rw [heo, show k = n by omega, he]; rfl) _ _ hP hD hS _ (lv_sub hl [0, 2, 3] rfl)
                        · refine lv_lload_n hx hb dX2_digest_246 rfl (lv_at hl 2 rfl) ?_
                          refine lv_ldc2 hx hb hown (hts _ q_kl_X2_175) dX2_digest_247 ?_
                          refine lv_lmul hx hb dX2_digest_250 ?_
                          refine lv_aload_n hx hb dX2_digest_251 rfl (lv_at hl 3 rfl) ?_
                          refine lv_iload hx hb dX2_digest_252 (lv_at hl 1 rfl) ?_
                          refine lv_iload hx hb dX2_digest_254 (lv_at hl 0 rfl) ?_
                          refine lv_iload hx hb dX2_digest_256 (lv_at hl 1 rfl) ?_
                          refine call_Vp (As := [.int (nI p), .int (nI k), .int (nI p)]) (rest := [.long (eo * 31)]) S (m_X2_sees m0 m1 m2 m3 m4 m5 m6 0 n bg tn sl ht sn o nx o ok p k p (by omega) (by omega) (by omega) hsn) g_X2_X2_sees hd_X2_sees ⟨Nat.le_of_ble_eq_true rfl, Nat.le_of_ble_eq_true rfl⟩ ⟨by show _ ≤ 6; omega, by show _ ≤ 33; omega⟩ hP hD hK hS hZ [0, 1, 2, 3, 4, 5, 6] rfl (by decide) 0 rfl rfl hl.1 rfl (Nat.le_of_ble_eq_true rfl) dX2_digest_258 (fun r H locs hq hP hS => ?_)
                          obtain rfl := hq
                          refine tern_eq hx hb dX2_digest_261 dX2_digest_264 dX2_digest_265 dX2_digest_268 (by decide) (by decide) ?_
                          refine lv_i2l hx hb dX2_digest_269 rfl ?_
                          refine lv_ladd hx hb dX2_digest_270 ?_
                          refine lv_lstore_n (lv' := [(2, .long ((eo * 31) + ((bI (seeM sn p k p)).toInt64))), (6, .int (nI k)), (4, .int (nI p)), (0, .ref m0)]) hx hb dX2_digest_271 rfl hl (by decide) rfl (fun ls hl => ?_)
                          refine lv_lload_n hx hb dX2_digest_272 rfl (lv_at hl 0 rfl) ?_
                          refine lv_ldc2 hx hb hown (hts _ q_kl_X2_175) dX2_digest_273 ?_
                          refine lv_lmul hx hb dX2_digest_276 ?_
                          refine lv_aload_n hx hb dX2_digest_277 rfl (lv_at hl 3 rfl) ?_
                          refine lv_iload hx hb dX2_digest_278 (lv_at hl 2 rfl) ?_
                          refine lv_iload hx hb dX2_digest_280 (lv_at hl 1 rfl) ?_
                          refine call_Vp (As := [.int (nI p), .int (nI k)]) (rest := [.long (((eo * 31) + ((bI (seeM sn p k p)).toInt64)) * 31)]) S (m_X2_knows m0 m1 m2 m3 m4 m5 m6 0 n bg tn sl ht sn o nx o ok p k hn hsn hht (by omega) (by omega)) g_X2_X2_knows hd_X2_knows ⟨Nat.le_of_ble_eq_true rfl, Nat.le_of_ble_eq_true rfl⟩ ⟨by show _ ≤ 6; omega, by show _ ≤ 33; omega⟩ hP hD hK hS hZ [0, 1, 2, 3, 4, 5, 6] rfl (by decide) 0 rfl rfl hl.1 rfl (Nat.le_of_ble_eq_true rfl) dX2_digest_282 (fun r H locs hq hP hS => ?_)
                          obtain rfl := hq
                          refine tern_eq hx hb dX2_digest_285 dX2_digest_288 dX2_digest_289 dX2_digest_292 (by decide) (by decide) ?_
                          refine lv_i2l hx hb dX2_digest_293 rfl ?_
                          refine lv_ladd hx hb dX2_digest_294 ?_
                          refine lv_lstore_n (lv' := [(2, .long ((((eo * 31) + ((bI (seeM sn p k p)).toInt64)) * 31) + ((bI (knwM sn ht o n p k)).toInt64))), (6, .int (nI k)), (4, .int (nI p)), (0, .ref m0)]) hx hb dX2_digest_295 rfl hl (by decide) rfl (fun ls hl => ?_)
                          refine lv_lload_n hx hb dX2_digest_296 rfl (lv_at hl 0 rfl) ?_
                          refine lv_ldc2 hx hb hown (hts _ q_kl_X2_175) dX2_digest_297 ?_
                          refine lv_lmul hx hb dX2_digest_300 ?_
                          refine lv_aload_n hx hb dX2_digest_301 rfl (lv_at hl 3 rfl) ?_
                          refine lv_iload hx hb dX2_digest_302 (lv_at hl 2 rfl) ?_
                          refine lv_iload hx hb dX2_digest_304 (lv_at hl 1 rfl) ?_
                          refine call_Vi (As := [.int (nI p), .int (nI k)]) (wr := []) (rest := [.long (((((eo * 31) + ((bI (seeM sn p k p)).toInt64)) * 31) + ((bI (knwM sn ht o n p k)).toInt64)) * 31)]) S (m_X2_sure m0 m1 m2 m3 m4 m5 m6 0 n bg tn sl ht sn o nx o ok p k hn hsn hht (by omega) (by omega)) g_X2_X2_sure hd_X2_sure ⟨Nat.le_of_ble_eq_true rfl, Nat.le_of_ble_eq_true rfl⟩ ⟨by show _ ≤ 6; omega, by show _ ≤ 33; omega⟩ hP hD hK hS hZ [0, 1, 2, 3, 4, 5, 6] [] rfl rfl (by decide) 0 rfl rfl hl.1 rfl (Nat.le_of_ble_eq_true rfl) dX2_digest_306 (fun r u H locs hq hP hD hS => ?_)
                          obtain ⟨rfl, rfl⟩ := hq
                          have hP : va_P (dC, dI) vwCl (mW cI cZ m0 m1 m2 m3 m4 m5 m6 0 n bg tn sl ht sn o nx o (lookF sn k o n ok (3 ^ n))) H := hP
                          have hD : va_D A (mW cI cZ m0 m1 m2 m3 m4 m5 m6 0 n bg tn sl ht sn o nx o (lookF sn k o n ok (3 ^ n))) := hD
                          refine tern_eq hx hb dX2_digest_309 dX2_digest_312 dX2_digest_313 dX2_digest_316 (by decide) (by decide) ?_
                          refine lv_i2l hx hb dX2_digest_317 rfl ?_
                          refine lv_ladd hx hb dX2_digest_318 ?_
                          refine lv_lstore_n (lv' := [(2, .long ((((((eo * 31) + ((bI (seeM sn p k p)).toInt64)) * 31) + ((bI (knwM sn ht o n p k)).toInt64)) * 31) + ((bI (sureM sn ht o n p k)).toInt64))), (6, .int (nI k)), (4, .int (nI p)), (0, .ref m0)]) hx hb dX2_digest_319 rfl hl (by decide) rfl (fun ls hl => ?_)
                          refine lv_iinc (v := nI (k + 1)) (lv' := [(6, .int (nI (k + 1))), (2, .long ((((((eo * 31) + ((bI (seeM sn p k p)).toInt64)) * 31) + ((bI (knwM sn ht o n p k)).toInt64)) * 31) + ((bI (sureM sn ht o n p k)).toInt64))), (4, .int (nI p)), (0, .ref m0)]) hx hb dX2_digest_320 hl (k := 1) rfl (nI_add _ _) (by decide) rfl (fun ls hl => ?_)
                          refine lv_goto (tgt := 237) hx hb dX2_digest_323 (by decide) ?_
                          exact ih237 (k + 1) _ _ (by omega) (by omega) (by rw [heo]; rfl) _ _ hP hD hS _ (lv_sub hl [0, 2, 1, 3] rfl)
                    exact lp237 (n + 1) 0 oq _ (by omega) (by omega) (by rw [he5, show i5 = 5 by omega]; rfl) _ _ hP hD hS _ (lv_sub hl [0, 3, 4, 5] rfl)
                  · refine lv_aload hx hb dX2_digest_211 (lv_at hl 2 rfl) ?_
                    refine lv_iload hx hb dX2_digest_213 (lv_at hl 0 rfl) ?_
                    refine ka_ld hx hb hK hP 7 0 rfl rfl (j := i5) (by omega) (by decide) dX2_digest_215 ?_
                    refine lv_istore (lv' := [(9, .int ((upd (upd (upd (upd (upd (fun _ => 0) 0 (nI (ht p))) 1 (nI (possM sn ht o n p))) 2 (bI (certM sn ht o n p))) 3 (bI (allM ht o n p))) 4 (nI (manyM sn ht (mix (toldF ht o p) o (3 ^ n)) n n))) i5)), (8, .int (nI i5)), (7, .int (nI 5)), (6, .ref q126), (4, .int (nI p)), (2, .long e5), (0, .ref m0)]) hx hb dX2_digest_216 hl (by decide) rfl (fun ls hl => ?_)
                    refine lv_lload_n hx hb dX2_digest_218 rfl (lv_at hl 5 rfl) ?_
                    refine lv_ldc2 hx hb hown (hts _ q_kl_X2_175) dX2_digest_219 ?_
                    refine lv_lmul hx hb dX2_digest_222 ?_
                    refine lv_iload hx hb dX2_digest_223 (lv_at hl 0 rfl) ?_
                    refine lv_i2l hx hb dX2_digest_225 rfl ?_
                    refine lv_ladd hx hb dX2_digest_226 ?_
                    refine lv_lstore_n (lv' := [(2, .long ((e5 * 31) + (((upd (upd (upd (upd (upd (fun _ => 0) 0 (nI (ht p))) 1 (nI (possM sn ht o n p))) 2 (bI (certM sn ht o n p))) 3 (bI (allM ht o n p))) 4 (nI (manyM sn ht (mix (toldF ht o p) o (3 ^ n)) n n))) i5).toInt64))), (9, .int ((upd (upd (upd (upd (upd (fun _ => 0) 0 (nI (ht p))) 1 (nI (possM sn ht o n p))) 2 (bI (certM sn ht o n p))) 3 (bI (allM ht o n p))) 4 (nI (manyM sn ht (mix (toldF ht o p) o (3 ^ n)) n n))) i5)), (8, .int (nI i5)), (7, .int (nI 5)), (6, .ref q126), (4, .int (nI p)), (0, .ref m0)]) hx hb dX2_digest_227 rfl hl (by decide) rfl (fun ls hl => ?_)
                    refine lv_iinc (v := nI (i5 + 1)) (lv' := [(8, .int (nI (i5 + 1))), (2, .long ((e5 * 31) + (((upd (upd (upd (upd (upd (fun _ => 0) 0 (nI (ht p))) 1 (nI (possM sn ht o n p))) 2 (bI (certM sn ht o n p))) 3 (bI (allM ht o n p))) 4 (nI (manyM sn ht (mix (toldF ht o p) o (3 ^ n)) n n))) i5).toInt64))), (9, .int ((upd (upd (upd (upd (upd (fun _ => 0) 0 (nI (ht p))) 1 (nI (possM sn ht o n p))) 2 (bI (certM sn ht o n p))) 3 (bI (allM ht o n p))) 4 (nI (manyM sn ht (mix (toldF ht o p) o (3 ^ n)) n n))) i5)), (7, .int (nI 5)), (6, .ref q126), (4, .int (nI p)), (0, .ref m0)]) hx hb dX2_digest_228 hl (k := 2) rfl (nI_add _ _) (by decide) rfl (fun ls hl => ?_)
                    refine lv_goto (tgt := 204) hx hb dX2_digest_231 (by decide) ?_
                    exact ih204 (i5 + 1) _ (by omega) (by omega) (by rw [he5]; rfl) _ _ hP hD hS _ (lv_sub hl [0, 3, 4, 5, 1, 6] rfl)
              exact lp204 6 0 _ (by omega) (by omega) rfl _ _ hP hD hS _ (lv_sub hl [0, 1, 2, 4, 5, 6] rfl)
        refine W.widen (k := 1 + 0) (n := 8 + 5 * 0) (by omega) (by omega) ?_
        exact lp116 (n + 1) 0 kp ow _ (by omega) (by omega) (by rw [he8, show i = 8 by omega, haft]; rfl) _ _ hP hD hS _ (lv_sub hl [0, 3, 4] rfl)
      · refine lv_aload hx hb dX2_digest_90 (lv_at hl 2 rfl) ?_
        refine lv_iload hx hb dX2_digest_92 (lv_at hl 0 rfl) ?_
        refine ka_ld hx hb hK hP 7 0 rfl rfl (j := i) (by omega) (by decide) dX2_digest_94 ?_
        refine lv_istore (lv' := [(7, .int ((upd (upd (upd (upd (upd (upd (upd (upd (fun _ => 0) 0 (nI n)) 1 (nI tn)) 2 (nI sl)) 3 (whoM n tn)) 4 (nI (cntP o (3 ^ n)))) 5 (nI (manyM sn ht o n n))) 6 (oI (bstM ht o n 3).1)) 7 (nI 0)) i)), (6, .int (nI i)), (5, .int (nI 8)), (4, .ref q7), (2, .long e8), (0, .ref m0)]) hx hb dX2_digest_95 hl (by decide) rfl (fun ls hl => ?_)
        refine lv_lload_n hx hb dX2_digest_97 rfl (lv_at hl 4 rfl) ?_
        refine lv_ldc2 hx hb hown (hts _ q_kl_X2_175) dX2_digest_98 ?_
        refine lv_lmul hx hb dX2_digest_101 ?_
        refine lv_iload hx hb dX2_digest_102 (lv_at hl 0 rfl) ?_
        refine lv_i2l hx hb dX2_digest_104 rfl ?_
        refine lv_ladd hx hb dX2_digest_105 ?_
        refine lv_lstore_n (lv' := [(2, .long ((e8 * 31) + (((upd (upd (upd (upd (upd (upd (upd (upd (fun _ => 0) 0 (nI n)) 1 (nI tn)) 2 (nI sl)) 3 (whoM n tn)) 4 (nI (cntP o (3 ^ n)))) 5 (nI (manyM sn ht o n n))) 6 (oI (bstM ht o n 3).1)) 7 (nI 0)) i).toInt64))), (7, .int ((upd (upd (upd (upd (upd (upd (upd (upd (fun _ => 0) 0 (nI n)) 1 (nI tn)) 2 (nI sl)) 3 (whoM n tn)) 4 (nI (cntP o (3 ^ n)))) 5 (nI (manyM sn ht o n n))) 6 (oI (bstM ht o n 3).1)) 7 (nI 0)) i)), (6, .int (nI i)), (5, .int (nI 8)), (4, .ref q7), (0, .ref m0)]) hx hb dX2_digest_106 rfl hl (by decide) rfl (fun ls hl => ?_)
        refine lv_iinc (v := nI (i + 1)) (lv' := [(6, .int (nI (i + 1))), (2, .long ((e8 * 31) + (((upd (upd (upd (upd (upd (upd (upd (upd (fun _ => 0) 0 (nI n)) 1 (nI tn)) 2 (nI sl)) 3 (whoM n tn)) 4 (nI (cntP o (3 ^ n)))) 5 (nI (manyM sn ht o n n))) 6 (oI (bstM ht o n 3).1)) 7 (nI 0)) i).toInt64))), (7, .int ((upd (upd (upd (upd (upd (upd (upd (upd (fun _ => 0) 0 (nI n)) 1 (nI tn)) 2 (nI sl)) 3 (whoM n tn)) 4 (nI (cntP o (3 ^ n)))) 5 (nI (manyM sn ht o n n))) 6 (oI (bstM ht o n 3).1)) 7 (nI 0)) i)), (5, .int (nI 8)), (4, .ref q7), (0, .ref m0)]) hx hb dX2_digest_107 hl (k := 2) rfl (nI_add _ _) (by decide) rfl (fun ls hl => ?_)
        refine lv_goto (tgt := 83) hx hb dX2_digest_110 (by decide) ?_
        exact ih83 (i + 1) _ (by omega) (by omega) (by rw [he8]; rfl) _ _ hP hD hS _ (lv_sub hl [0, 3, 4, 1, 5] rfl)
  exact lp83 9 0 2053 (by omega) (by omega) rfl _ _ hP hD hS _ (lv_sub hl [0, 1, 2, 3, 5] rfl)

set_option maxHeartbeats 4000000 in
set_option maxRecDepth 100000 in
theorem m_X2_digest_p (m0 m1 m2 m3 m4 m5 m6 th n : Nat) (bg : Bool) (tn sl : Nat) (ht sn : Nat → Nat) (o nx kp : Nat → Bool) (ow : Nat → Nat) (hn : n ≤ 5) (hsn : ∀ p, p < 5 → sn p < 32) (hht : ∀ p, p < 5 → ht p < 3) (htn : tn < 2 ^ 20) (h0n : 0 < n) (sz : Nat) : Gl l yX2_digest ws_X2_digest 6 138 6 33 sz (dC, dI) (tyL cI cZ cJ) [.ref m0] (mW cI cZ m0 m1 m2 m3 m4 m5 m6 th n bg tn sl ht sn o nx kp ow) (fun r u => r = digM sn ht o n tn sl ∧ ∃ (a b : Nat) (nx2 kp2 : Nat → Bool) (ow2 : Nat → Nat), ((a = m3 ∧ b = m4) ∨ (a = m4 ∧ b = m3)) ∧ u = mW cI cZ m0 m1 m2 a b m5 m6 0 n bg tn sl ht sn o nx2 kp2 ow2) := by
  refine Gl_of (by decide +kernel) (Nat.le_of_ble_eq_true rfl) ?_
  intro pr ev sx mi ag bl me cd Q ls A S hP hK hD hA hZ hNw hl hin ret
  obtain ⟨hx, hb, hml, hown, hts⟩ := id S
  have hown : sx.vm.findClass RX2 = some mi.cls := hown
  have hS : va_S A sx.heap sx.heap [] := va_S.rf
  have hl : lv_has ls 10 [(0, .ref m0)] := hl
  have h3 := p3_243 n hn; have h30 := p3_0 n
  have hre : realN ht n < 3 ^ n := realN_lt n (fun p hp => hht p (by omega))
  have haft : aftM sn ht o n tn = nI (cntP (turnM sn o n (tn % n) (realN ht n)) (3 ^ n)) := by rw [aftM, if_neg (by omega)]
  refine lv_aload_n hx hb dX2_digest_0 rfl (lv_at hl 0 rfl) ?_
  refine lv_iconst (v := nI 0) hx hb dX2_digest_1 (by decide) ?_
  refine va_put (D := (dC, dI)) (ci := 2) (v := .int (nI 0)) (ty := .int) (C := RX2) (T := TX2) (N := 11) hx hb hts inX2 tyX2 tyX2_ok nmX2 hown hK hP hD hS 0 rfl rfl 0 (by decide) (hts _ q_fl_X2_29) (fun _ h9 => h9) rfl (by decide +kernel) rfl rfl (Nat.le_of_ble_eq_true rfl) dX2_digest_2 (fun H locs hP hD hS => ?_)
  have hP : va_P (dC, dI) vwCl (mW cI cZ m0 m1 m2 m3 m4 m5 m6 0 n bg tn sl ht sn o nx kp ow) H := hP
  have hD : va_D A (mW cI cZ m0 m1 m2 m3 m4 m5 m6 0 n bg tn sl ht sn o nx kp ow) := hD
  refine lv_bipush (v := nI 8) hx hb dX2_digest_5 (by decide) ?_
  refine my_newa (atype := .int) (ty := .int) (cI := cI) (a0 := (8, .inl (fun _ => 0))) (N' := 8) hx hb (hts _ q_ac_int) rfl hK 0 rfl hP hD hS hA (fun _ => rfl) (nI_pos (by omega)) (nI_clamp (by omega)) (Nat.le_of_ble_eq_true rfl) (by show _ ≤ 6; omega) (by show _ ≤ 33; omega) dX2_digest_7 (by simp) (fun q7 H hP hD hS => ?_)
  have hP : va_P (dC, dI) vwCl (mW cI cZ m0 m1 m2 m3 m4 m5 m6 0 n bg tn sl ht sn o nx kp ow ++ [(q7, .inl (cI, 8, .inl (fun _ => 0)))]) H := hP
  have hD : va_D A (mW cI cZ m0 m1 m2 m3 m4 m5 m6 0 n bg tn sl ht sn o nx kp ow ++ [(q7, .inl (cI, 8, .inl (fun _ => 0)))]) := hD
  refine lv_dup hx hb dX2_digest_9 rfl ?_
  refine lv_iconst (v := nI 0) hx hb dX2_digest_10 (by decide) ?_
  refine lv_aload_n hx hb dX2_digest_11 rfl (lv_at hl 0 rfl) ?_
  refine va_get (D := (dC, dI)) (ci := 2) (v := .int (nI n)) (C := RX2) (T := TX2) (N := 11) hx hb hts inX2 hown hK hP 0 rfl rfl 1 (by decide) (hts _ q_fl_X2_33) (fun _ h9 => h9) rfl dX2_digest_12 ?_
  refine ka_st hx hb hK hP hD hS 7 0 rfl rfl (j := 0) (v := nI n) (by omega) (by decide) dX2_digest_15 (fun H locs hP hD hS => ?_)
  have hP : va_P (dC, dI) vwCl (mW cI cZ m0 m1 m2 m3 m4 m5 m6 0 n bg tn sl ht sn o nx kp ow ++ [(q7, .inl (cI, 8, .inl (upd (fun _ => 0) 0 (nI n))))]) H := hP
  have hD : va_D A (mW cI cZ m0 m1 m2 m3 m4 m5 m6 0 n bg tn sl ht sn o nx kp ow ++ [(q7, .inl (cI, 8, .inl (upd (fun _ => 0) 0 (nI n))))]) := hD
  refine lv_dup hx hb dX2_digest_16 rfl ?_
  refine lv_iconst (v := nI 1) hx hb dX2_digest_17 (by decide) ?_
  refine lv_aload_n hx hb dX2_digest_18 rfl (lv_at hl 0 rfl) ?_
  refine va_get (D := (dC, dI)) (ci := 2) (v := .int (nI tn)) (C := RX2) (T := TX2) (N := 11) hx hb hts inX2 hown hK hP 0 rfl rfl 9 (by decide) (hts _ q_fl_X2_105) (fun _ h9 => h9) rfl dX2_digest_19 ?_
  refine ka_st hx hb hK hP hD hS 7 0 rfl rfl (j := 1) (v := nI tn) (by omega) (by decide) dX2_digest_22 (fun H locs hP hD hS => ?_)
  have hP : va_P (dC, dI) vwCl (mW cI cZ m0 m1 m2 m3 m4 m5 m6 0 n bg tn sl ht sn o nx kp ow ++ [(q7, .inl (cI, 8, .inl (upd (upd (fun _ => 0) 0 (nI n)) 1 (nI tn))))]) H := hP
  have hD : va_D A (mW cI cZ m0 m1 m2 m3 m4 m5 m6 0 n bg tn sl ht sn o nx kp ow ++ [(q7, .inl (cI, 8, .inl (upd (upd (fun _ => 0) 0 (nI n)) 1 (nI tn))))]) := hD
  refine lv_dup hx hb dX2_digest_23 rfl ?_
  refine lv_iconst (v := nI 2) hx hb dX2_digest_24 (by decide) ?_
  refine lv_aload_n hx hb dX2_digest_25 rfl (lv_at hl 0 rfl) ?_
  refine va_get (D := (dC, dI)) (ci := 2) (v := .int (nI sl)) (C := RX2) (T := TX2) (N := 11) hx hb hts inX2 hown hK hP 0 rfl rfl 10 (by decide) (hts _ q_fl_X2_114) (fun _ h9 => h9) rfl dX2_digest_26 ?_
  refine ka_st hx hb hK hP hD hS 7 0 rfl rfl (j := 2) (v := nI sl) (by omega) (by decide) dX2_digest_29 (fun H locs hP hD hS => ?_)
  have hP : va_P (dC, dI) vwCl (mW cI cZ m0 m1 m2 m3 m4 m5 m6 0 n bg tn sl ht sn o nx kp ow ++ [(q7, .inl (cI, 8, .inl (upd (upd (upd (fun _ => 0) 0 (nI n)) 1 (nI tn)) 2 (nI sl))))]) H := hP
  have hD : va_D A (mW cI cZ m0 m1 m2 m3 m4 m5 m6 0 n bg tn sl ht sn o nx kp ow ++ [(q7, .inl (cI, 8, .inl (upd (upd (upd (fun _ => 0) 0 (nI n)) 1 (nI tn)) 2 (nI sl))))]) := hD
  refine lv_dup hx hb dX2_digest_30 rfl ?_
  refine lv_iconst (v := nI 3) hx hb dX2_digest_31 (by decide) ?_
  refine lv_aload_n hx hb dX2_digest_32 rfl (lv_at hl 0 rfl) ?_
  refine call_Vp (As := []) (rest := [.int (nI 3), .ref q7, .ref q7]) S (m_X2_whose m0 m1 m2 m3 m4 m5 m6 0 n bg tn sl ht sn o nx kp ow  hn htn) g_X2_X2_whose hd_X2_whose ⟨Nat.le_of_ble_eq_true rfl, Nat.le_of_ble_eq_true rfl⟩ ⟨by show _ ≤ 6; omega, by show _ ≤ 33; omega⟩ hP hD hK hS hZ [0, 1, 2, 3, 4, 5, 6] rfl (by decide) 0 rfl rfl hl.1 rfl (Nat.le_of_ble_eq_true rfl) dX2_digest_33 (fun r H locs hq hP hS => ?_)
  obtain rfl := hq
  refine ka_st hx hb hK hP hD hS 7 0 rfl rfl (j := 3) (v := (whoM n tn)) (by omega) (by decide) dX2_digest_36 (fun H locs hP hD hS => ?_)
  have hP : va_P (dC, dI) vwCl (mW cI cZ m0 m1 m2 m3 m4 m5 m6 0 n bg tn sl ht sn o nx kp ow ++ [(q7, .inl (cI, 8, .inl (upd (upd (upd (upd (fun _ => 0) 0 (nI n)) 1 (nI tn)) 2 (nI sl)) 3 (whoM n tn))))]) H := hP
  have hD : va_D A (mW cI cZ m0 m1 m2 m3 m4 m5 m6 0 n bg tn sl ht sn o nx kp ow ++ [(q7, .inl (cI, 8, .inl (upd (upd (upd (upd (fun _ => 0) 0 (nI n)) 1 (nI tn)) 2 (nI sl)) 3 (whoM n tn))))]) := hD
  refine lv_dup hx hb dX2_digest_37 rfl ?_
  refine lv_iconst (v := nI 4) hx hb dX2_digest_38 (by decide) ?_
  refine lv_aload_n hx hb dX2_digest_39 rfl (lv_at hl 0 rfl) ?_
  refine call_Vp (As := []) (rest := [.int (nI 4), .ref q7, .ref q7]) S (m_X2_openNow m0 m1 m2 m3 m4 m5 m6 0 n bg tn sl ht sn o nx kp ow  hn) g_X2_X2_openNow hd_X2_openNow ⟨Nat.le_of_ble_eq_true rfl, Nat.le_of_ble_eq_true rfl⟩ ⟨by show _ ≤ 6; omega, by show _ ≤ 33; omega⟩ hP hD hK hS hZ [0, 1, 2, 3, 4, 5, 6] rfl (by decide) 0 rfl rfl hl.1 rfl (Nat.le_of_ble_eq_true rfl) dX2_digest_40 (fun r H locs hq hP hS => ?_)
  obtain rfl := hq
  refine ka_st hx hb hK hP hD hS 7 0 rfl rfl (j := 4) (v := nI (cntP o (3 ^ n))) (by omega) (by decide) dX2_digest_43 (fun H locs hP hD hS => ?_)
  have hP : va_P (dC, dI) vwCl (mW cI cZ m0 m1 m2 m3 m4 m5 m6 0 n bg tn sl ht sn o nx kp ow ++ [(q7, .inl (cI, 8, .inl (upd (upd (upd (upd (upd (fun _ => 0) 0 (nI n)) 1 (nI tn)) 2 (nI sl)) 3 (whoM n tn)) 4 (nI (cntP o (3 ^ n))))))]) H := hP
  have hD : va_D A (mW cI cZ m0 m1 m2 m3 m4 m5 m6 0 n bg tn sl ht sn o nx kp ow ++ [(q7, .inl (cI, 8, .inl (upd (upd (upd (upd (upd (fun _ => 0) 0 (nI n)) 1 (nI tn)) 2 (nI sl)) 3 (whoM n tn)) 4 (nI (cntP o (3 ^ n))))))]) := hD
  refine lv_dup hx hb dX2_digest_44 rfl ?_
  refine lv_iconst (v := nI 5) hx hb dX2_digest_45 (by decide) ?_
  refine lv_aload_n hx hb dX2_digest_46 rfl (lv_at hl 0 rfl) ?_
  refine call_Vp (As := []) (rest := [.int (nI 5), .ref q7, .ref q7]) S (m_X2_many m0 m1 m2 m3 m4 m5 m6 0 n bg tn sl ht sn o nx kp ow  hn hsn hht) g_X2_X2_many hd_X2_many ⟨Nat.le_of_ble_eq_true rfl, Nat.le_of_ble_eq_true rfl⟩ ⟨by show _ ≤ 6; omega, by show _ ≤ 33; omega⟩ hP hD hK hS hZ [0, 1, 2, 3, 4, 5, 6] rfl (by decide) 0 rfl rfl hl.1 rfl (Nat.le_of_ble_eq_true rfl) dX2_digest_47 (fun r H locs hq hP hS => ?_)
  obtain rfl := hq
  refine ka_st hx hb hK hP hD hS 7 0 rfl rfl (j := 5) (v := nI (manyM sn ht o n n)) (by omega) (by decide) dX2_digest_50 (fun H locs hP hD hS => ?_)
  have hP : va_P (dC, dI) vwCl (mW cI cZ m0 m1 m2 m3 m4 m5 m6 0 n bg tn sl ht sn o nx kp ow ++ [(q7, .inl (cI, 8, .inl (upd (upd (upd (upd (upd (upd (fun _ => 0) 0 (nI n)) 1 (nI tn)) 2 (nI sl)) 3 (whoM n tn)) 4 (nI (cntP o (3 ^ n)))) 5 (nI (manyM sn ht o n n)))))]) H := hP
  have hD : va_D A (mW cI cZ m0 m1 m2 m3 m4 m5 m6 0 n bg tn sl ht sn o nx kp ow ++ [(q7, .inl (cI, 8, .inl (upd (upd (upd (upd (upd (upd (fun _ => 0) 0 (nI n)) 1 (nI tn)) 2 (nI sl)) 3 (whoM n tn)) 4 (nI (cntP o (3 ^ n)))) 5 (nI (manyM sn ht o n n)))))]) := hD
  refine lv_dup hx hb dX2_digest_51 rfl ?_
  refine lv_bipush (v := nI 6) hx hb dX2_digest_52 (by decide) ?_
  refine lv_aload_n hx hb dX2_digest_54 rfl (lv_at hl 0 rfl) ?_
  refine call_Vp (As := []) (rest := [.int (nI 6), .ref q7, .ref q7]) S (m_X2_best m0 m1 m2 m3 m4 m5 m6 0 n bg tn sl ht sn o nx kp ow  hn hsn hht) g_X2_X2_best hd_X2_best ⟨Nat.le_of_ble_eq_true rfl, Nat.le_of_ble_eq_true rfl⟩ ⟨by show _ ≤ 6; omega, by show _ ≤ 33; omega⟩ hP hD hK hS hZ [0, 1, 2, 3, 4, 5, 6] rfl (by decide) 0 rfl rfl hl.1 rfl (Nat.le_of_ble_eq_true rfl) dX2_digest_55 (fun r H locs hq hP hS => ?_)
  obtain rfl := hq
  refine ka_st hx hb hK hP hD hS 7 0 rfl rfl (j := 6) (v := (oI (bstM ht o n 3).1)) (by omega) (by decide) dX2_digest_58 (fun H locs hP hD hS => ?_)
  have hP : va_P (dC, dI) vwCl (mW cI cZ m0 m1 m2 m3 m4 m5 m6 0 n bg tn sl ht sn o nx kp ow ++ [(q7, .inl (cI, 8, .inl (upd (upd (upd (upd (upd (upd (upd (fun _ => 0) 0 (nI n)) 1 (nI tn)) 2 (nI sl)) 3 (whoM n tn)) 4 (nI (cntP o (3 ^ n)))) 5 (nI (manyM sn ht o n n))) 6 (oI (bstM ht o n 3).1))))]) H := hP
  have hD : va_D A (mW cI cZ m0 m1 m2 m3 m4 m5 m6 0 n bg tn sl ht sn o nx kp ow ++ [(q7, .inl (cI, 8, .inl (upd (upd (upd (upd (upd (upd (upd (fun _ => 0) 0 (nI n)) 1 (nI tn)) 2 (nI sl)) 3 (whoM n tn)) 4 (nI (cntP o (3 ^ n)))) 5 (nI (manyM sn ht o n n))) 6 (oI (bstM ht o n 3).1))))]) := hD
  refine lv_dup hx hb dX2_digest_59 rfl ?_
  refine lv_bipush (v := nI 7) hx hb dX2_digest_60 (by decide) ?_
  refine lv_aload_n hx hb dX2_digest_62 rfl (lv_at hl 0 rfl) ?_
  refine call_Vi (As := []) (wr := [(q7, .inl (cI, 8, .inl (upd (upd (upd (upd (upd (upd (upd (fun _ => 0) 0 (nI n)) 1 (nI tn)) 2 (nI sl)) 3 (whoM n tn)) 4 (nI (cntP o (3 ^ n)))) 5 (nI (manyM sn ht o n n))) 6 (oI (bstM ht o n 3).1))))]) (rest := [.int (nI 7), .ref q7, .ref q7]) S (m_X2_after_p m0 m1 m2 m3 m4 m5 m6 0 n bg tn sl ht sn o nx kp ow hn hsn hht htn (by omega)) g_X2_X2_after hd_X2_after ⟨Nat.le_of_ble_eq_true rfl, Nat.le_of_ble_eq_true rfl⟩ ⟨by show _ ≤ 6; omega, by show _ ≤ 33; omega⟩ hP hD hK hS hZ [0, 1, 2, 3, 4, 5, 6] [7] rfl rfl (by decide) 0 rfl rfl hl.1 rfl (Nat.le_of_ble_eq_true rfl) dX2_digest_63 (fun r u H locs hq hP hD hS => ?_)
  obtain ⟨rfl, nx3, ow3, rfl⟩ := hq
  have hP := hP.sub (ws' := mW cI cZ m0 m1 m2 m4 m3 m5 m6 0 n bg tn sl ht sn o nx3 o ow3 ++ [(q7, .inl (cI, 8, .inl (upd (upd (upd (upd (upd (upd (upd (fun _ => 0) 0 (nI n)) 1 (nI tn)) 2 (nI sl)) 3 (whoM n tn)) 4 (nI (cntP o (3 ^ n)))) 5 (nI (manyM sn ht o n n))) 6 (oI (bstM ht o n 3).1))))]) [1, 2, 3, 4, 5, 6, 7, 0] rfl
  have hD := hD.sub (ws' := mW cI cZ m0 m1 m2 m4 m3 m5 m6 0 n bg tn sl ht sn o nx3 o ow3 ++ [(q7, .inl (cI, 8, .inl (upd (upd (upd (upd (upd (upd (upd (fun _ => 0) 0 (nI n)) 1 (nI tn)) 2 (nI sl)) 3 (whoM n tn)) 4 (nI (cntP o (3 ^ n)))) 5 (nI (manyM sn ht o n n))) 6 (oI (bstM ht o n 3).1))))]) [1, 2, 3, 4, 5, 6, 7, 0] (by decide) rfl
  refine ka_st hx hb hK hP hD hS 7 0 rfl rfl (j := 7) (v := nI (cntP (turnM sn o n (tn % n) (realN ht n)) (3 ^ n))) (by omega) (by decide) dX2_digest_66 (fun H locs hP hD hS => ?_)
  have hP : va_P (dC, dI) vwCl (mW cI cZ m0 m1 m2 m4 m3 m5 m6 0 n bg tn sl ht sn o nx3 o ow3 ++ [(q7, .inl (cI, 8, .inl (upd (upd (upd (upd (upd (upd (upd (upd (fun _ => 0) 0 (nI n)) 1 (nI tn)) 2 (nI sl)) 3 (whoM n tn)) 4 (nI (cntP o (3 ^ n)))) 5 (nI (manyM sn ht o n n))) 6 (oI (bstM ht o n 3).1)) 7 (nI (cntP (turnM sn o n (tn % n) (realN ht n)) (3 ^ n))))))]) H := hP
  have hD : va_D A (mW cI cZ m0 m1 m2 m4 m3 m5 m6 0 n bg tn sl ht sn o nx3 o ow3 ++ [(q7, .inl (cI, 8, .inl (upd (upd (upd (upd (upd (upd (upd (upd (fun _ => 0) 0 (nI n)) 1 (nI tn)) 2 (nI sl)) 3 (whoM n tn)) 4 (nI (cntP o (3 ^ n)))) 5 (nI (manyM sn ht o n n))) 6 (oI (bstM ht o n 3).1)) 7 (nI (cntP (turnM sn o n (tn % n) (realN ht n)) (3 ^ n))))))]) := hD
  refine lv_astore_n (lv' := [(1, .ref q7), (0, .ref m0)]) hx hb dX2_digest_67 rfl hl (by decide) rfl (fun ls hl => ?_)
  refine lv_ldc2 hx hb hown (hts _ q_kl_X2_173) dX2_digest_68 ?_
  refine lv_lstore_n (lv' := [(2, .long 2053), (1, .ref q7), (0, .ref m0)]) hx hb dX2_digest_71 rfl hl (by decide) rfl (fun ls hl => ?_)
  refine lv_aload_n hx hb dX2_digest_72 rfl (lv_at hl 1 rfl) ?_
  refine lv_astore (lv' := [(4, .ref q7), (2, .long 2053), (1, .ref q7), (0, .ref m0)]) hx hb dX2_digest_73 hl (by decide) rfl (fun ls hl => ?_)
  refine lv_aload hx hb dX2_digest_75 (lv_at hl 0 rfl) ?_
  refine va_alen (v := nI 8) hx hb hK hP 7 0 rfl rfl rfl dX2_digest_77 ?_
  refine lv_istore (lv' := [(5, .int (nI 8)), (4, .ref q7), (2, .long 2053), (1, .ref q7), (0, .ref m0)]) hx hb dX2_digest_78 hl (by decide) rfl (fun ls hl => ?_)
  refine lv_iconst (v := nI 0) hx hb dX2_digest_80 (by decide) ?_
  refine lv_istore (lv' := [(6, .int (nI 0)), (5, .int (nI 8)), (4, .ref q7), (2, .long 2053), (1, .ref q7), (0, .ref m0)]) hx hb dX2_digest_81 hl (by decide) rfl (fun ls hl => ?_)
  have lp83 : ∀ (kf : Nat) (i : Nat) (e8 : Int64), 8 < i + kf → (i ≤ 8) → (e8 = dgF (upd (upd (upd (upd (upd (upd (upd (upd (fun _ => 0) 0 (nI n)) 1 (nI tn)) 2 (nI sl)) 3 (whoM n tn)) 4 (nI (cntP o (3 ^ n)))) 5 (nI (manyM sn ht o n n))) 6 (oI (bstM ht o n 3).1)) 7 (nI (cntP (turnM sn o n (tn % n) (realN ht n)) (3 ^ n)))) 2053 i) → ∀ (H : Heap) (locs : List Loc), va_P (dC, dI) vwCl (mW cI cZ m0 m1 m2 m4 m3 m5 m6 0 n bg tn sl ht sn o nx3 o ow3 ++ [(q7, .inl (cI, 8, .inl (upd (upd (upd (upd (upd (upd (upd (upd (fun _ => 0) 0 (nI n)) 1 (nI tn)) 2 (nI sl)) 3 (whoM n tn)) 4 (nI (cntP o (3 ^ n)))) 5 (nI (manyM sn ht o n n))) 6 (oI (bstM ht o n 3).1)) 7 (nI (cntP (turnM sn o n (tn % n) (realN ht n)) (3 ^ n))))))]) H → va_D A (mW cI cZ m0 m1 m2 m4 m3 m5 m6 0 n bg tn sl ht sn o nx3 o ow3 ++ [(q7, .inl (cI, 8, .inl (upd (upd (upd (upd (upd (upd (upd (upd (fun _ => 0) 0 (nI n)) 1 (nI tn)) 2 (nI sl)) 3 (whoM n tn)) 4 (nI (cntP o (3 ^ n)))) 5 (nI (manyM sn ht o n n))) 6 (oI (bstM ht o n 3).1)) 7 (nI (cntP (turnM sn o n (tn % n) (realN ht n)) (3 ^ n))))))]) → va_S A sx.heap H locs → ∀ ls : Array Slot, lv_has ls 10 [(6, .int (nI i)), (5, .int (nI 8)), (4, .ref q7), (2, .long e8), (0, .ref m0)] → W pr l ev (rmG 6 138 6 33) sx mi ag bl me cd H locs (0 + 1) (0 + 8) Q (F0 mi 83 ls []) := by
    intro kf
    induction kf with
    | zero => intro i e8 hkf hi8 he8; exact absurd hkf (by omega)
    | succ kf ih83 =>
      intro i e8 hkf hi8 he8 H locs hP hD hS ls hl
      refine lv_iload hx hb dX2_digest_83 (lv_at hl 0 rfl) ?_
      refine lv_iload hx hb dX2_digest_85 (lv_at hl 1 rfl) ?_
      refine icN_ge (tgt := 113) hx hb dX2_digest_87 (by decide) (by omega) (by omega) (fun c_87 => ?_) (fun c_87 => ?_)
      · refine lv_iconst (v := nI 0) hx hb dX2_digest_113 (by decide) ?_
        have hP := hP.sub (ws' := mW cI cZ m0 m1 m2 m4 m3 m5 m6 0 n bg tn sl ht sn o nx3 o ow3) [0, 1, 2, 3, 4, 5, 6] rfl
        have hD := hD.sub (ws' := mW cI cZ m0 m1 m2 m4 m3 m5 m6 0 n bg tn sl ht sn o nx3 o ow3) [0, 1, 2, 3, 4, 5, 6] (by decide) rfl
        refine lv_istore (lv' := [(4, .int (nI 0)), (6, .int (nI i)), (5, .int (nI 8)), (2, .long e8), (0, .ref m0)]) hx hb dX2_digest_114 hl (by decide) rfl (fun ls hl => ?_)
        have lp116 : ∀ (kf : Nat) (p : Nat) (kq : Nat → Bool) (oq : Nat → Nat) (e : Int64), n < p + kf → (p ≤ n) → (e = dmA sn ht o n (dg (dg (dg (dg (dg (dg (dg (dg 2053 (nI n)) (nI tn)) (nI sl)) (whoM n tn)) (nI (cntP o (3 ^ n)))) (nI (manyM sn ht o n n))) (oI (bstM ht o n 3).1)) (aftM sn ht o n tn)) p) → ∀ (H : Heap) (locs : List Loc), va_P (dC, dI) vwCl (mW cI cZ m0 m1 m2 m4 m3 m5 m6 0 n bg tn sl ht sn o nx3 kq oq) H → va_D A (mW cI cZ m0 m1 m2 m4 m3 m5 m6 0 n bg tn sl ht sn o nx3 kq oq) → va_S A sx.heap H locs → ∀ ls : Array Slot, lv_has ls 10 [(4, .int (nI p)), (2, .long e), (0, .ref m0)] → W pr l ev (rmG 6 138 6 33) sx mi ag bl me cd H locs (1 + p) (8 + 5 * p) Q (F0 mi 116 ls []) := by
          intro kf
          induction kf with
          | zero => intro p kq oq e hkf hp5 he; exact absurd hkf (by omega)
          | succ kf ih116 =>
            intro p kq oq e hkf hp5 he H locs hP hD hS ls hl
            refine lv_iload hx hb dX2_digest_116 (lv_at hl 0 rfl) ?_
            refine lv_aload_n hx hb dX2_digest_118 rfl (lv_at hl 2 rfl) ?_
            refine va_get (D := (dC, dI)) (ci := 2) (v := .int (nI n)) (C := RX2) (T := TX2) (N := 11) hx hb hts inX2 hown hK hP 0 rfl rfl 1 (by decide) (hts _ q_fl_X2_33) (fun _ h9 => h9) rfl dX2_digest_119 ?_
            refine icN_ge (tgt := 332) hx hb dX2_digest_122 (by decide) (by omega) (by omega) (fun c_122 => ?_) (fun c_122 => ?_)
            · refine lv_lload_n hx hb dX2_digest_332 rfl (lv_at hl 1 rfl) ?_
              refine W.widen (k := 6) (n := 33) (by omega) (by omega) ?_
              exact ret _ (mW cI cZ m0 m1 m2 m4 m3 m5 m6 0 n bg tn sl ht sn o nx3 kq oq) _ _ _ _ dX2_digest_333 ⟨by rw [he, show p = n by omega]; rfl, _, _, _, _, _, Or.inr ⟨rfl, rfl⟩, rfl⟩ hP hD hS
            · refine lv_iconst (v := nI 5) hx hb dX2_digest_125 (by decide) ?_
              refine my_newa (atype := .int) (ty := .int) (cI := cI) (a0 := (5, .inl (fun _ => 0))) (N' := 5) hx hb (hts _ q_ac_int) rfl hK 0 rfl hP hD hS hA (fun _ => rfl) (nI_pos (by omega)) (nI_clamp (by omega)) (Nat.le_of_ble_eq_true rfl) (by show _ ≤ 6; omega) (by show _ ≤ 33; omega) dX2_digest_126 (by simp) (fun q126 H hP hD hS => ?_)
              have hP : va_P (dC, dI) vwCl (mW cI cZ m0 m1 m2 m4 m3 m5 m6 0 n bg tn sl ht sn o nx3 kq oq ++ [(q126, .inl (cI, 5, .inl (fun _ => 0)))]) H := hP
              have hD : va_D A (mW cI cZ m0 m1 m2 m4 m3 m5 m6 0 n bg tn sl ht sn o nx3 kq oq ++ [(q126, .inl (cI, 5, .inl (fun _ => 0)))]) := hD
              refine lv_dup hx hb dX2_digest_128 rfl ?_
              refine lv_iconst (v := nI 0) hx hb dX2_digest_129 (by decide) ?_
              refine lv_aload_n hx hb dX2_digest_130 rfl (lv_at hl 2 rfl) ?_
              refine va_get (D := (dC, dI)) (ci := 2) (v := .ref m1) (C := RX2) (T := TX2) (N := 11) hx hb hts inX2 hown hK hP 0 rfl rfl 3 (by decide) (hts _ q_fl_X2_9) (fun _ h9 => h9) rfl dX2_digest_131 ?_
              refine lv_iload hx hb dX2_digest_134 (lv_at hl 0 rfl) ?_
              refine ia_ld hx hb hK hP 1 0 rfl rfl (j := p) (by omega) (by decide) dX2_digest_136 ?_
              refine ka_st hx hb hK hP hD hS 7 0 rfl rfl (j := 0) (v := nI (ht p)) (by omega) (by decide) dX2_digest_137 (fun H locs hP hD hS => ?_)
              have hP : va_P (dC, dI) vwCl (mW cI cZ m0 m1 m2 m4 m3 m5 m6 0 n bg tn sl ht sn o nx3 kq oq ++ [(q126, .inl (cI, 5, .inl (upd (fun _ => 0) 0 (nI (ht p)))))]) H := hP
              have hD : va_D A (mW cI cZ m0 m1 m2 m4 m3 m5 m6 0 n bg tn sl ht sn o nx3 kq oq ++ [(q126, .inl (cI, 5, .inl (upd (fun _ => 0) 0 (nI (ht p)))))]) := hD
              refine lv_dup hx hb dX2_digest_138 rfl ?_
              refine lv_iconst (v := nI 1) hx hb dX2_digest_139 (by decide) ?_
              refine lv_aload_n hx hb dX2_digest_140 rfl (lv_at hl 2 rfl) ?_
              refine lv_iload hx hb dX2_digest_141 (lv_at hl 0 rfl) ?_
              refine call_Vp (As := [.int (nI p)]) (rest := [.int (nI 1), .ref q126, .ref q126]) S (m_X2_possible m0 m1 m2 m4 m3 m5 m6 0 n bg tn sl ht sn o nx3 kq oq p hn hsn hht (by omega)) g_X2_X2_possible hd_X2_possible ⟨Nat.le_of_ble_eq_true rfl, Nat.le_of_ble_eq_true rfl⟩ ⟨by show _ ≤ 6; omega, by show _ ≤ 33; omega⟩ hP hD hK hS hZ [0, 1, 2, 3, 4, 5, 6] rfl (by decide) 0 rfl rfl hl.1 rfl (Nat.le_of_ble_eq_true rfl) dX2_digest_143 (fun r H locs hq hP hS => ?_)
              obtain rfl := hq
              refine ka_st hx hb hK hP hD hS 7 0 rfl rfl (j := 1) (v := nI (possM sn ht o n p)) (by omega) (by decide) dX2_digest_146 (fun H locs hP hD hS => ?_)
              have hP : va_P (dC, dI) vwCl (mW cI cZ m0 m1 m2 m4 m3 m5 m6 0 n bg tn sl ht sn o nx3 kq oq ++ [(q126, .inl (cI, 5, .inl (upd (upd (fun _ => 0) 0 (nI (ht p))) 1 (nI (possM sn ht o n p)))))]) H := hP
              have hD : va_D A (mW cI cZ m0 m1 m2 m4 m3 m5 m6 0 n bg tn sl ht sn o nx3 kq oq ++ [(q126, .inl (cI, 5, .inl (upd (upd (fun _ => 0) 0 (nI (ht p))) 1 (nI (possM sn ht o n p)))))]) := hD
              refine lv_dup hx hb dX2_digest_147 rfl ?_
              refine lv_iconst (v := nI 2) hx hb dX2_digest_148 (by decide) ?_
              refine lv_aload_n hx hb dX2_digest_149 rfl (lv_at hl 2 rfl) ?_
              refine lv_iload hx hb dX2_digest_150 (lv_at hl 0 rfl) ?_
              refine call_Vp (As := [.int (nI p)]) (rest := [.int (nI 2), .ref q126, .ref q126]) S (m_X2_certainNow m0 m1 m2 m4 m3 m5 m6 0 n bg tn sl ht sn o nx3 kq oq p hn hsn hht (by omega)) g_X2_X2_certainNow hd_X2_certainNow ⟨Nat.le_of_ble_eq_true rfl, Nat.le_of_ble_eq_true rfl⟩ ⟨by show _ ≤ 6; omega, by show _ ≤ 33; omega⟩ hP hD hK hS hZ [0, 1, 2, 3, 4, 5, 6] rfl (by decide) 0 rfl rfl hl.1 rfl (Nat.le_of_ble_eq_true rfl) dX2_digest_152 (fun r H locs hq hP hS => ?_)
              obtain rfl := hq
              refine tern_eq hx hb dX2_digest_155 dX2_digest_158 dX2_digest_159 dX2_digest_162 (by decide) (by decide) ?_
              refine ka_st hx hb hK hP hD hS 7 0 rfl rfl (j := 2) (v := bI (certM sn ht o n p)) (by omega) (by decide) dX2_digest_163 (fun H locs hP hD hS => ?_)
              have hP : va_P (dC, dI) vwCl (mW cI cZ m0 m1 m2 m4 m3 m5 m6 0 n bg tn sl ht sn o nx3 kq oq ++ [(q126, .inl (cI, 5, .inl (upd (upd (upd (fun _ => 0) 0 (nI (ht p))) 1 (nI (possM sn ht o n p))) 2 (bI (certM sn ht o n p)))))]) H := hP
              have hD : va_D A (mW cI cZ m0 m1 m2 m4 m3 m5 m6 0 n bg tn sl ht sn o nx3 kq oq ++ [(q126, .inl (cI, 5, .inl (upd (upd (upd (fun _ => 0) 0 (nI (ht p))) 1 (nI (possM sn ht o n p))) 2 (bI (certM sn ht o n p)))))]) := hD
              refine lv_dup hx hb dX2_digest_164 rfl ?_
              refine lv_iconst (v := nI 3) hx hb dX2_digest_165 (by decide) ?_
              refine lv_aload_n hx hb dX2_digest_166 rfl (lv_at hl 2 rfl) ?_
              refine lv_iload hx hb dX2_digest_167 (lv_at hl 0 rfl) ?_
              refine call_Vp (As := [.int (nI p)]) (rest := [.int (nI 3), .ref q126, .ref q126]) S (m_X2_known m0 m1 m2 m4 m3 m5 m6 0 n bg tn sl ht sn o nx3 kq oq p hn hht (by omega)) g_X2_X2_known hd_X2_known ⟨Nat.le_of_ble_eq_true rfl, Nat.le_of_ble_eq_true rfl⟩ ⟨by show _ ≤ 6; omega, by show _ ≤ 33; omega⟩ hP hD hK hS hZ [0, 1, 2, 3, 4, 5, 6] rfl (by decide) 0 rfl rfl hl.1 rfl (Nat.le_of_ble_eq_true rfl) dX2_digest_169 (fun r H locs hq hP hS => ?_)
              obtain rfl := hq
              refine tern_eq hx hb dX2_digest_172 dX2_digest_175 dX2_digest_176 dX2_digest_179 (by decide) (by decide) ?_
              refine ka_st hx hb hK hP hD hS 7 0 rfl rfl (j := 3) (v := bI (allM ht o n p)) (by omega) (by decide) dX2_digest_180 (fun H locs hP hD hS => ?_)
              have hP : va_P (dC, dI) vwCl (mW cI cZ m0 m1 m2 m4 m3 m5 m6 0 n bg tn sl ht sn o nx3 kq oq ++ [(q126, .inl (cI, 5, .inl (upd (upd (upd (upd (fun _ => 0) 0 (nI (ht p))) 1 (nI (possM sn ht o n p))) 2 (bI (certM sn ht o n p))) 3 (bI (allM ht o n p)))))]) H := hP
              have hD : va_D A (mW cI cZ m0 m1 m2 m4 m3 m5 m6 0 n bg tn sl ht sn o nx3 kq oq ++ [(q126, .inl (cI, 5, .inl (upd (upd (upd (upd (fun _ => 0) 0 (nI (ht p))) 1 (nI (possM sn ht o n p))) 2 (bI (certM sn ht o n p))) 3 (bI (allM ht o n p)))))]) := hD
              refine lv_dup hx hb dX2_digest_181 rfl ?_
              refine lv_iconst (v := nI 4) hx hb dX2_digest_182 (by decide) ?_
              refine lv_aload_n hx hb dX2_digest_183 rfl (lv_at hl 2 rfl) ?_
              refine lv_iload hx hb dX2_digest_184 (lv_at hl 0 rfl) ?_
              refine call_Vi (As := [.int (nI p)]) (wr := [(q126, .inl (cI, 5, .inl (upd (upd (upd (upd (fun _ => 0) 0 (nI (ht p))) 1 (nI (possM sn ht o n p))) 2 (bI (certM sn ht o n p))) 3 (bI (allM ht o n p)))))]) (rest := [.int (nI 4), .ref q126, .ref q126]) S (m_X2_ifTold m0 m1 m2 m4 m3 m5 m6 0 n bg tn sl ht sn o nx3 kq oq p hn hsn hht (by omega)) g_X2_X2_ifTold hd_X2_ifTold ⟨Nat.le_of_ble_eq_true rfl, Nat.le_of_ble_eq_true rfl⟩ ⟨by show _ ≤ 6; omega, by show _ ≤ 33; omega⟩ hP hD hK hS hZ [0, 1, 2, 3, 4, 5, 6] [7] rfl rfl (by decide) 0 rfl rfl hl.1 rfl (Nat.le_of_ble_eq_true rfl) dX2_digest_186 (fun r u H locs hq hP hD hS => ?_)
              obtain ⟨rfl, rfl⟩ := hq
              have hP := hP.sub (ws' := mW cI cZ m0 m1 m2 m4 m3 m5 m6 0 n bg tn sl ht sn o nx3 o oq ++ [(q126, .inl (cI, 5, .inl (upd (upd (upd (upd (fun _ => 0) 0 (nI (ht p))) 1 (nI (possM sn ht o n p))) 2 (bI (certM sn ht o n p))) 3 (bI (allM ht o n p)))))]) [1, 2, 3, 4, 5, 6, 7, 0] rfl
              have hD := hD.sub (ws' := mW cI cZ m0 m1 m2 m4 m3 m5 m6 0 n bg tn sl ht sn o nx3 o oq ++ [(q126, .inl (cI, 5, .inl (upd (upd (upd (upd (fun _ => 0) 0 (nI (ht p))) 1 (nI (possM sn ht o n p))) 2 (bI (certM sn ht o n p))) 3 (bI (allM ht o n p)))))]) [1, 2, 3, 4, 5, 6, 7, 0] (by decide) rfl
              refine ka_st hx hb hK hP hD hS 7 0 rfl rfl (j := 4) (v := nI (manyM sn ht (mix (toldF ht o p) o (3 ^ n)) n n)) (by omega) (by decide) dX2_digest_189 (fun H locs hP hD hS => ?_)
              have hP : va_P (dC, dI) vwCl (mW cI cZ m0 m1 m2 m4 m3 m5 m6 0 n bg tn sl ht sn o nx3 o oq ++ [(q126, .inl (cI, 5, .inl (upd (upd (upd (upd (upd (fun _ => 0) 0 (nI (ht p))) 1 (nI (possM sn ht o n p))) 2 (bI (certM sn ht o n p))) 3 (bI (allM ht o n p))) 4 (nI (manyM sn ht (mix (toldF ht o p) o (3 ^ n)) n n)))))]) H := hP
              have hD : va_D A (mW cI cZ m0 m1 m2 m4 m3 m5 m6 0 n bg tn sl ht sn o nx3 o oq ++ [(q126, .inl (cI, 5, .inl (upd (upd (upd (upd (upd (fun _ => 0) 0 (nI (ht p))) 1 (nI (possM sn ht o n p))) 2 (bI (certM sn ht o n p))) 3 (bI (allM ht o n p))) 4 (nI (manyM sn ht (mix (toldF ht o p) o (3 ^ n)) n n)))))]) := hD
              refine lv_astore (lv' := [(5, .ref q126), (4, .int (nI p)), (2, .long e), (0, .ref m0)]) hx hb dX2_digest_190 hl (by decide) rfl (fun ls hl => ?_)
              refine lv_aload hx hb dX2_digest_192 (lv_at hl 0 rfl) ?_
              refine lv_astore (lv' := [(6, .ref q126), (5, .ref q126), (4, .int (nI p)), (2, .long e), (0, .ref m0)]) hx hb dX2_digest_194 hl (by decide) rfl (fun ls hl => ?_)
              refine lv_aload hx hb dX2_digest_196 (lv_at hl 0 rfl) ?_
              refine va_alen (v := nI 5) hx hb hK hP 7 0 rfl rfl rfl dX2_digest_198 ?_
              refine lv_istore (lv' := [(7, .int (nI 5)), (6, .ref q126), (5, .ref q126), (4, .int (nI p)), (2, .long e), (0, .ref m0)]) hx hb dX2_digest_199 hl (by decide) rfl (fun ls hl => ?_)
              refine lv_iconst (v := nI 0) hx hb dX2_digest_201 (by decide) ?_
              refine lv_istore (lv' := [(8, .int (nI 0)), (7, .int (nI 5)), (6, .ref q126), (5, .ref q126), (4, .int (nI p)), (2, .long e), (0, .ref m0)]) hx hb dX2_digest_202 hl (by decide) rfl (fun ls hl => ?_)
              have lp204 : ∀ (kf : Nat) (i5 : Nat) (e5 : Int64), 5 < i5 + kf → (i5 ≤ 5) → (e5 = dgF (upd (upd (upd (upd (upd (fun _ => 0) 0 (nI (ht p))) 1 (nI (possM sn ht o n p))) 2 (bI (certM sn ht o n p))) 3 (bI (allM ht o n p))) 4 (nI (manyM sn ht (mix (toldF ht o p) o (3 ^ n)) n n))) e i5) → ∀ (H : Heap) (locs : List Loc), va_P (dC, dI) vwCl (mW cI cZ m0 m1 m2 m4 m3 m5 m6 0 n bg tn sl ht sn o nx3 o oq ++ [(q126, .inl (cI, 5, .inl (upd (upd (upd (upd (upd (fun _ => 0) 0 (nI (ht p))) 1 (nI (possM sn ht o n p))) 2 (bI (certM sn ht o n p))) 3 (bI (allM ht o n p))) 4 (nI (manyM sn ht (mix (toldF ht o p) o (3 ^ n)) n n)))))]) H → va_D A (mW cI cZ m0 m1 m2 m4 m3 m5 m6 0 n bg tn sl ht sn o nx3 o oq ++ [(q126, .inl (cI, 5, .inl (upd (upd (upd (upd (upd (fun _ => 0) 0 (nI (ht p))) 1 (nI (possM sn ht o n p))) 2 (bI (certM sn ht o n p))) 3 (bI (allM ht o n p))) 4 (nI (manyM sn ht (mix (toldF ht o p) o (3 ^ n)) n n)))))]) → va_S A sx.heap H locs → ∀ ls : Array Slot, lv_has ls 10 [(8, .int (nI i5)), (7, .int (nI 5)), (6, .ref q126), (4, .int (nI p)), (2, .long e5), (0, .ref m0)] → W pr l ev (rmG 6 138 6 33) sx mi ag bl me cd H locs (1 + p + 1) (8 + 5 * p + 5) Q (F0 mi 204 ls []) := by
                intro kf
                induction kf with
                | zero => intro i5 e5 hkf hi5 he5; exact absurd hkf (by omega)
                | succ kf ih204 =>
                  intro i5 e5 hkf hi5 he5 H locs hP hD hS ls hl
                  refine lv_iload hx hb dX2_digest_204 (lv_at hl 0 rfl) ?_
                  refine lv_iload hx hb dX2_digest_206 (lv_at hl 1 rfl) ?_
                  refine icN_ge (tgt := 234) hx hb dX2_digest_208 (by decide) (by omega) (by omega) (fun c_208 => ?_) (fun c_208 => ?_)
                  · refine lv_iconst (v := nI 0) hx hb dX2_digest_234 (by decide) ?_
                    have hP := hP.sub (ws' := mW cI cZ m0 m1 m2 m4 m3 m5 m6 0 n bg tn sl ht sn o nx3 o oq) [0, 1, 2, 3, 4, 5, 6] rfl
                    have hD := hD.sub (ws' := mW cI cZ m0 m1 m2 m4 m3 m5 m6 0 n bg tn sl ht sn o nx3 o oq) [0, 1, 2, 3, 4, 5, 6] (by decide) rfl
                    refine lv_istore (lv' := [(6, .int (nI 0)), (8, .int (nI i5)), (7, .int (nI 5)), (4, .int (nI p)), (2, .long e5), (0, .ref m0)]) hx hb dX2_digest_235 hl (by decide) rfl (fun ls hl => ?_)
                    have lp237 : ∀ (kf : Nat) (k : Nat) (ok : Nat → Nat) (eo : Int64), n < k + kf → (k ≤ n) → (eo = dmO sn ht o n p (dg (dg (dg (dg (dg e (nI (ht p))) (nI (possM sn ht o n p))) (bI (certM sn ht o n p))) (bI (allM ht o n p))) (nI (manyM sn ht (mix (toldF ht o p) o (3 ^ n)) n n))) k) → ∀ (H : Heap) (locs : List Loc), va_P (dC, dI) vwCl (mW cI cZ m0 m1 m2 m4 m3 m5 m6 0 n bg tn sl ht sn o nx3 o ok) H → va_D A (mW cI cZ m0 m1 m2 m4 m3 m5 m6 0 n bg tn sl ht sn o nx3 o ok) → va_S A sx.heap H locs → ∀ ls : Array Slot, lv_has ls 10 [(6, .int (nI k)), (4, .int (nI p)), (2, .long eo), (0, .ref m0)] → W pr l ev (rmG 6 138 6 33) sx mi ag bl me cd H locs (1 + p + 1) (8 + 5 * p + 5) Q (F0 mi 237 ls []) := by
                      intro kf
                      induction kf with
                      | zero => intro k ok eo hkf hk5 heo; exact absurd hkf (by omega)
                      | succ kf ih237 =>
                        intro k ok eo hkf hk5 heo H locs hP hD hS ls hl
                        refine lv_iload hx hb dX2_digest_237 (lv_at hl 0 rfl) ?_
                        refine lv_aload_n hx hb dX2_digest_239 rfl (lv_at hl 3 rfl) ?_
                        refine va_get (D := (dC, dI)) (ci := 2) (v := .int (nI n)) (C := RX2) (T := TX2) (N := 11) hx hb hts inX2 hown hK hP 0 rfl rfl 1 (by decide) (hts _ q_fl_X2_33) (fun _ h9 => h9) rfl dX2_digest_240 ?_
                        refine icN_ge (tgt := 326) hx hb dX2_digest_243 (by decide) (by omega) (by omega) (fun c_243 => ?_) (fun c_243 => ?_)
                        · refine lv_iinc (v := nI (p + 1)) (lv' := [(4, .int (nI (p + 1))), (6, .int (nI k)), (2, .long eo), (0, .ref m0)]) hx hb dX2_digest_326 hl (k := 1) rfl (nI_add _ _) (by decide) rfl (fun ls hl => ?_)
                          refine lv_goto (tgt := 116) hx hb dX2_digest_329 (by decide) ?_
                          refine W.widen (k := 1 + (p + 1)) (n := 8 + 5 * (p + 1)) (by omega) (by omega) ?_
                          exact ih116 (p + 1) _ _ _ (by omega) (by omega) (by rw [heo, show k = n by omega, he]; rfl) _ _ hP hD hS _ (lv_sub hl [0, 2, 3] rfl)
                        · refine lv_lload_n hx hb dX2_digest_246 rfl (lv_at hl 2 rfl) ?_
                          refine lv_ldc2 hx hb hown (hts _ q_kl_X2_175) dX2_digest_247 ?_
                          refine lv_lmul hx hb dX2_digest_250 ?_
                          refine lv_aload_n hx hb dX2_digest_251 rfl (lv_at hl 3 rfl) ?_
                          refine lv_iload hx hb dX2_digest_252 (lv_at hl 1 rfl) ?_
                          refine lv_iload hx hb dX2_digest_254 (lv_at hl 0 rfl) ?_
                          refine lv_iload hx hb dX2_digest_256 (lv_at hl 1 rfl) ?_
                          refine call_Vp (As := [.int (nI p), .int (nI k), .int (nI p)]) (rest := [.long (eo * 31)]) S (m_X2_sees m0 m1 m2 m4 m3 m5 m6 0 n bg tn sl ht sn o nx3 o ok p k p (by omega) (by omega) (by omega) hsn) g_X2_X2_sees hd_X2_sees ⟨Nat.le_of_ble_eq_true rfl, Nat.le_of_ble_eq_true rfl⟩ ⟨by show _ ≤ 6; omega, by show _ ≤ 33; omega⟩ hP hD hK hS hZ [0, 1, 2, 3, 4, 5, 6] rfl (by decide) 0 rfl rfl hl.1 rfl (Nat.le_of_ble_eq_true rfl) dX2_digest_258 (fun r H locs hq hP hS => ?_)
                          obtain rfl := hq
                          refine tern_eq hx hb dX2_digest_261 dX2_digest_264 dX2_digest_265 dX2_digest_268 (by decide) (by decide) ?_
                          refine lv_i2l hx hb dX2_digest_269 rfl ?_
                          refine lv_ladd hx hb dX2_digest_270 ?_
                          refine lv_lstore_n (lv' := [(2, .long ((eo * 31) + ((bI (seeM sn p k p)).toInt64))), (6, .int (nI k)), (4, .int (nI p)), (0, .ref m0)]) hx hb dX2_digest_271 rfl hl (by decide) rfl (fun ls hl => ?_)
                          refine lv_lload_n hx hb dX2_digest_272 rfl (lv_at hl 0 rfl) ?_
                          refine lv_ldc2 hx hb hown (hts _ q_kl_X2_175) dX2_digest_273 ?_
                          refine lv_lmul hx hb dX2_digest_276 ?_
                          refine lv_aload_n hx hb dX2_digest_277 rfl (lv_at hl 3 rfl) ?_
                          refine lv_iload hx hb dX2_digest_278 (lv_at hl 2 rfl) ?_
                          refine lv_iload hx hb dX2_digest_280 (lv_at hl 1 rfl) ?_
                          refine call_Vp (As := [.int (nI p), .int (nI k)]) (rest := [.long (((eo * 31) + ((bI (seeM sn p k p)).toInt64)) * 31)]) S (m_X2_knows m0 m1 m2 m4 m3 m5 m6 0 n bg tn sl ht sn o nx3 o ok p k hn hsn hht (by omega) (by omega)) g_X2_X2_knows hd_X2_knows ⟨Nat.le_of_ble_eq_true rfl, Nat.le_of_ble_eq_true rfl⟩ ⟨by show _ ≤ 6; omega, by show _ ≤ 33; omega⟩ hP hD hK hS hZ [0, 1, 2, 3, 4, 5, 6] rfl (by decide) 0 rfl rfl hl.1 rfl (Nat.le_of_ble_eq_true rfl) dX2_digest_282 (fun r H locs hq hP hS => ?_)
                          obtain rfl := hq
                          refine tern_eq hx hb dX2_digest_285 dX2_digest_288 dX2_digest_289 dX2_digest_292 (by decide) (by decide) ?_
                          refine lv_i2l hx hb dX2_digest_293 rfl ?_
                          refine lv_ladd hx hb dX2_digest_294 ?_
                          refine lv_lstore_n (lv' := [(2, .long ((((eo * 31) + ((bI (seeM sn p k p)).toInt64)) * 31) + ((bI (knwM sn ht o n p k)).toInt64))), (6, .int (nI k)), (4, .int (nI p)), (0, .ref m0)]) hx hb dX2_digest_295 rfl hl (by decide) rfl (fun ls hl => ?_)
                          refine lv_lload_n hx hb dX2_digest_296 rfl (lv_at hl 0 rfl) ?_
                          refine lv_ldc2 hx hb hown (hts _ q_kl_X2_175) dX2_digest_297 ?_
                          refine lv_lmul hx hb dX2_digest_300 ?_
                          refine lv_aload_n hx hb dX2_digest_301 rfl (lv_at hl 3 rfl) ?_
                          refine lv_iload hx hb dX2_digest_302 (lv_at hl 2 rfl) ?_
                          refine lv_iload hx hb dX2_digest_304 (lv_at hl 1 rfl) ?_
                          refine call_Vi (As := [.int (nI p), .int (nI k)]) (wr := []) (rest := [.long (((((eo * 31) + ((bI (seeM sn p k p)).toInt64)) * 31) + ((bI (knwM sn ht o n p k)).toInt64)) * 31)]) S (m_X2_sure m0 m1 m2 m4 m3 m5 m6 0 n bg tn sl ht sn o nx3 o ok p k hn hsn hht (by omega) (by omega)) g_X2_X2_sure hd_X2_sure ⟨Nat.le_of_ble_eq_true rfl, Nat.le_of_ble_eq_true rfl⟩ ⟨by show _ ≤ 6; omega, by show _ ≤ 33; omega⟩ hP hD hK hS hZ [0, 1, 2, 3, 4, 5, 6] [] rfl rfl (by decide) 0 rfl rfl hl.1 rfl (Nat.le_of_ble_eq_true rfl) dX2_digest_306 (fun r u H locs hq hP hD hS => ?_)
                          obtain ⟨rfl, rfl⟩ := hq
                          have hP : va_P (dC, dI) vwCl (mW cI cZ m0 m1 m2 m4 m3 m5 m6 0 n bg tn sl ht sn o nx3 o (lookF sn k o n ok (3 ^ n))) H := hP
                          have hD : va_D A (mW cI cZ m0 m1 m2 m4 m3 m5 m6 0 n bg tn sl ht sn o nx3 o (lookF sn k o n ok (3 ^ n))) := hD
                          refine tern_eq hx hb dX2_digest_309 dX2_digest_312 dX2_digest_313 dX2_digest_316 (by decide) (by decide) ?_
                          refine lv_i2l hx hb dX2_digest_317 rfl ?_
                          refine lv_ladd hx hb dX2_digest_318 ?_
                          refine lv_lstore_n (lv' := [(2, .long ((((((eo * 31) + ((bI (seeM sn p k p)).toInt64)) * 31) + ((bI (knwM sn ht o n p k)).toInt64)) * 31) + ((bI (sureM sn ht o n p k)).toInt64))), (6, .int (nI k)), (4, .int (nI p)), (0, .ref m0)]) hx hb dX2_digest_319 rfl hl (by decide) rfl (fun ls hl => ?_)
                          refine lv_iinc (v := nI (k + 1)) (lv' := [(6, .int (nI (k + 1))), (2, .long ((((((eo * 31) + ((bI (seeM sn p k p)).toInt64)) * 31) + ((bI (knwM sn ht o n p k)).toInt64)) * 31) + ((bI (sureM sn ht o n p k)).toInt64))), (4, .int (nI p)), (0, .ref m0)]) hx hb dX2_digest_320 hl (k := 1) rfl (nI_add _ _) (by decide) rfl (fun ls hl => ?_)
                          refine lv_goto (tgt := 237) hx hb dX2_digest_323 (by decide) ?_
                          exact ih237 (k + 1) _ _ (by omega) (by omega) (by rw [heo]; rfl) _ _ hP hD hS _ (lv_sub hl [0, 2, 1, 3] rfl)
                    exact lp237 (n + 1) 0 oq _ (by omega) (by omega) (by rw [he5, show i5 = 5 by omega]; rfl) _ _ hP hD hS _ (lv_sub hl [0, 3, 4, 5] rfl)
                  · refine lv_aload hx hb dX2_digest_211 (lv_at hl 2 rfl) ?_
                    refine lv_iload hx hb dX2_digest_213 (lv_at hl 0 rfl) ?_
                    refine ka_ld hx hb hK hP 7 0 rfl rfl (j := i5) (by omega) (by decide) dX2_digest_215 ?_
                    refine lv_istore (lv' := [(9, .int ((upd (upd (upd (upd (upd (fun _ => 0) 0 (nI (ht p))) 1 (nI (possM sn ht o n p))) 2 (bI (certM sn ht o n p))) 3 (bI (allM ht o n p))) 4 (nI (manyM sn ht (mix (toldF ht o p) o (3 ^ n)) n n))) i5)), (8, .int (nI i5)), (7, .int (nI 5)), (6, .ref q126), (4, .int (nI p)), (2, .long e5), (0, .ref m0)]) hx hb dX2_digest_216 hl (by decide) rfl (fun ls hl => ?_)
                    refine lv_lload_n hx hb dX2_digest_218 rfl (lv_at hl 5 rfl) ?_
                    refine lv_ldc2 hx hb hown (hts _ q_kl_X2_175) dX2_digest_219 ?_
                    refine lv_lmul hx hb dX2_digest_222 ?_
                    refine lv_iload hx hb dX2_digest_223 (lv_at hl 0 rfl) ?_
                    refine lv_i2l hx hb dX2_digest_225 rfl ?_
                    refine lv_ladd hx hb dX2_digest_226 ?_
                    refine lv_lstore_n (lv' := [(2, .long ((e5 * 31) + (((upd (upd (upd (upd (upd (fun _ => 0) 0 (nI (ht p))) 1 (nI (possM sn ht o n p))) 2 (bI (certM sn ht o n p))) 3 (bI (allM ht o n p))) 4 (nI (manyM sn ht (mix (toldF ht o p) o (3 ^ n)) n n))) i5).toInt64))), (9, .int ((upd (upd (upd (upd (upd (fun _ => 0) 0 (nI (ht p))) 1 (nI (possM sn ht o n p))) 2 (bI (certM sn ht o n p))) 3 (bI (allM ht o n p))) 4 (nI (manyM sn ht (mix (toldF ht o p) o (3 ^ n)) n n))) i5)), (8, .int (nI i5)), (7, .int (nI 5)), (6, .ref q126), (4, .int (nI p)), (0, .ref m0)]) hx hb dX2_digest_227 rfl hl (by decide) rfl (fun ls hl => ?_)
                    refine lv_iinc (v := nI (i5 + 1)) (lv' := [(8, .int (nI (i5 + 1))), (2, .long ((e5 * 31) + (((upd (upd (upd (upd (upd (fun _ => 0) 0 (nI (ht p))) 1 (nI (possM sn ht o n p))) 2 (bI (certM sn ht o n p))) 3 (bI (allM ht o n p))) 4 (nI (manyM sn ht (mix (toldF ht o p) o (3 ^ n)) n n))) i5).toInt64))), (9, .int ((upd (upd (upd (upd (upd (fun _ => 0) 0 (nI (ht p))) 1 (nI (possM sn ht o n p))) 2 (bI (certM sn ht o n p))) 3 (bI (allM ht o n p))) 4 (nI (manyM sn ht (mix (toldF ht o p) o (3 ^ n)) n n))) i5)), (7, .int (nI 5)), (6, .ref q126), (4, .int (nI p)), (0, .ref m0)]) hx hb dX2_digest_228 hl (k := 2) rfl (nI_add _ _) (by decide) rfl (fun ls hl => ?_)
                    refine lv_goto (tgt := 204) hx hb dX2_digest_231 (by decide) ?_
                    exact ih204 (i5 + 1) _ (by omega) (by omega) (by rw [he5]; rfl) _ _ hP hD hS _ (lv_sub hl [0, 3, 4, 5, 1, 6] rfl)
              exact lp204 6 0 _ (by omega) (by omega) rfl _ _ hP hD hS _ (lv_sub hl [0, 1, 2, 4, 5, 6] rfl)
        refine W.widen (k := 1 + 0) (n := 8 + 5 * 0) (by omega) (by omega) ?_
        exact lp116 (n + 1) 0 o ow3 _ (by omega) (by omega) (by rw [he8, show i = 8 by omega, haft]; rfl) _ _ hP hD hS _ (lv_sub hl [0, 3, 4] rfl)
      · refine lv_aload hx hb dX2_digest_90 (lv_at hl 2 rfl) ?_
        refine lv_iload hx hb dX2_digest_92 (lv_at hl 0 rfl) ?_
        refine ka_ld hx hb hK hP 7 0 rfl rfl (j := i) (by omega) (by decide) dX2_digest_94 ?_
        refine lv_istore (lv' := [(7, .int ((upd (upd (upd (upd (upd (upd (upd (upd (fun _ => 0) 0 (nI n)) 1 (nI tn)) 2 (nI sl)) 3 (whoM n tn)) 4 (nI (cntP o (3 ^ n)))) 5 (nI (manyM sn ht o n n))) 6 (oI (bstM ht o n 3).1)) 7 (nI (cntP (turnM sn o n (tn % n) (realN ht n)) (3 ^ n)))) i)), (6, .int (nI i)), (5, .int (nI 8)), (4, .ref q7), (2, .long e8), (0, .ref m0)]) hx hb dX2_digest_95 hl (by decide) rfl (fun ls hl => ?_)
        refine lv_lload_n hx hb dX2_digest_97 rfl (lv_at hl 4 rfl) ?_
        refine lv_ldc2 hx hb hown (hts _ q_kl_X2_175) dX2_digest_98 ?_
        refine lv_lmul hx hb dX2_digest_101 ?_
        refine lv_iload hx hb dX2_digest_102 (lv_at hl 0 rfl) ?_
        refine lv_i2l hx hb dX2_digest_104 rfl ?_
        refine lv_ladd hx hb dX2_digest_105 ?_
        refine lv_lstore_n (lv' := [(2, .long ((e8 * 31) + (((upd (upd (upd (upd (upd (upd (upd (upd (fun _ => 0) 0 (nI n)) 1 (nI tn)) 2 (nI sl)) 3 (whoM n tn)) 4 (nI (cntP o (3 ^ n)))) 5 (nI (manyM sn ht o n n))) 6 (oI (bstM ht o n 3).1)) 7 (nI (cntP (turnM sn o n (tn % n) (realN ht n)) (3 ^ n)))) i).toInt64))), (7, .int ((upd (upd (upd (upd (upd (upd (upd (upd (fun _ => 0) 0 (nI n)) 1 (nI tn)) 2 (nI sl)) 3 (whoM n tn)) 4 (nI (cntP o (3 ^ n)))) 5 (nI (manyM sn ht o n n))) 6 (oI (bstM ht o n 3).1)) 7 (nI (cntP (turnM sn o n (tn % n) (realN ht n)) (3 ^ n)))) i)), (6, .int (nI i)), (5, .int (nI 8)), (4, .ref q7), (0, .ref m0)]) hx hb dX2_digest_106 rfl hl (by decide) rfl (fun ls hl => ?_)
        refine lv_iinc (v := nI (i + 1)) (lv' := [(6, .int (nI (i + 1))), (2, .long ((e8 * 31) + (((upd (upd (upd (upd (upd (upd (upd (upd (fun _ => 0) 0 (nI n)) 1 (nI tn)) 2 (nI sl)) 3 (whoM n tn)) 4 (nI (cntP o (3 ^ n)))) 5 (nI (manyM sn ht o n n))) 6 (oI (bstM ht o n 3).1)) 7 (nI (cntP (turnM sn o n (tn % n) (realN ht n)) (3 ^ n)))) i).toInt64))), (7, .int ((upd (upd (upd (upd (upd (upd (upd (upd (fun _ => 0) 0 (nI n)) 1 (nI tn)) 2 (nI sl)) 3 (whoM n tn)) 4 (nI (cntP o (3 ^ n)))) 5 (nI (manyM sn ht o n n))) 6 (oI (bstM ht o n 3).1)) 7 (nI (cntP (turnM sn o n (tn % n) (realN ht n)) (3 ^ n)))) i)), (5, .int (nI 8)), (4, .ref q7), (0, .ref m0)]) hx hb dX2_digest_107 hl (k := 2) rfl (nI_add _ _) (by decide) rfl (fun ls hl => ?_)
        refine lv_goto (tgt := 83) hx hb dX2_digest_110 (by decide) ?_
        exact ih83 (i + 1) _ (by omega) (by omega) (by rw [he8]; rfl) _ _ hP hD hS _ (lv_sub hl [0, 3, 4, 1, 5] rfl)
  exact lp83 9 0 2053 (by omega) (by omega) rfl _ _ hP hD hS _ (lv_sub hl [0, 1, 2, 3, 5] rfl)

end
