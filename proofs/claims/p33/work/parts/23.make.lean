section
variable {l : Launch} {dC : Nat → ClassId} {dI : Nat → Nat → Nat} {cI cZ cS cW : ClassId}

set_option maxHeartbeats 4000000 in
set_option maxRecDepth 100000 in
theorem m_X0_init (h1 : Nat) (sz : Nat) : Gv l yX0_init ws_X0_init 1 20 1 243 sz (dC, dI) (tyL cI cZ cS cW) [.ref h1] ([(h1, .inr (0, [.null, .int 0]))]) (fun u => ∃ h5, u = [(h1, .inr (0, [.ref h5, .int (nI 0)])), (h5, .inl (cI, 243, .inl (fun k => nI ((fun _ => 0) k))))]) := by
  refine Gv_of (by decide +kernel) (Nat.le_of_ble_eq_true rfl) ?_
  intro pr ev sx mi ag bl me cd Q ls A S hP hK hD hA hZ hl hin ret
  obtain ⟨hx, hb, hml, hown, hts⟩ := id S
  have hown : sx.vm.findClass RX0 = some mi.cls := hown
  have hS : va_S A sx.heap sx.heap [] := va_S.rf
  have hl : lv_has ls 1 [(0, .ref h1)] := hl
  refine lv_aload_n hx hb dX0_init_0 rfl (lv_at hl 0 rfl) ?_
  refine W.objInit hx hb hown (hts _ q_oi_X0) (hts _ q_oi_im) (hts _ q_oi_c) rfl (by rw [hml]; exact hl.1) rfl dX0_init_1 (Nat.le_of_ble_eq_true rfl) (Nat.le_of_ble_eq_true rfl) ?_
  refine W.eq (g2 := F0 mi 4 ls []) rfl ?_
  refine lv_aload_n hx hb dX0_init_4 rfl (lv_at hl 0 rfl) ?_
  refine lv_sipush (v := nI 243) hx hb dX0_init_5 (by decide) ?_
  refine my_newa (atype := .int) (ty := .int) (cI := cI) (a0 := (243, .inl (fun k => nI ((fun _ => 0) k)))) (N' := 243) hx hb (hts _ q_ac_int) rfl hK 0 rfl ([(h1, .inr (0, [.null, .int 0]))]) ([]) hP hD hS hA (fun _ => rfl) (nI_pos (by omega)) (nI_clamp (by omega)) (Nat.le_of_ble_eq_true rfl) (by show _ ≤ 1; omega) (by show _ ≤ 243; omega) dX0_init_8 (by simp) (fun q8 H hP hD hS => ?_)
  have hP : va_P (dC, dI) vwCl ([(h1, .inr (0, [.null, .int 0])), (q8, .inl (cI, 243, .inl (fun k => nI ((fun _ => 0) k))))]) H := hP
  have hD : va_D A ([(h1, .inr (0, [.null, .int 0])), (q8, .inl (cI, 243, .inl (fun k => nI ((fun _ => 0) k))))]) := hD
  refine va_putF (D := (dC, dI)) (ci := 0) (v := .ref q8) (ty := .array .int) (C := RX0) (T := TX0) (N := 2) hx hb hts inX0 tyX0 tyX0_ok nmX0 hown hK hP hD hS 0 rfl rfl 0 (by decide) (hts _ q_fl_X0_9) (fun _ h9 => h9) rfl hin rfl (by decide +kernel) rfl rfl (Nat.le_of_ble_eq_true rfl) dX0_init_10 (fun H locs hP hD hS => ?_)
  have hP : va_P (dC, dI) vwCl ([(h1, .inr (0, [.ref q8, .int 0])), (q8, .inl (cI, 243, .inl (fun k => nI ((fun _ => 0) k))))]) H := hP
  have hD : va_D A ([(h1, .inr (0, [.ref q8, .int 0])), (q8, .inl (cI, 243, .inl (fun k => nI ((fun _ => 0) k))))]) := hD
  refine lv_aload_n hx hb dX0_init_13 rfl (lv_at hl 0 rfl) ?_
  refine lv_iconst (v := nI 0) hx hb dX0_init_14 (by decide) ?_
  refine va_put (D := (dC, dI)) (ci := 0) (v := .int (nI 0)) (ty := .int) (C := RX0) (T := TX0) (N := 2) hx hb hts inX0 tyX0 tyX0_ok nmX0 hown hK hP hD hS 0 rfl rfl 1 (by decide) (hts _ q_fl_X0_15) (fun _ h9 => h9) rfl (by decide +kernel) rfl rfl (Nat.le_of_ble_eq_true rfl) dX0_init_15 (fun H locs hP hD hS => ?_)
  have hP : va_P (dC, dI) vwCl ([(h1, .inr (0, [.ref q8, .int (nI 0)])), (q8, .inl (cI, 243, .inl (fun k => nI ((fun _ => 0) k))))]) H := hP
  have hD : va_D A ([(h1, .inr (0, [.ref q8, .int (nI 0)])), (q8, .inl (cI, 243, .inl (fun k => nI ((fun _ => 0) k))))]) := hD
  refine W.widen (k := 1) (n := 243) (by omega) (by omega) ?_
  exact ret ([(h1, .inr (0, [.ref q8, .int (nI 0)])), (q8, .inl (cI, 243, .inl (fun k => nI ((fun _ => 0) k))))]) _ _ _ _ dX0_init_18 ⟨_, rfl⟩ hP hD hS

set_option maxHeartbeats 4000000 in
set_option maxRecDepth 100000 in
theorem m_X1_init (h0 : Nat) (sz : Nat) : Gv l yX1_init ws_X1_init 2 40 6 1519 sz (dC, dI) (tyL cI cZ cS cW) [.ref h0] ([(h0, .inr (1, [.null, .null, .null, .null, .int 0, .int 0, .int 0, .int 0, .int 0, .int 0]))]) (fun u => ∃ h1 h2 h3 h4 h5 h6, u = gW cI h0 h1 h2 h3 h4 h5 h6 h1 h2 0 0 0 0 0 false 1 0 (fun _ => 0) (fun _ => 0) (upN (fun _ => 0) 0 0) (fun _ => 0)) := by
  refine Gv_of (by decide +kernel) (Nat.le_of_ble_eq_true rfl) ?_
  intro pr ev sx mi ag bl me cd Q ls A S hP hK hD hA hZ hl hin ret
  obtain ⟨hx, hb, hml, hown, hts⟩ := id S
  have hown : sx.vm.findClass RX1 = some mi.cls := hown
  have hS : va_S A sx.heap sx.heap [] := va_S.rf
  have hl : lv_has ls 1 [(0, .ref h0)] := hl
  refine lv_aload_n hx hb dX1_init_0 rfl (lv_at hl 0 rfl) ?_
  refine W.objInit hx hb hown (hts _ q_oi_X1) (hts _ q_oi_im) (hts _ q_oi_c) rfl (by rw [hml]; exact hl.1) rfl dX1_init_1 (Nat.le_of_ble_eq_true rfl) (Nat.le_of_ble_eq_true rfl) ?_
  refine W.eq (g2 := F0 mi 4 ls []) rfl ?_
  refine lv_aload_n hx hb dX1_init_4 rfl (lv_at hl 0 rfl) ?_
  refine va_new (ci := 0) (fs := [.null, .int 0]) (C := RX0) (T := TX0) (N := 2) hx hb hts inX0 tyX0 tyX0_ok hown (hts _ q_cl_X1_7) (hts _ q_is_X0) (hts _ q_in_X0) hK hP hD hS hA rfl (fun j hj => by rcases (show j = 0 ∨ j = 1 by omega) with rfl | rfl <;> rfl) (by show _ ≤ 6; omega) (by show _ ≤ 1519; omega) dX1_init_5 (fun q5 H hP hD hS => ?_)
  have hP : va_P (dC, dI) vwCl ([(h0, .inr (1, [.null, .null, .null, .null, .int 0, .int 0, .int 0, .int 0, .int 0, .int 0])), (q5, .inr (0, [.null, .int 0]))]) H := hP
  have hD : va_D A ([(h0, .inr (1, [.null, .null, .null, .null, .int 0, .int 0, .int 0, .int 0, .int 0, .int 0])), (q5, .inr (0, [.null, .int 0]))]) := hD
  refine lv_dup hx hb dX1_init_8 rfl ?_
  refine call_GN (host := RX1) (As := []) (rest := [.ref q5, .ref h0]) (wr := [(h0, .inr (1, [.null, .null, .null, .null, .int 0, .int 0, .int 0, .int 0, .int 0, .int 0]))]) (wc := [(q5, .inr (0, [.null, .int 0]))]) S (m_X0_init q5 H.size) (bw_c q_c_X0_init) hZ.2.2.1 q_in_X0 q_im_X0_init rfl ⟨by decide +kernel, by decide +kernel, by decide +kernel⟩ ⟨Nat.le_of_ble_eq_true rfl, Nat.le_of_ble_eq_true rfl⟩ ⟨by show _ ≤ 6; omega, by show _ ≤ 1519; omega⟩ hP hD hK hS hA hZ hl.1 rfl (Nat.le_of_ble_eq_true rfl) dX1_init_9 (fun u H locs hq hP hD hS => ?_)
  obtain ⟨hh9, rfl⟩ := hq
  have hP : va_P (dC, dI) vwCl ([(h0, .inr (1, [.null, .null, .null, .null, .int 0, .int 0, .int 0, .int 0, .int 0, .int 0])), (q5, .inr (0, [.ref hh9, .int (nI 0)])), (hh9, .inl (cI, 243, .inl (fun k => nI ((fun _ => 0) k))))]) H := hP
  have hD : va_D A ([(h0, .inr (1, [.null, .null, .null, .null, .int 0, .int 0, .int 0, .int 0, .int 0, .int 0])), (q5, .inr (0, [.ref hh9, .int (nI 0)])), (hh9, .inl (cI, 243, .inl (fun k => nI ((fun _ => 0) k))))]) := hD
  refine va_putF (D := (dC, dI)) (ci := 1) (v := .ref q5) (ty := .object "BorrowedHats$Ways") (C := RX1) (T := TX1) (N := 10) hx hb hts inX1 tyX1 tyX1_ok nmX1 hown hK hP hD hS 0 rfl rfl 0 (by decide) (hts _ q_fl_X1_10) (fun _ h9 => h9) rfl hin rfl (by decide +kernel) rfl rfl (Nat.le_of_ble_eq_true rfl) dX1_init_12 (fun H locs hP hD hS => ?_)
  have hP : va_P (dC, dI) vwCl ([(h0, .inr (1, [.ref q5, .null, .null, .null, .int 0, .int 0, .int 0, .int 0, .int 0, .int 0])), (q5, .inr (0, [.ref hh9, .int (nI 0)])), (hh9, .inl (cI, 243, .inl (fun k => nI ((fun _ => 0) k))))]) H := hP
  have hD : va_D A ([(h0, .inr (1, [.ref q5, .null, .null, .null, .int 0, .int 0, .int 0, .int 0, .int 0, .int 0])), (q5, .inr (0, [.ref hh9, .int (nI 0)])), (hh9, .inl (cI, 243, .inl (fun k => nI ((fun _ => 0) k))))]) := hD
  refine lv_aload_n hx hb dX1_init_15 rfl (lv_at hl 0 rfl) ?_
  refine va_new (ci := 0) (fs := [.null, .int 0]) (C := RX0) (T := TX0) (N := 2) hx hb hts inX0 tyX0 tyX0_ok hown (hts _ q_cl_X1_7) (hts _ q_is_X0) (hts _ q_in_X0) hK hP hD hS hA rfl (fun j hj => by rcases (show j = 0 ∨ j = 1 by omega) with rfl | rfl <;> rfl) (by show _ ≤ 6; omega) (by show _ ≤ 1519; omega) dX1_init_16 (fun q16 H hP hD hS => ?_)
  have hP : va_P (dC, dI) vwCl ([(h0, .inr (1, [.ref q5, .null, .null, .null, .int 0, .int 0, .int 0, .int 0, .int 0, .int 0])), (q5, .inr (0, [.ref hh9, .int (nI 0)])), (hh9, .inl (cI, 243, .inl (fun k => nI ((fun _ => 0) k)))), (q16, .inr (0, [.null, .int 0]))]) H := hP
  have hD : va_D A ([(h0, .inr (1, [.ref q5, .null, .null, .null, .int 0, .int 0, .int 0, .int 0, .int 0, .int 0])), (q5, .inr (0, [.ref hh9, .int (nI 0)])), (hh9, .inl (cI, 243, .inl (fun k => nI ((fun _ => 0) k)))), (q16, .inr (0, [.null, .int 0]))]) := hD
  refine lv_dup hx hb dX1_init_19 rfl ?_
  refine call_GN (host := RX1) (As := []) (rest := [.ref q16, .ref h0]) (wr := [(h0, .inr (1, [.ref q5, .null, .null, .null, .int 0, .int 0, .int 0, .int 0, .int 0, .int 0])), (q5, .inr (0, [.ref hh9, .int (nI 0)])), (hh9, .inl (cI, 243, .inl (fun k => nI ((fun _ => 0) k))))]) (wc := [(q16, .inr (0, [.null, .int 0]))]) S (m_X0_init q16 H.size) (bw_c q_c_X0_init) hZ.2.2.1 q_in_X0 q_im_X0_init rfl ⟨by decide +kernel, by decide +kernel, by decide +kernel⟩ ⟨Nat.le_of_ble_eq_true rfl, Nat.le_of_ble_eq_true rfl⟩ ⟨by show _ ≤ 6; omega, by show _ ≤ 1519; omega⟩ hP hD hK hS hA hZ hl.1 rfl (Nat.le_of_ble_eq_true rfl) dX1_init_20 (fun u H locs hq hP hD hS => ?_)
  obtain ⟨hh20, rfl⟩ := hq
  have hP : va_P (dC, dI) vwCl ([(h0, .inr (1, [.ref q5, .null, .null, .null, .int 0, .int 0, .int 0, .int 0, .int 0, .int 0])), (q5, .inr (0, [.ref hh9, .int (nI 0)])), (hh9, .inl (cI, 243, .inl (fun k => nI ((fun _ => 0) k)))), (q16, .inr (0, [.ref hh20, .int (nI 0)])), (hh20, .inl (cI, 243, .inl (fun k => nI ((fun _ => 0) k))))]) H := hP
  have hD : va_D A ([(h0, .inr (1, [.ref q5, .null, .null, .null, .int 0, .int 0, .int 0, .int 0, .int 0, .int 0])), (q5, .inr (0, [.ref hh9, .int (nI 0)])), (hh9, .inl (cI, 243, .inl (fun k => nI ((fun _ => 0) k)))), (q16, .inr (0, [.ref hh20, .int (nI 0)])), (hh20, .inl (cI, 243, .inl (fun k => nI ((fun _ => 0) k))))]) := hD
  refine va_putF (D := (dC, dI)) (ci := 1) (v := .ref q16) (ty := .object "BorrowedHats$Ways") (C := RX1) (T := TX1) (N := 10) hx hb hts inX1 tyX1 tyX1_ok nmX1 hown hK hP hD hS 0 rfl rfl 1 (by decide) (hts _ q_fl_X1_16) (fun _ h9 => h9) rfl hin rfl (by decide +kernel) rfl rfl (Nat.le_of_ble_eq_true rfl) dX1_init_23 (fun H locs hP hD hS => ?_)
  have hP : va_P (dC, dI) vwCl ([(h0, .inr (1, [.ref q5, .ref q16, .null, .null, .int 0, .int 0, .int 0, .int 0, .int 0, .int 0])), (q5, .inr (0, [.ref hh9, .int (nI 0)])), (hh9, .inl (cI, 243, .inl (fun k => nI ((fun _ => 0) k)))), (q16, .inr (0, [.ref hh20, .int (nI 0)])), (hh20, .inl (cI, 243, .inl (fun k => nI ((fun _ => 0) k))))]) H := hP
  have hD : va_D A ([(h0, .inr (1, [.ref q5, .ref q16, .null, .null, .int 0, .int 0, .int 0, .int 0, .int 0, .int 0])), (q5, .inr (0, [.ref hh9, .int (nI 0)])), (hh9, .inl (cI, 243, .inl (fun k => nI ((fun _ => 0) k)))), (q16, .inr (0, [.ref hh20, .int (nI 0)])), (hh20, .inl (cI, 243, .inl (fun k => nI ((fun _ => 0) k))))]) := hD
  refine lv_aload_n hx hb dX1_init_26 rfl (lv_at hl 0 rfl) ?_
  refine lv_iconst (v := nI 5) hx hb dX1_init_27 (by decide) ?_
  refine my_newa (atype := .int) (ty := .int) (cI := cI) (a0 := (5, .inl (fun k => nI ((fun _ => 0) k)))) (N' := 5) hx hb (hts _ q_ac_int) rfl hK 0 rfl ([(h0, .inr (1, [.ref q5, .ref q16, .null, .null, .int 0, .int 0, .int 0, .int 0, .int 0, .int 0])), (q5, .inr (0, [.ref hh9, .int (nI 0)])), (hh9, .inl (cI, 243, .inl (fun k => nI ((fun _ => 0) k)))), (q16, .inr (0, [.ref hh20, .int (nI 0)])), (hh20, .inl (cI, 243, .inl (fun k => nI ((fun _ => 0) k))))]) ([]) hP hD hS hA (fun _ => rfl) (nI_pos (by omega)) (nI_clamp (by omega)) (Nat.le_of_ble_eq_true rfl) (by show _ ≤ 6; omega) (by show _ ≤ 1519; omega) dX1_init_28 (by simp) (fun q28 H hP hD hS => ?_)
  have hP : va_P (dC, dI) vwCl ([(h0, .inr (1, [.ref q5, .ref q16, .null, .null, .int 0, .int 0, .int 0, .int 0, .int 0, .int 0])), (q5, .inr (0, [.ref hh9, .int (nI 0)])), (hh9, .inl (cI, 243, .inl (fun k => nI ((fun _ => 0) k)))), (q16, .inr (0, [.ref hh20, .int (nI 0)])), (hh20, .inl (cI, 243, .inl (fun k => nI ((fun _ => 0) k)))), (q28, .inl (cI, 5, .inl (fun k => nI ((fun _ => 0) k))))]) H := hP
  have hD : va_D A ([(h0, .inr (1, [.ref q5, .ref q16, .null, .null, .int 0, .int 0, .int 0, .int 0, .int 0, .int 0])), (q5, .inr (0, [.ref hh9, .int (nI 0)])), (hh9, .inl (cI, 243, .inl (fun k => nI ((fun _ => 0) k)))), (q16, .inr (0, [.ref hh20, .int (nI 0)])), (hh20, .inl (cI, 243, .inl (fun k => nI ((fun _ => 0) k)))), (q28, .inl (cI, 5, .inl (fun k => nI ((fun _ => 0) k))))]) := hD
  refine va_putF (D := (dC, dI)) (ci := 1) (v := .ref q28) (ty := .array .int) (C := RX1) (T := TX1) (N := 10) hx hb hts inX1 tyX1 tyX1_ok nmX1 hown hK hP hD hS 0 rfl rfl 2 (by decide) (hts _ q_fl_X1_19) (fun _ h9 => h9) rfl hin rfl (by decide +kernel) rfl rfl (Nat.le_of_ble_eq_true rfl) dX1_init_30 (fun H locs hP hD hS => ?_)
  have hP : va_P (dC, dI) vwCl ([(h0, .inr (1, [.ref q5, .ref q16, .ref q28, .null, .int 0, .int 0, .int 0, .int 0, .int 0, .int 0])), (q5, .inr (0, [.ref hh9, .int (nI 0)])), (hh9, .inl (cI, 243, .inl (fun k => nI ((fun _ => 0) k)))), (q16, .inr (0, [.ref hh20, .int (nI 0)])), (hh20, .inl (cI, 243, .inl (fun k => nI ((fun _ => 0) k)))), (q28, .inl (cI, 5, .inl (fun k => nI ((fun _ => 0) k))))]) H := hP
  have hD : va_D A ([(h0, .inr (1, [.ref q5, .ref q16, .ref q28, .null, .int 0, .int 0, .int 0, .int 0, .int 0, .int 0])), (q5, .inr (0, [.ref hh9, .int (nI 0)])), (hh9, .inl (cI, 243, .inl (fun k => nI ((fun _ => 0) k)))), (q16, .inr (0, [.ref hh20, .int (nI 0)])), (hh20, .inl (cI, 243, .inl (fun k => nI ((fun _ => 0) k)))), (q28, .inl (cI, 5, .inl (fun k => nI ((fun _ => 0) k))))]) := hD
  refine lv_aload_n hx hb dX1_init_33 rfl (lv_at hl 0 rfl) ?_
  refine lv_sipush (v := nI 1024) hx hb dX1_init_34 (by decide) ?_
  refine my_newa (atype := .int) (ty := .int) (cI := cI) (a0 := (1024, .inl (fun k => nI ((fun _ => 0) k)))) (N' := 1024) hx hb (hts _ q_ac_int) rfl hK 0 rfl ([(h0, .inr (1, [.ref q5, .ref q16, .ref q28, .null, .int 0, .int 0, .int 0, .int 0, .int 0, .int 0])), (q5, .inr (0, [.ref hh9, .int (nI 0)])), (hh9, .inl (cI, 243, .inl (fun k => nI ((fun _ => 0) k)))), (q16, .inr (0, [.ref hh20, .int (nI 0)])), (hh20, .inl (cI, 243, .inl (fun k => nI ((fun _ => 0) k)))), (q28, .inl (cI, 5, .inl (fun k => nI ((fun _ => 0) k))))]) ([]) hP hD hS hA (fun _ => rfl) (nI_pos (by omega)) (nI_clamp (by omega)) (Nat.le_of_ble_eq_true rfl) (by show _ ≤ 6; omega) (by show _ ≤ 1519; omega) dX1_init_37 (by simp) (fun q37 H hP hD hS => ?_)
  have hP : va_P (dC, dI) vwCl ([(h0, .inr (1, [.ref q5, .ref q16, .ref q28, .null, .int 0, .int 0, .int 0, .int 0, .int 0, .int 0])), (q5, .inr (0, [.ref hh9, .int (nI 0)])), (hh9, .inl (cI, 243, .inl (fun k => nI ((fun _ => 0) k)))), (q16, .inr (0, [.ref hh20, .int (nI 0)])), (hh20, .inl (cI, 243, .inl (fun k => nI ((fun _ => 0) k)))), (q28, .inl (cI, 5, .inl (fun k => nI ((fun _ => 0) k)))), (q37, .inl (cI, 1024, .inl (fun k => nI ((fun _ => 0) k))))]) H := hP
  have hD : va_D A ([(h0, .inr (1, [.ref q5, .ref q16, .ref q28, .null, .int 0, .int 0, .int 0, .int 0, .int 0, .int 0])), (q5, .inr (0, [.ref hh9, .int (nI 0)])), (hh9, .inl (cI, 243, .inl (fun k => nI ((fun _ => 0) k)))), (q16, .inr (0, [.ref hh20, .int (nI 0)])), (hh20, .inl (cI, 243, .inl (fun k => nI ((fun _ => 0) k)))), (q28, .inl (cI, 5, .inl (fun k => nI ((fun _ => 0) k)))), (q37, .inl (cI, 1024, .inl (fun k => nI ((fun _ => 0) k))))]) := hD
  refine va_putF (D := (dC, dI)) (ci := 1) (v := .ref q37) (ty := .array .int) (C := RX1) (T := TX1) (N := 10) hx hb hts inX1 tyX1 tyX1_ok nmX1 hown hK hP hD hS 0 rfl rfl 3 (by decide) (hts _ q_fl_X1_23) (fun _ h9 => h9) rfl hin rfl (by decide +kernel) rfl rfl (Nat.le_of_ble_eq_true rfl) dX1_init_39 (fun H locs hP hD hS => ?_)
  have hP : va_P (dC, dI) vwCl ([(h0, .inr (1, [.ref q5, .ref q16, .ref q28, .ref q37, .int 0, .int 0, .int 0, .int 0, .int 0, .int 0])), (q5, .inr (0, [.ref hh9, .int (nI 0)])), (hh9, .inl (cI, 243, .inl (fun k => nI ((fun _ => 0) k)))), (q16, .inr (0, [.ref hh20, .int (nI 0)])), (hh20, .inl (cI, 243, .inl (fun k => nI ((fun _ => 0) k)))), (q28, .inl (cI, 5, .inl (fun k => nI ((fun _ => 0) k)))), (q37, .inl (cI, 1024, .inl (fun k => nI ((fun _ => 0) k))))]) H := hP
  have hD : va_D A ([(h0, .inr (1, [.ref q5, .ref q16, .ref q28, .ref q37, .int 0, .int 0, .int 0, .int 0, .int 0, .int 0])), (q5, .inr (0, [.ref hh9, .int (nI 0)])), (hh9, .inl (cI, 243, .inl (fun k => nI ((fun _ => 0) k)))), (q16, .inr (0, [.ref hh20, .int (nI 0)])), (hh20, .inl (cI, 243, .inl (fun k => nI ((fun _ => 0) k)))), (q28, .inl (cI, 5, .inl (fun k => nI ((fun _ => 0) k)))), (q37, .inl (cI, 1024, .inl (fun k => nI ((fun _ => 0) k))))]) := hD
  refine lv_aload_n hx hb dX1_init_42 rfl (lv_at hl 0 rfl) ?_
  refine lv_iconst (v := nI 0) hx hb dX1_init_43 (by decide) ?_
  refine va_put (D := (dC, dI)) (ci := 1) (v := .int (nI 0)) (ty := .int) (C := RX1) (T := TX1) (N := 10) hx hb hts inX1 tyX1 tyX1_ok nmX1 hown hK hP hD hS 0 rfl rfl 4 (by decide) (hts _ q_fl_X1_26) (fun _ h9 => h9) rfl (by decide +kernel) rfl rfl (Nat.le_of_ble_eq_true rfl) dX1_init_44 (fun H locs hP hD hS => ?_)
  have hP : va_P (dC, dI) vwCl ([(h0, .inr (1, [.ref q5, .ref q16, .ref q28, .ref q37, .int (nI 0), .int 0, .int 0, .int 0, .int 0, .int 0])), (q5, .inr (0, [.ref hh9, .int (nI 0)])), (hh9, .inl (cI, 243, .inl (fun k => nI ((fun _ => 0) k)))), (q16, .inr (0, [.ref hh20, .int (nI 0)])), (hh20, .inl (cI, 243, .inl (fun k => nI ((fun _ => 0) k)))), (q28, .inl (cI, 5, .inl (fun k => nI ((fun _ => 0) k)))), (q37, .inl (cI, 1024, .inl (fun k => nI ((fun _ => 0) k))))]) H := hP
  have hD : va_D A ([(h0, .inr (1, [.ref q5, .ref q16, .ref q28, .ref q37, .int (nI 0), .int 0, .int 0, .int 0, .int 0, .int 0])), (q5, .inr (0, [.ref hh9, .int (nI 0)])), (hh9, .inl (cI, 243, .inl (fun k => nI ((fun _ => 0) k)))), (q16, .inr (0, [.ref hh20, .int (nI 0)])), (hh20, .inl (cI, 243, .inl (fun k => nI ((fun _ => 0) k)))), (q28, .inl (cI, 5, .inl (fun k => nI ((fun _ => 0) k)))), (q37, .inl (cI, 1024, .inl (fun k => nI ((fun _ => 0) k))))]) := hD
  refine lv_aload_n hx hb dX1_init_47 rfl (lv_at hl 0 rfl) ?_
  refine lv_iconst (v := nI 0) hx hb dX1_init_48 (by decide) ?_
  refine va_put (D := (dC, dI)) (ci := 1) (v := .int (nI 0)) (ty := .int) (C := RX1) (T := TX1) (N := 10) hx hb hts inX1 tyX1 tyX1_ok nmX1 hown hK hP hD hS 0 rfl rfl 5 (by decide) (hts _ q_fl_X1_30) (fun _ h9 => h9) rfl (by decide +kernel) rfl rfl (Nat.le_of_ble_eq_true rfl) dX1_init_49 (fun H locs hP hD hS => ?_)
  have hP : va_P (dC, dI) vwCl ([(h0, .inr (1, [.ref q5, .ref q16, .ref q28, .ref q37, .int (nI 0), .int (nI 0), .int 0, .int 0, .int 0, .int 0])), (q5, .inr (0, [.ref hh9, .int (nI 0)])), (hh9, .inl (cI, 243, .inl (fun k => nI ((fun _ => 0) k)))), (q16, .inr (0, [.ref hh20, .int (nI 0)])), (hh20, .inl (cI, 243, .inl (fun k => nI ((fun _ => 0) k)))), (q28, .inl (cI, 5, .inl (fun k => nI ((fun _ => 0) k)))), (q37, .inl (cI, 1024, .inl (fun k => nI ((fun _ => 0) k))))]) H := hP
  have hD : va_D A ([(h0, .inr (1, [.ref q5, .ref q16, .ref q28, .ref q37, .int (nI 0), .int (nI 0), .int 0, .int 0, .int 0, .int 0])), (q5, .inr (0, [.ref hh9, .int (nI 0)])), (hh9, .inl (cI, 243, .inl (fun k => nI ((fun _ => 0) k)))), (q16, .inr (0, [.ref hh20, .int (nI 0)])), (hh20, .inl (cI, 243, .inl (fun k => nI ((fun _ => 0) k)))), (q28, .inl (cI, 5, .inl (fun k => nI ((fun _ => 0) k)))), (q37, .inl (cI, 1024, .inl (fun k => nI ((fun _ => 0) k))))]) := hD
  refine lv_aload_n hx hb dX1_init_52 rfl (lv_at hl 0 rfl) ?_
  refine lv_iconst (v := nI 0) hx hb dX1_init_53 (by decide) ?_
  refine va_put (D := (dC, dI)) (ci := 1) (v := .int (nI 0)) (ty := .int) (C := RX1) (T := TX1) (N := 10) hx hb hts inX1 tyX1 tyX1_ok nmX1 hown hK hP hD hS 0 rfl rfl 6 (by decide) (hts _ q_fl_X1_33) (fun _ h9 => h9) rfl (by decide +kernel) rfl rfl (Nat.le_of_ble_eq_true rfl) dX1_init_54 (fun H locs hP hD hS => ?_)
  have hP : va_P (dC, dI) vwCl ([(h0, .inr (1, [.ref q5, .ref q16, .ref q28, .ref q37, .int (nI 0), .int (nI 0), .int (nI 0), .int 0, .int 0, .int 0])), (q5, .inr (0, [.ref hh9, .int (nI 0)])), (hh9, .inl (cI, 243, .inl (fun k => nI ((fun _ => 0) k)))), (q16, .inr (0, [.ref hh20, .int (nI 0)])), (hh20, .inl (cI, 243, .inl (fun k => nI ((fun _ => 0) k)))), (q28, .inl (cI, 5, .inl (fun k => nI ((fun _ => 0) k)))), (q37, .inl (cI, 1024, .inl (fun k => nI ((fun _ => 0) k))))]) H := hP
  have hD : va_D A ([(h0, .inr (1, [.ref q5, .ref q16, .ref q28, .ref q37, .int (nI 0), .int (nI 0), .int (nI 0), .int 0, .int 0, .int 0])), (q5, .inr (0, [.ref hh9, .int (nI 0)])), (hh9, .inl (cI, 243, .inl (fun k => nI ((fun _ => 0) k)))), (q16, .inr (0, [.ref hh20, .int (nI 0)])), (hh20, .inl (cI, 243, .inl (fun k => nI ((fun _ => 0) k)))), (q28, .inl (cI, 5, .inl (fun k => nI ((fun _ => 0) k)))), (q37, .inl (cI, 1024, .inl (fun k => nI ((fun _ => 0) k))))]) := hD
  refine lv_aload_n hx hb dX1_init_57 rfl (lv_at hl 0 rfl) ?_
  refine lv_iconst (v := nI 0) hx hb dX1_init_58 (by decide) ?_
  refine va_put (D := (dC, dI)) (ci := 1) (v := .int (nI 0)) (ty := .int) (C := RX1) (T := TX1) (N := 10) hx hb hts inX1 tyX1 tyX1_ok nmX1 hown hK hP hD hS 0 rfl rfl 7 (by decide) (hts _ q_fl_X1_36) (fun _ h9 => h9) rfl (by decide +kernel) rfl rfl (Nat.le_of_ble_eq_true rfl) dX1_init_59 (fun H locs hP hD hS => ?_)
  have hP : va_P (dC, dI) vwCl ([(h0, .inr (1, [.ref q5, .ref q16, .ref q28, .ref q37, .int (nI 0), .int (nI 0), .int (nI 0), .int (nI 0), .int 0, .int 0])), (q5, .inr (0, [.ref hh9, .int (nI 0)])), (hh9, .inl (cI, 243, .inl (fun k => nI ((fun _ => 0) k)))), (q16, .inr (0, [.ref hh20, .int (nI 0)])), (hh20, .inl (cI, 243, .inl (fun k => nI ((fun _ => 0) k)))), (q28, .inl (cI, 5, .inl (fun k => nI ((fun _ => 0) k)))), (q37, .inl (cI, 1024, .inl (fun k => nI ((fun _ => 0) k))))]) H := hP
  have hD : va_D A ([(h0, .inr (1, [.ref q5, .ref q16, .ref q28, .ref q37, .int (nI 0), .int (nI 0), .int (nI 0), .int (nI 0), .int 0, .int 0])), (q5, .inr (0, [.ref hh9, .int (nI 0)])), (hh9, .inl (cI, 243, .inl (fun k => nI ((fun _ => 0) k)))), (q16, .inr (0, [.ref hh20, .int (nI 0)])), (hh20, .inl (cI, 243, .inl (fun k => nI ((fun _ => 0) k)))), (q28, .inl (cI, 5, .inl (fun k => nI ((fun _ => 0) k)))), (q37, .inl (cI, 1024, .inl (fun k => nI ((fun _ => 0) k))))]) := hD
  refine lv_aload_n hx hb dX1_init_62 rfl (lv_at hl 0 rfl) ?_
  refine lv_iconst (v := nI 0) hx hb dX1_init_63 (by decide) ?_
  refine va_put (D := (dC, dI)) (ci := 1) (v := .int (nI 0)) (ty := .int) (C := RX1) (T := TX1) (N := 10) hx hb hts inX1 tyX1 tyX1_ok nmX1 hown hK hP hD hS 0 rfl rfl 8 (by decide) (hts _ q_fl_X1_39) (fun _ h9 => h9) rfl (by decide +kernel) rfl rfl (Nat.le_of_ble_eq_true rfl) dX1_init_64 (fun H locs hP hD hS => ?_)
  have hP : va_P (dC, dI) vwCl ([(h0, .inr (1, [.ref q5, .ref q16, .ref q28, .ref q37, .int (nI 0), .int (nI 0), .int (nI 0), .int (nI 0), .int (nI 0), .int 0])), (q5, .inr (0, [.ref hh9, .int (nI 0)])), (hh9, .inl (cI, 243, .inl (fun k => nI ((fun _ => 0) k)))), (q16, .inr (0, [.ref hh20, .int (nI 0)])), (hh20, .inl (cI, 243, .inl (fun k => nI ((fun _ => 0) k)))), (q28, .inl (cI, 5, .inl (fun k => nI ((fun _ => 0) k)))), (q37, .inl (cI, 1024, .inl (fun k => nI ((fun _ => 0) k))))]) H := hP
  have hD : va_D A ([(h0, .inr (1, [.ref q5, .ref q16, .ref q28, .ref q37, .int (nI 0), .int (nI 0), .int (nI 0), .int (nI 0), .int (nI 0), .int 0])), (q5, .inr (0, [.ref hh9, .int (nI 0)])), (hh9, .inl (cI, 243, .inl (fun k => nI ((fun _ => 0) k)))), (q16, .inr (0, [.ref hh20, .int (nI 0)])), (hh20, .inl (cI, 243, .inl (fun k => nI ((fun _ => 0) k)))), (q28, .inl (cI, 5, .inl (fun k => nI ((fun _ => 0) k)))), (q37, .inl (cI, 1024, .inl (fun k => nI ((fun _ => 0) k))))]) := hD
  refine lv_aload_n hx hb dX1_init_67 rfl (lv_at hl 0 rfl) ?_
  refine lv_iconst (v := nI 0) hx hb dX1_init_68 (by decide) ?_
  refine W_i (y := bI false) rfl ?_
  refine va_put (D := (dC, dI)) (ci := 1) (v := .int (bI false)) (ty := .boolean) (C := RX1) (T := TX1) (N := 10) hx hb hts inX1 tyX1 tyX1_ok nmX1 hown hK hP hD hS 0 rfl rfl 9 (by decide) (hts _ q_fl_X1_42) (fun _ h9 => h9) rfl (by decide +kernel) rfl rfl (Nat.le_of_ble_eq_true rfl) dX1_init_69 (fun H locs hP hD hS => ?_)
  have hP : va_P (dC, dI) vwCl ([(h0, .inr (1, [.ref q5, .ref q16, .ref q28, .ref q37, .int (nI 0), .int (nI 0), .int (nI 0), .int (nI 0), .int (nI 0), .int (bI false)])), (q5, .inr (0, [.ref hh9, .int (nI 0)])), (hh9, .inl (cI, 243, .inl (fun k => nI ((fun _ => 0) k)))), (q16, .inr (0, [.ref hh20, .int (nI 0)])), (hh20, .inl (cI, 243, .inl (fun k => nI ((fun _ => 0) k)))), (q28, .inl (cI, 5, .inl (fun k => nI ((fun _ => 0) k)))), (q37, .inl (cI, 1024, .inl (fun k => nI ((fun _ => 0) k))))]) H := hP
  have hD : va_D A ([(h0, .inr (1, [.ref q5, .ref q16, .ref q28, .ref q37, .int (nI 0), .int (nI 0), .int (nI 0), .int (nI 0), .int (nI 0), .int (bI false)])), (q5, .inr (0, [.ref hh9, .int (nI 0)])), (hh9, .inl (cI, 243, .inl (fun k => nI ((fun _ => 0) k)))), (q16, .inr (0, [.ref hh20, .int (nI 0)])), (hh20, .inl (cI, 243, .inl (fun k => nI ((fun _ => 0) k)))), (q28, .inl (cI, 5, .inl (fun k => nI ((fun _ => 0) k)))), (q37, .inl (cI, 1024, .inl (fun k => nI ((fun _ => 0) k))))]) := hD
  have hP := hP.sub (ws' := gW cI h0 q5 q16 q28 q37 hh9 hh20 q5 q16 0 0 0 0 0 false 0 0 (fun _ => 0) (fun _ => 0) (fun _ => 0) (fun _ => 0)) [0, 1, 3, 5, 6, 2, 4] rfl
  have hD := hD.sub (ws' := gW cI h0 q5 q16 q28 q37 hh9 hh20 q5 q16 0 0 0 0 0 false 0 0 (fun _ => 0) (fun _ => 0) (fun _ => 0) (fun _ => 0)) [0, 1, 3, 5, 6, 2, 4] (by decide) rfl
  refine lv_aload_n hx hb dX1_init_72 rfl (lv_at hl 0 rfl) ?_
  refine va_get (D := (dC, dI)) (ci := 1) (v := .ref q5) (C := RX1) (T := TX1) (N := 10) hx hb hts inX1 hown hK hP 0 rfl rfl 0 (by decide) (hts _ q_fl_X1_10) (fun _ h9 => h9) rfl dX1_init_73 ?_
  refine lv_iconst (v := nI 0) hx hb dX1_init_76 (by decide) ?_
  refine call_Vv (As := [.int (nI 0)]) (wr := [(h0, .inr (1, [.ref q5, .ref q16, .ref q28, .ref q37, .int (nI 0), .int (nI 0), .int (nI 0), .int (nI 0), .int (nI 0), .int (bI false)])), (q16, .inr (0, [.ref hh20, .int (nI 0)])), (q28, .inl (cI, 5, .inl (fun k => nI ((fun _ => 0) k)))), (q37, .inl (cI, 1024, .inl (fun k => nI ((fun _ => 0) k)))), (hh20, .inl (cI, 243, .inl (fun k => nI ((fun _ => 0) k))))]) (rest := []) S (m_X0_add q5 hh9 0 (fun _ => 0) 0 (by omega)) g_X1_X0_add hd_X0_add ⟨Nat.le_of_ble_eq_true rfl, Nat.le_of_ble_eq_true rfl⟩ ⟨by show _ ≤ 6; omega, by show _ ≤ 1519; omega⟩ hP hD hK hS hZ [1, 5] [0, 2, 3, 4, 6] rfl rfl (by decide) 0 rfl rfl hl.1 rfl (Nat.le_of_ble_eq_true rfl) dX1_init_77 (fun u H locs hq hP hD hS => ?_)
  obtain rfl := hq
  have hP := hP.sub (ws' := gW cI h0 q5 q16 q28 q37 hh9 hh20 q5 q16 0 0 0 0 0 false (0 + 1) 0 (fun _ => 0) (fun _ => 0) (upN (fun _ => 0) 0 0) (fun _ => 0)) [0, 5, 1, 2, 3, 6, 4] rfl
  have hD := hD.sub (ws' := gW cI h0 q5 q16 q28 q37 hh9 hh20 q5 q16 0 0 0 0 0 false (0 + 1) 0 (fun _ => 0) (fun _ => 0) (upN (fun _ => 0) 0 0) (fun _ => 0)) [0, 5, 1, 2, 3, 6, 4] (by decide) rfl
  refine W.widen (k := 6) (n := 1519) (by omega) (by omega) ?_
  exact ret (gW cI h0 q5 q16 q28 q37 hh9 hh20 q5 q16 0 0 0 0 0 false (0 + 1) 0 (fun _ => 0) (fun _ => 0) (upN (fun _ => 0) 0 0) (fun _ => 0)) _ _ _ _ dX1_init_80 ⟨_, _, _, _, _, _, rfl⟩ hP hD hS

theorem q1_eq (cW : ClassId) (q : Nat) : eQ cW 1 (fun _ => q) = .inl (cW, 1, .inr (.inr (.inr (.inr (va_up (fun _ => none) 0 (some q)))))) := by
  have e : (fun i => if i < 1 then some q else none) = va_up (fun _ => none) 0 (some q) := by
    funext i
    by_cases h : i = 0
    · subst h; simp [va_up]
    · simp [va_up, h]
  show (Sum.inl (cW, 1, .inr (.inr (.inr (.inr (fun i => if i < 1 then some q else none))))) : va_E) = _
  rw [e]
set_option maxHeartbeats 4000000 in
set_option maxRecDepth 100000 in
theorem m_X2_init (b0 : Nat) (sz : Nat) : Gv l yX2_init ws_X2_init 1 20 5 2 sz (dC, dI) (tyL cI cZ cS cW) [.ref b0] ([(b0, .inr (2, [.int 0, .int 0, .int 0, .int 0, .null, .null, .null, .null]))]) (fun u => ∃ (b1 b2 b3 b4 : Nat) (ht rs : Nat → Nat) (sn : Nat → Nat → Bool) (rw : Nat → Nat) (wy : Nat → Nat → Nat) (o : Nat → Bool), o 0 = true ∧ u = sW cI cZ cS cW b0 b1 b2 b3 b4 0 1 0 0 false ht rs sn rw wy o) := by
  refine Gv_of (by decide +kernel) (Nat.le_of_ble_eq_true rfl) ?_
  intro pr ev sx mi ag bl me cd Q ls A S hP hK hD hA hZ hl hin ret
  obtain ⟨hx, hb, hml, hown, hts⟩ := id S
  have hown : sx.vm.findClass RX2 = some mi.cls := hown
  have hS : va_S A sx.heap sx.heap [] := va_S.rf
  have hl : lv_has ls 1 [(0, .ref b0)] := hl
  refine lv_aload_n hx hb dX2_init_0 rfl (lv_at hl 0 rfl) ?_
  refine W.objInit hx hb hown (hts _ q_oi_X2) (hts _ q_oi_im) (hts _ q_oi_c) rfl (by rw [hml]; exact hl.1) rfl dX2_init_1 (Nat.le_of_ble_eq_true rfl) (Nat.le_of_ble_eq_true rfl) ?_
  refine W.eq (g2 := F0 mi 4 ls []) rfl ?_
  refine lv_aload_n hx hb dX2_init_4 rfl (lv_at hl 0 rfl) ?_
  refine lv_iconst (v := nI 0) hx hb dX2_init_5 (by decide) ?_
  refine my_newa (atype := .int) (ty := .int) (cI := cI) (a0 := (0, .inl (fun k => nI ((fun _ => 0) k)))) (N' := 0) hx hb (hts _ q_ac_int) rfl hK 0 rfl ([(b0, .inr (2, [.int 0, .int 0, .int 0, .int 0, .null, .null, .null, .null]))]) ([]) hP hD hS hA (fun _ => rfl) (nI_pos (by omega)) (nI_clamp (by omega)) (Nat.le_of_ble_eq_true rfl) (by show _ ≤ 5; omega) (by show _ ≤ 2; omega) dX2_init_6 (by simp) (fun q6 H hP hD hS => ?_)
  have hP : va_P (dC, dI) vwCl ([(b0, .inr (2, [.int 0, .int 0, .int 0, .int 0, .null, .null, .null, .null])), (q6, .inl (cI, 0, .inl (fun k => nI ((fun _ => 0) k))))]) H := hP
  have hD : va_D A ([(b0, .inr (2, [.int 0, .int 0, .int 0, .int 0, .null, .null, .null, .null])), (q6, .inl (cI, 0, .inl (fun k => nI ((fun _ => 0) k))))]) := hD
  refine va_put (D := (dC, dI)) (ci := 2) (v := .ref q6) (ty := .array .int) (C := RX2) (T := TX2) (N := 8) hx hb hts inX2 tyX2 tyX2_ok nmX2 hown hK hP hD hS 0 rfl rfl 4 (by decide) (hts _ q_fl_X2_7) (fun _ h9 => h9) rfl (by decide +kernel) rfl rfl (Nat.le_of_ble_eq_true rfl) dX2_init_8 (fun H locs hP hD hS => ?_)
  have hP : va_P (dC, dI) vwCl ([(b0, .inr (2, [.int 0, .int 0, .int 0, .int 0, .ref q6, .null, .null, .null])), (q6, .inl (cI, 0, .inl (fun k => nI ((fun _ => 0) k))))]) H := hP
  have hD : va_D A ([(b0, .inr (2, [.int 0, .int 0, .int 0, .int 0, .ref q6, .null, .null, .null])), (q6, .inl (cI, 0, .inl (fun k => nI ((fun _ => 0) k))))]) := hD
  refine lv_aload_n hx hb dX2_init_11 rfl (lv_at hl 0 rfl) ?_
  refine lv_iconst (v := nI 0) hx hb dX2_init_12 (by decide) ?_
  refine my_newqA (N' := 0) hx hb 2 rfl (.inr rfl) hown (hts _ q_cl_X2_13) hZ.1 hK hP hD hS hA (nI_pos (by omega)) (nI_clamp (by omega)) (by omega) (by show _ ≤ 5; omega) (by show _ ≤ 2; omega) dX2_init_13 (fun q13 H hP hD hS => ?_)
  have hP : va_P (dC, dI) vwCl ([(b0, .inr (2, [.int 0, .int 0, .int 0, .int 0, .ref q6, .null, .null, .null])), (q6, .inl (cI, 0, .inl (fun k => nI ((fun _ => 0) k)))), (q13, .inl (cS, 0, .inr (.inr (.inr (.inr (fun _ => none))))))]) H := hP
  have hD : va_D A ([(b0, .inr (2, [.int 0, .int 0, .int 0, .int 0, .ref q6, .null, .null, .null])), (q6, .inl (cI, 0, .inl (fun k => nI ((fun _ => 0) k)))), (q13, .inl (cS, 0, .inr (.inr (.inr (.inr (fun _ => none))))))]) := hD
  refine va_put (D := (dC, dI)) (ci := 2) (v := .ref q13) (ty := .array (.array .boolean)) (C := RX2) (T := TX2) (N := 8) hx hb hts inX2 tyX2 tyX2_ok nmX2 hown hK hP hD hS 0 rfl rfl 5 (by decide) (hts _ q_fl_X2_15) (fun _ h9 => h9) rfl (by decide +kernel) rfl rfl (Nat.le_of_ble_eq_true rfl) dX2_init_16 (fun H locs hP hD hS => ?_)
  have hP : va_P (dC, dI) vwCl ([(b0, .inr (2, [.int 0, .int 0, .int 0, .int 0, .ref q6, .ref q13, .null, .null])), (q6, .inl (cI, 0, .inl (fun k => nI ((fun _ => 0) k)))), (q13, .inl (cS, 0, .inr (.inr (.inr (.inr (fun _ => none))))))]) H := hP
  have hD : va_D A ([(b0, .inr (2, [.int 0, .int 0, .int 0, .int 0, .ref q6, .ref q13, .null, .null])), (q6, .inl (cI, 0, .inl (fun k => nI ((fun _ => 0) k)))), (q13, .inl (cS, 0, .inr (.inr (.inr (.inr (fun _ => none))))))]) := hD
  refine lv_aload_n hx hb dX2_init_19 rfl (lv_at hl 0 rfl) ?_
  refine lv_iconst (v := nI 1) hx hb dX2_init_20 (by decide) ?_
  refine my_newqA (N' := 1) hx hb 3 rfl (.inl rfl) hown (hts _ q_cl_X2_19) hZ.2.1 hK hP hD hS hA (nI_pos (by omega)) (nI_clamp (by omega)) (by omega) (by show _ ≤ 5; omega) (by show _ ≤ 2; omega) dX2_init_21 (fun q21 H hP hD hS => ?_)
  have hP : va_P (dC, dI) vwCl ([(b0, .inr (2, [.int 0, .int 0, .int 0, .int 0, .ref q6, .ref q13, .null, .null])), (q6, .inl (cI, 0, .inl (fun k => nI ((fun _ => 0) k)))), (q13, .inl (cS, 0, .inr (.inr (.inr (.inr (fun _ => none)))))), (q21, .inl (cW, 1, .inr (.inr (.inr (.inr (fun _ => none))))))]) H := hP
  have hD : va_D A ([(b0, .inr (2, [.int 0, .int 0, .int 0, .int 0, .ref q6, .ref q13, .null, .null])), (q6, .inl (cI, 0, .inl (fun k => nI ((fun _ => 0) k)))), (q13, .inl (cS, 0, .inr (.inr (.inr (.inr (fun _ => none)))))), (q21, .inl (cW, 1, .inr (.inr (.inr (.inr (fun _ => none))))))]) := hD
  refine lv_dup hx hb dX2_init_24 rfl ?_
  refine lv_iconst (v := nI 0) hx hb dX2_init_25 (by decide) ?_
  refine lv_iconst (v := nI 0) hx hb dX2_init_26 (by decide) ?_
  refine my_newa (atype := .int) (ty := .int) (cI := cI) (a0 := (0, .inl (fun k => nI ((fun _ => 0) k)))) (N' := 0) hx hb (hts _ q_ac_int) rfl hK 0 rfl ([(b0, .inr (2, [.int 0, .int 0, .int 0, .int 0, .ref q6, .ref q13, .null, .null])), (q6, .inl (cI, 0, .inl (fun k => nI ((fun _ => 0) k)))), (q13, .inl (cS, 0, .inr (.inr (.inr (.inr (fun _ => none)))))), (q21, .inl (cW, 1, .inr (.inr (.inr (.inr (fun _ => none))))))]) ([]) hP hD hS hA (fun _ => rfl) (nI_pos (by omega)) (nI_clamp (by omega)) (Nat.le_of_ble_eq_true rfl) (by show _ ≤ 5; omega) (by show _ ≤ 2; omega) dX2_init_27 (by simp) (fun q27 H hP hD hS => ?_)
  have hP : va_P (dC, dI) vwCl ([(b0, .inr (2, [.int 0, .int 0, .int 0, .int 0, .ref q6, .ref q13, .null, .null])), (q6, .inl (cI, 0, .inl (fun k => nI ((fun _ => 0) k)))), (q13, .inl (cS, 0, .inr (.inr (.inr (.inr (fun _ => none)))))), (q21, .inl (cW, 1, .inr (.inr (.inr (.inr (fun _ => none)))))), (q27, .inl (cI, 0, .inl (fun k => nI ((fun _ => 0) k))))]) H := hP
  have hD : va_D A ([(b0, .inr (2, [.int 0, .int 0, .int 0, .int 0, .ref q6, .ref q13, .null, .null])), (q6, .inl (cI, 0, .inl (fun k => nI ((fun _ => 0) k)))), (q13, .inl (cS, 0, .inr (.inr (.inr (.inr (fun _ => none)))))), (q21, .inl (cW, 1, .inr (.inr (.inr (.inr (fun _ => none)))))), (q27, .inl (cI, 0, .inl (fun k => nI ((fun _ => 0) k))))]) := hD
  refine aa_st hx hb hK hZ.2.1 hP hD hS 3 4 3 0 rfl rfl rfl rfl (j := 0) (by omega) (by omega) dX2_init_29 (fun H locs hP hD hS => ?_)
  have hP : va_P (dC, dI) vwCl ([(b0, .inr (2, [.int 0, .int 0, .int 0, .int 0, .ref q6, .ref q13, .null, .null])), (q6, .inl (cI, 0, .inl (fun k => nI ((fun _ => 0) k)))), (q13, .inl (cS, 0, .inr (.inr (.inr (.inr (fun _ => none)))))), (q21, .inl (cW, 1, .inr (.inr (.inr (.inr (va_up (fun _ => none) 0 (some q27))))))), (q27, .inl (cI, 0, .inl (fun k => nI ((fun _ => 0) k))))]) H := hP
  have hD : va_D A ([(b0, .inr (2, [.int 0, .int 0, .int 0, .int 0, .ref q6, .ref q13, .null, .null])), (q6, .inl (cI, 0, .inl (fun k => nI ((fun _ => 0) k)))), (q13, .inl (cS, 0, .inr (.inr (.inr (.inr (fun _ => none)))))), (q21, .inl (cW, 1, .inr (.inr (.inr (.inr (va_up (fun _ => none) 0 (some q27))))))), (q27, .inl (cI, 0, .inl (fun k => nI ((fun _ => 0) k))))]) := hD
  refine va_put (D := (dC, dI)) (ci := 2) (v := .ref q21) (ty := .array (.array .int)) (C := RX2) (T := TX2) (N := 8) hx hb hts inX2 tyX2 tyX2_ok nmX2 hown hK hP hD hS 0 rfl rfl 6 (by decide) (hts _ q_fl_X2_20) (fun _ h9 => h9) rfl (by decide +kernel) rfl rfl (Nat.le_of_ble_eq_true rfl) dX2_init_30 (fun H locs hP hD hS => ?_)
  have hP : va_P (dC, dI) vwCl ([(b0, .inr (2, [.int 0, .int 0, .int 0, .int 0, .ref q6, .ref q13, .ref q21, .null])), (q6, .inl (cI, 0, .inl (fun k => nI ((fun _ => 0) k)))), (q13, .inl (cS, 0, .inr (.inr (.inr (.inr (fun _ => none)))))), (q21, .inl (cW, 1, .inr (.inr (.inr (.inr (va_up (fun _ => none) 0 (some q27))))))), (q27, .inl (cI, 0, .inl (fun k => nI ((fun _ => 0) k))))]) H := hP
  have hD : va_D A ([(b0, .inr (2, [.int 0, .int 0, .int 0, .int 0, .ref q6, .ref q13, .ref q21, .null])), (q6, .inl (cI, 0, .inl (fun k => nI ((fun _ => 0) k)))), (q13, .inl (cS, 0, .inr (.inr (.inr (.inr (fun _ => none)))))), (q21, .inl (cW, 1, .inr (.inr (.inr (.inr (va_up (fun _ => none) 0 (some q27))))))), (q27, .inl (cI, 0, .inl (fun k => nI ((fun _ => 0) k))))]) := hD
  refine lv_aload_n hx hb dX2_init_33 rfl (lv_at hl 0 rfl) ?_
  refine lv_iconst (v := nI 1) hx hb dX2_init_34 (by decide) ?_
  refine my_newa (atype := .boolean) (ty := .boolean) (cI := cZ) (a0 := (1, .inl (fun k => bI ((fun _ => false) k)))) (N' := 1) hx hb (hts _ q_ac_boolean) rfl hK 1 rfl ([(b0, .inr (2, [.int 0, .int 0, .int 0, .int 0, .ref q6, .ref q13, .ref q21, .null])), (q6, .inl (cI, 0, .inl (fun k => nI ((fun _ => 0) k)))), (q13, .inl (cS, 0, .inr (.inr (.inr (.inr (fun _ => none)))))), (q21, .inl (cW, 1, .inr (.inr (.inr (.inr (va_up (fun _ => none) 0 (some q27))))))), (q27, .inl (cI, 0, .inl (fun k => nI ((fun _ => 0) k))))]) ([]) hP hD hS hA (fun _ => rfl) (nI_pos (by omega)) (nI_clamp (by omega)) (Nat.le_of_ble_eq_true rfl) (by show _ ≤ 5; omega) (by show _ ≤ 2; omega) dX2_init_35 (by simp) (fun q35 H hP hD hS => ?_)
  have hP : va_P (dC, dI) vwCl ([(b0, .inr (2, [.int 0, .int 0, .int 0, .int 0, .ref q6, .ref q13, .ref q21, .null])), (q6, .inl (cI, 0, .inl (fun k => nI ((fun _ => 0) k)))), (q13, .inl (cS, 0, .inr (.inr (.inr (.inr (fun _ => none)))))), (q21, .inl (cW, 1, .inr (.inr (.inr (.inr (va_up (fun _ => none) 0 (some q27))))))), (q27, .inl (cI, 0, .inl (fun k => nI ((fun _ => 0) k)))), (q35, .inl (cZ, 1, .inl (fun k => bI ((fun _ => false) k))))]) H := hP
  have hD : va_D A ([(b0, .inr (2, [.int 0, .int 0, .int 0, .int 0, .ref q6, .ref q13, .ref q21, .null])), (q6, .inl (cI, 0, .inl (fun k => nI ((fun _ => 0) k)))), (q13, .inl (cS, 0, .inr (.inr (.inr (.inr (fun _ => none)))))), (q21, .inl (cW, 1, .inr (.inr (.inr (.inr (va_up (fun _ => none) 0 (some q27))))))), (q27, .inl (cI, 0, .inl (fun k => nI ((fun _ => 0) k)))), (q35, .inl (cZ, 1, .inl (fun k => bI ((fun _ => false) k))))]) := hD
  refine lv_dup hx hb dX2_init_37 rfl ?_
  refine lv_iconst (v := nI 0) hx hb dX2_init_38 (by decide) ?_
  refine lv_iconst (v := nI 1) hx hb dX2_init_39 (by decide) ?_
  refine W_i (y := bI true) rfl ?_
  refine za_st hx hb hK hP hD hS 5 1 rfl rfl (j := 0) (v := true) (by omega) (by decide) dX2_init_40 (fun H locs hP hD hS => ?_)
  have hP : va_P (dC, dI) vwCl ([(b0, .inr (2, [.int 0, .int 0, .int 0, .int 0, .ref q6, .ref q13, .ref q21, .null])), (q6, .inl (cI, 0, .inl (fun k => nI ((fun _ => 0) k)))), (q13, .inl (cS, 0, .inr (.inr (.inr (.inr (fun _ => none)))))), (q21, .inl (cW, 1, .inr (.inr (.inr (.inr (va_up (fun _ => none) 0 (some q27))))))), (q27, .inl (cI, 0, .inl (fun k => nI ((fun _ => 0) k)))), (q35, .inl (cZ, 1, .inl (fun k => bI ((upN (fun _ => false) 0 true) k))))]) H := hP
  have hD : va_D A ([(b0, .inr (2, [.int 0, .int 0, .int 0, .int 0, .ref q6, .ref q13, .ref q21, .null])), (q6, .inl (cI, 0, .inl (fun k => nI ((fun _ => 0) k)))), (q13, .inl (cS, 0, .inr (.inr (.inr (.inr (fun _ => none)))))), (q21, .inl (cW, 1, .inr (.inr (.inr (.inr (va_up (fun _ => none) 0 (some q27))))))), (q27, .inl (cI, 0, .inl (fun k => nI ((fun _ => 0) k)))), (q35, .inl (cZ, 1, .inl (fun k => bI ((upN (fun _ => false) 0 true) k))))]) := hD
  refine va_put (D := (dC, dI)) (ci := 2) (v := .ref q35) (ty := .array .boolean) (C := RX2) (T := TX2) (N := 8) hx hb hts inX2 tyX2 tyX2_ok nmX2 hown hK hP hD hS 0 rfl rfl 7 (by decide) (hts _ q_fl_X2_24) (fun _ h9 => h9) rfl (by decide +kernel) rfl rfl (Nat.le_of_ble_eq_true rfl) dX2_init_41 (fun H locs hP hD hS => ?_)
  have hP : va_P (dC, dI) vwCl ([(b0, .inr (2, [.int 0, .int 0, .int 0, .int 0, .ref q6, .ref q13, .ref q21, .ref q35])), (q6, .inl (cI, 0, .inl (fun k => nI ((fun _ => 0) k)))), (q13, .inl (cS, 0, .inr (.inr (.inr (.inr (fun _ => none)))))), (q21, .inl (cW, 1, .inr (.inr (.inr (.inr (va_up (fun _ => none) 0 (some q27))))))), (q27, .inl (cI, 0, .inl (fun k => nI ((fun _ => 0) k)))), (q35, .inl (cZ, 1, .inl (fun k => bI ((upN (fun _ => false) 0 true) k))))]) H := hP
  have hD : va_D A ([(b0, .inr (2, [.int 0, .int 0, .int 0, .int 0, .ref q6, .ref q13, .ref q21, .ref q35])), (q6, .inl (cI, 0, .inl (fun k => nI ((fun _ => 0) k)))), (q13, .inl (cS, 0, .inr (.inr (.inr (.inr (fun _ => none)))))), (q21, .inl (cW, 1, .inr (.inr (.inr (.inr (va_up (fun _ => none) 0 (some q27))))))), (q27, .inl (cI, 0, .inl (fun k => nI ((fun _ => 0) k)))), (q35, .inl (cZ, 1, .inl (fun k => bI ((upN (fun _ => false) 0 true) k))))]) := hD
  have hP := hP.sub (ws' := [(b0, .inr (2, [.int 0, .int 0, .int 0, .int 0, .ref q6, .ref q13, .ref q21, .ref q35])), (q6, .inl (cI, 0, .inl (fun k => nI ((fun _ => 0) k)))), (q13, .inl (cS, 0, .inr (.inr (.inr (.inr (fun _ => none)))))), (q21, .inl (cW, 1, .inr (.inr (.inr (.inr (va_up (fun _ => none) 0 (some q27))))))), (q35, .inl (cZ, 1, .inl (fun k => bI ((upN (fun _ => false) 0 true) k)))), (q27, .inl (cI, 0, .inl (fun k => nI ((fun _ => 0) k))))]) [0, 1, 2, 3, 5, 4] rfl
  have hD := hD.sub (ws' := [(b0, .inr (2, [.int 0, .int 0, .int 0, .int 0, .ref q6, .ref q13, .ref q21, .ref q35])), (q6, .inl (cI, 0, .inl (fun k => nI ((fun _ => 0) k)))), (q13, .inl (cS, 0, .inr (.inr (.inr (.inr (fun _ => none)))))), (q21, .inl (cW, 1, .inr (.inr (.inr (.inr (va_up (fun _ => none) 0 (some q27))))))), (q35, .inl (cZ, 1, .inl (fun k => bI ((upN (fun _ => false) 0 true) k)))), (q27, .inl (cI, 0, .inl (fun k => nI ((fun _ => 0) k))))]) [0, 1, 2, 3, 5, 4] (by decide) rfl
  rw [← q0_eq, ← q1_eq] at hP hD
  have hP : va_P (dC, dI) vwCl (sW cI cZ cS cW b0 q6 q13 q21 q35 0 1 0 0 false (fun _ => 0) (fun _ => 0) (fun _ _ => false) (fun _ => q27) (fun _ _ => 0) (upN (fun _ => false) 0 true)) H := hP
  have hD : va_D A (sW cI cZ cS cW b0 q6 q13 q21 q35 0 1 0 0 false (fun _ => 0) (fun _ => 0) (fun _ _ => false) (fun _ => q27) (fun _ _ => 0) (upN (fun _ => false) 0 true)) := hD
  refine W.widen (k := 5) (n := 2) (by omega) (by omega) ?_
  exact ret (sW cI cZ cS cW b0 q6 q13 q21 q35 0 1 0 0 false (fun _ => 0) (fun _ => 0) (fun _ _ => false) (fun _ => q27) (fun _ _ => 0) (upN (fun _ => false) 0 true)) _ _ _ _ dX2_init_44 ⟨_, _, _, _, _, _, _, _, _, _, upN_s _ _ _, rfl⟩ hP hD hS

set_option maxHeartbeats 4000000 in
set_option maxRecDepth 100000 in
theorem m_X2_all (b0 n tn sl : Nat) (bg : Bool) (v1 v2 v3 v4 : Value) (hn : n ≤ 5) (sz : Nat) : Gv l yX2_all ws_X2_all 0 0 245 1701 sz (dC, dI) (tyL cI cZ cS cW) [.ref b0] ([(b0, .inr (2, [.int (nI n), .int (nI tn), .int (nI sl), .int (bI bg), v1, v2, v3, v4]))]) (fun u => ∃ (b3 b4 : Nat) (rw : Nat → Nat) (wy : Nat → Nat → Nat) (o : Nat → Bool), (∀ w, w < 3 ^ n → ∀ k, k < n → wy w k = dg3 w k) ∧ (∀ w, w < 3 ^ n → o w = true) ∧ u = [(b0, .inr (2, [.int (nI n), .int (nI tn), .int (nI sl), .int (bI bg), v1, v2, .ref b3, .ref b4])), (b3, eQ cW (3 ^ n) rw), (b4, .inl (cZ, (3 ^ n), .inl (fun k => bI (o k))))] ++ (rB (fun w0 => eI cI n (wy w0)) rw (3 ^ n))) := by
  refine Gv_of (by decide +kernel) (Nat.le_of_ble_eq_true rfl) ?_
  intro pr ev sx mi ag bl me cd Q ls A S hP hK hD hA hZ hl hin ret
  obtain ⟨hx, hb, hml, hown, hts⟩ := id S
  have hown : sx.vm.findClass RX2 = some mi.cls := hown
  have hS : va_S A sx.heap sx.heap [] := va_S.rf
  have hl : lv_has ls 5 [(0, .ref b0)] := hl
  refine lv_iconst (v := nI 1) hx hb dX2_all_0 (by decide) ?_
  refine lv_istore_n (lv' := [(1, .int (nI 1)), (0, .ref b0)]) hx hb dX2_all_1 rfl hl (by decide) rfl (fun ls hl => ?_)
  refine lv_iconst (v := nI 0) hx hb dX2_all_2 (by decide) ?_
  refine lv_istore_n (lv' := [(2, .int (nI 0)), (1, .int (nI 1)), (0, .ref b0)]) hx hb dX2_all_3 rfl hl (by decide) rfl (fun ls hl => ?_)
  have lp4 : ∀ (kf : Nat) (i : Nat) (a : Nat), n < i + kf → (i ≤ n) → (a = 3 ^ i) → ∀ (H : Heap) (locs : List Loc), va_P (dC, dI) vwCl ([(b0, .inr (2, [.int (nI n), .int (nI tn), .int (nI sl), .int (bI bg), v1, v2, v3, v4]))]) H → va_D A ([(b0, .inr (2, [.int (nI n), .int (nI tn), .int (nI sl), .int (bI bg), v1, v2, v3, v4]))]) → va_S A sx.heap H locs → ∀ ls : Array Slot, lv_has ls 5 [(2, .int (nI i)), (1, .int (nI a)), (0, .ref b0)] → W pr l ev (rmG 0 0 245 1701) sx mi ag bl me cd H locs 0 0 Q (F0 mi 4 ls []) := by
    intro kf
    induction kf with
    | zero => intro i a hkf hi ha; exact absurd hkf (by omega)
    | succ kf ih4 =>
      intro i a hkf hi ha H locs hP hD hS ls hl
      refine lv_iload_n hx hb dX2_all_4 rfl (lv_at hl 0 rfl) ?_
      refine lv_aload_n hx hb dX2_all_5 rfl (lv_at hl 2 rfl) ?_
      refine va_get (D := (dC, dI)) (ci := 2) (v := .int (nI n)) (C := RX2) (T := TX2) (N := 8) hx hb hts inX2 hown hK hP 0 rfl rfl 0 (by decide) (hts _ q_fl_X2_27) (fun _ h9 => h9) rfl dX2_all_6 ?_
      refine icN_ge (tgt := 22) hx hb dX2_all_9 (by decide) (by omega) (by omega) (fun c_9 => ?_) (fun c_9 => ?_)
      · have h3a : a ≤ 243 := by rw [ha, show i = n by omega]; exact p3_243 n hn
        have h3b : a = 3 ^ n := by rw [ha, show i = n by omega]
        have h3c : a * n ≤ 243 * 5 := Nat.mul_le_mul h3a hn
        refine lv_aload_n hx hb dX2_all_22 rfl (lv_at hl 2 rfl) ?_
        refine lv_iload_n hx hb dX2_all_23 rfl (lv_at hl 1 rfl) ?_
        refine lv_aload_n hx hb dX2_all_24 rfl (lv_at hl 2 rfl) ?_
        refine va_get (D := (dC, dI)) (ci := 2) (v := .int (nI n)) (C := RX2) (T := TX2) (N := 8) hx hb hts inX2 hown hK hP 0 rfl rfl 0 (by decide) (hts _ q_fl_X2_27) (fun _ h9 => h9) rfl dX2_all_25 ?_
        refine my_mna (X := [(b0, .inr (2, [.int (nI n), .int (nI tn), .int (nI sl), .int (bI bg), v1, v2, v3, v4]))]) (T := []) (N' := a) (K' := n) (z := (n, .inl (fun k => nI ((fun _ => 0) k)))) hx hb 3 0 rfl rfl (.inl rfl) hown (hts _ q_cl_X2_35) hZ.2.1 (hts _ q_ac_int) hK hP hD hS hA (nI_pos (by omega)) (nI_pos (by omega)) (nI_clamp (by omega)) (nI_clamp (by omega)) (by omega) (by omega) (by show _ ≤ 245; omega) (by show _ ≤ 1701; omega) (fun _ => rfl) dX2_all_28 (fun q28 r28 H hP hD hS => ?_)
        have hP : va_P (dC, dI) vwCl ([(b0, .inr (2, [.int (nI n), .int (nI tn), .int (nI sl), .int (bI bg), v1, v2, v3, v4])), (q28, eQ cW a r28)] ++ (rB (fun w0 => eI cI n ((fun _ _ => 0) w0)) r28 a)) H := hP
        have hD : va_D A ([(b0, .inr (2, [.int (nI n), .int (nI tn), .int (nI sl), .int (bI bg), v1, v2, v3, v4])), (q28, eQ cW a r28)] ++ (rB (fun w0 => eI cI n ((fun _ _ => 0) w0)) r28 a)) := hD
        refine va_put (D := (dC, dI)) (ci := 2) (v := .ref q28) (ty := .array (.array .int)) (C := RX2) (T := TX2) (N := 8) hx hb hts inX2 tyX2 tyX2_ok nmX2 hown hK hP hD hS 0 rfl rfl 6 (by decide) (hts _ q_fl_X2_20) (fun _ h9 => h9) rfl (by decide +kernel) rfl rfl (Nat.le_of_ble_eq_true rfl) dX2_all_32 (fun H locs hP hD hS => ?_)
        have hP : va_P (dC, dI) vwCl ([(b0, .inr (2, [.int (nI n), .int (nI tn), .int (nI sl), .int (bI bg), v1, v2, .ref q28, v4])), (q28, eQ cW a r28)] ++ (rB (fun w0 => eI cI n ((fun _ _ => 0) w0)) r28 a)) H := hP
        have hD : va_D A ([(b0, .inr (2, [.int (nI n), .int (nI tn), .int (nI sl), .int (bI bg), v1, v2, .ref q28, v4])), (q28, eQ cW a r28)] ++ (rB (fun w0 => eI cI n ((fun _ _ => 0) w0)) r28 a)) := hD
        refine lv_aload_n hx hb dX2_all_35 rfl (lv_at hl 2 rfl) ?_
        refine lv_iload_n hx hb dX2_all_36 rfl (lv_at hl 1 rfl) ?_
        refine my_newa (atype := .boolean) (ty := .boolean) (cI := cZ) (a0 := (a, .inl (fun k => bI ((fun _ => false) k)))) (N' := a) hx hb (hts _ q_ac_boolean) rfl hK 1 rfl ([]) ([(b0, .inr (2, [.int (nI n), .int (nI tn), .int (nI sl), .int (bI bg), v1, v2, .ref q28, v4])), (q28, eQ cW a r28)] ++ (rB (fun w0 => eI cI n ((fun _ _ => 0) w0)) r28 a)) hP hD hS hA (fun _ => rfl) (nI_pos (by omega)) (nI_clamp (by omega)) (by show _ * 1 ≤ _; omega) (by show _ ≤ 245; omega) (by show _ ≤ 1701; omega) dX2_all_37 (by simp) (fun q37 H hP hD hS => ?_)
        have hP : va_P (dC, dI) vwCl ([(q37, .inl (cZ, a, .inl (fun k => bI ((fun _ => false) k)))), (b0, .inr (2, [.int (nI n), .int (nI tn), .int (nI sl), .int (bI bg), v1, v2, .ref q28, v4])), (q28, eQ cW a r28)] ++ (rB (fun w0 => eI cI n ((fun _ _ => 0) w0)) r28 a)) H := hP
        have hD : va_D A ([(q37, .inl (cZ, a, .inl (fun k => bI ((fun _ => false) k)))), (b0, .inr (2, [.int (nI n), .int (nI tn), .int (nI sl), .int (bI bg), v1, v2, .ref q28, v4])), (q28, eQ cW a r28)] ++ (rB (fun w0 => eI cI n ((fun _ _ => 0) w0)) r28 a)) := hD
        refine va_put (D := (dC, dI)) (ci := 2) (v := .ref q37) (ty := .array .boolean) (C := RX2) (T := TX2) (N := 8) hx hb hts inX2 tyX2 tyX2_ok nmX2 hown hK hP hD hS 1 rfl rfl 7 (by decide) (hts _ q_fl_X2_24) (fun _ h9 => h9) rfl (by decide +kernel) rfl rfl (Nat.le_of_ble_eq_true rfl) dX2_all_39 (fun H locs hP hD hS => ?_)
        have hP : va_P (dC, dI) vwCl ([(q37, .inl (cZ, a, .inl (fun k => bI ((fun _ => false) k)))), (b0, .inr (2, [.int (nI n), .int (nI tn), .int (nI sl), .int (bI bg), v1, v2, .ref q28, .ref q37])), (q28, eQ cW a r28)] ++ (rB (fun w0 => eI cI n ((fun _ _ => 0) w0)) r28 a)) H := hP
        have hD : va_D A ([(q37, .inl (cZ, a, .inl (fun k => bI ((fun _ => false) k)))), (b0, .inr (2, [.int (nI n), .int (nI tn), .int (nI sl), .int (bI bg), v1, v2, .ref q28, .ref q37])), (q28, eQ cW a r28)] ++ (rB (fun w0 => eI cI n ((fun _ _ => 0) w0)) r28 a)) := hD
        refine lv_iconst (v := nI 0) hx hb dX2_all_42 (by decide) ?_
        refine lv_istore_n (lv' := [(2, .int (nI 0)), (1, .int (nI a)), (0, .ref b0)]) hx hb dX2_all_43 rfl hl (by decide) rfl (fun ls hl => ?_)
        have lp44 : ∀ (kf : Nat) (w : Nat) (g : Nat → Nat → Nat) (oo : Nat → Bool), a < w + kf → (w ≤ a) → (∀ v, v < w → ∀ k, k < n → g v k = dg3 v k) → (∀ v, v < w → oo v = true) → ∀ (H : Heap) (locs : List Loc), va_P (dC, dI) vwCl ([(q37, .inl (cZ, a, .inl (fun k => bI (oo k)))), (b0, .inr (2, [.int (nI n), .int (nI tn), .int (nI sl), .int (bI bg), v1, v2, .ref q28, .ref q37])), (q28, eQ cW a r28)] ++ (rB (fun w0 => eI cI n (g w0)) r28 a)) H → va_D A ([(q37, .inl (cZ, a, .inl (fun k => bI (oo k)))), (b0, .inr (2, [.int (nI n), .int (nI tn), .int (nI sl), .int (bI bg), v1, v2, .ref q28, .ref q37])), (q28, eQ cW a r28)] ++ (rB (fun w0 => eI cI n (g w0)) r28 a)) → va_S A sx.heap H locs → ∀ ls : Array Slot, lv_has ls 5 [(2, .int (nI w)), (1, .int (nI a)), (0, .ref b0)] → W pr l ev (rmG 0 0 245 1701) sx mi ag bl me cd H locs (0 + 1 + a + 1) (0 + a + a * n + a) Q (F0 mi 44 ls []) := by
          intro kf
          induction kf with
          | zero => intro w g oo hkf hw hg ho; exact absurd hkf (by omega)
          | succ kf ih44 =>
            intro w g oo hkf hw hg ho H locs hP hD hS ls hl
            refine lv_iload_n hx hb dX2_all_44 rfl (lv_at hl 0 rfl) ?_
            refine lv_iload_n hx hb dX2_all_45 rfl (lv_at hl 1 rfl) ?_
            refine icN_ge (tgt := 98) hx hb dX2_all_46 (by decide) (by omega) (by omega) (fun c_46 => ?_) (fun c_46 => ?_)
            · have hP := va_P.part (X := [(q37, .inl (cZ, a, .inl (fun k => bI (oo k)))), (b0, .inr (2, [.int (nI n), .int (nI tn), .int (nI sl), .int (bI bg), v1, v2, .ref q28, .ref q37])), (q28, eQ cW a r28)]) (cx := [(b0, .inr (2, [.int (nI n), .int (nI tn), .int (nI sl), .int (bI bg), v1, v2, .ref q28, .ref q37])), (q28, eQ cW a r28), (q37, .inl (cZ, a, .inl (fun k => bI (oo k))))]) (pl := rB (fun w0 => eI cI n (g w0)) r28 a) hP [1, 2, 0] rfl
              have hD := va_D.part (X := [(q37, .inl (cZ, a, .inl (fun k => bI (oo k)))), (b0, .inr (2, [.int (nI n), .int (nI tn), .int (nI sl), .int (bI bg), v1, v2, .ref q28, .ref q37])), (q28, eQ cW a r28)]) (cx := [(b0, .inr (2, [.int (nI n), .int (nI tn), .int (nI sl), .int (bI bg), v1, v2, .ref q28, .ref q37])), (q28, eQ cW a r28), (q37, .inl (cZ, a, .inl (fun k => bI (oo k))))]) (pl := rB (fun w0 => eI cI n (g w0)) r28 a) hD [1, 2, 0] (by decide) rfl
              subst h3b
              refine W.widen (k := 245) (n := 1701) (by omega) (by omega) ?_
              exact ret ([(b0, .inr (2, [.int (nI n), .int (nI tn), .int (nI sl), .int (bI bg), v1, v2, .ref q28, .ref q37])), (q28, eQ cW (3 ^ n) r28), (q37, .inl (cZ, (3 ^ n), .inl (fun k => bI (oo k))))] ++ (rB (fun w0 => eI cI n (g w0)) r28 (3 ^ n))) _ _ _ _ dX2_all_98 ⟨_, _, _, _, _, fun v hv k hk => hg v (by omega) k hk, fun v hv => ho v (by omega), rfl⟩ hP hD hS
            · refine lv_iload_n hx hb dX2_all_49 rfl (lv_at hl 0 rfl) ?_
              refine lv_istore_n (lv' := [(3, .int (nI w)), (2, .int (nI w)), (1, .int (nI a)), (0, .ref b0)]) hx hb dX2_all_50 rfl hl (by decide) rfl (fun ls hl => ?_)
              refine lv_aload_n hx hb dX2_all_51 rfl (lv_at hl 3 rfl) ?_
              refine va_get (D := (dC, dI)) (ci := 2) (v := .ref q37) (C := RX2) (T := TX2) (N := 8) hx hb hts inX2 hown hK hP 1 rfl rfl 7 (by decide) (hts _ q_fl_X2_24) (fun _ h9 => h9) rfl dX2_all_52 ?_
              refine lv_iload_n hx hb dX2_all_55 rfl (lv_at hl 1 rfl) ?_
              refine lv_iconst (v := nI 1) hx hb dX2_all_56 (by decide) ?_
              refine W_i (y := bI true) rfl ?_
              refine za_st hx hb hK hP hD hS 0 1 rfl rfl (j := w) (v := true) (by omega) (by omega) dX2_all_57 (fun H locs hP hD hS => ?_)
              have hP : va_P (dC, dI) vwCl ([(q37, .inl (cZ, a, .inl (fun k => bI ((upN oo w true) k)))), (b0, .inr (2, [.int (nI n), .int (nI tn), .int (nI sl), .int (bI bg), v1, v2, .ref q28, .ref q37])), (q28, eQ cW a r28)] ++ (rB (fun w0 => eI cI n (g w0)) r28 a)) H := hP
              have hD : va_D A ([(q37, .inl (cZ, a, .inl (fun k => bI ((upN oo w true) k)))), (b0, .inr (2, [.int (nI n), .int (nI tn), .int (nI sl), .int (bI bg), v1, v2, .ref q28, .ref q37])), (q28, eQ cW a r28)] ++ (rB (fun w0 => eI cI n (g w0)) r28 a)) := hD
              refine lv_iconst (v := nI 0) hx hb dX2_all_58 (by decide) ?_
              refine lv_istore (lv' := [(4, .int (nI 0)), (3, .int (nI w)), (2, .int (nI w)), (1, .int (nI a)), (0, .ref b0)]) hx hb dX2_all_59 hl (by decide) rfl (fun ls hl => ?_)
              have lp61 : ∀ (kf : Nat) (p2 : Nat) (r : Nat) (g2 : Nat → Nat → Nat), n < p2 + kf → (p2 ≤ n) → (r = w / 3 ^ p2) → (r ≤ w) → (∀ v, v < w → ∀ k, k < n → g2 v k = dg3 v k) → (∀ k, k < p2 → g2 w k = dg3 w k) → ∀ (H : Heap) (locs : List Loc), va_P (dC, dI) vwCl ([(q37, .inl (cZ, a, .inl (fun k => bI ((upN oo w true) k)))), (b0, .inr (2, [.int (nI n), .int (nI tn), .int (nI sl), .int (bI bg), v1, v2, .ref q28, .ref q37])), (q28, eQ cW a r28)] ++ (rB (fun w0 => eI cI n (g2 w0)) r28 a)) H → va_D A ([(q37, .inl (cZ, a, .inl (fun k => bI ((upN oo w true) k)))), (b0, .inr (2, [.int (nI n), .int (nI tn), .int (nI sl), .int (bI bg), v1, v2, .ref q28, .ref q37])), (q28, eQ cW a r28)] ++ (rB (fun w0 => eI cI n (g2 w0)) r28 a)) → va_S A sx.heap H locs → ∀ ls : Array Slot, lv_has ls 5 [(4, .int (nI p2)), (3, .int (nI r)), (2, .int (nI w)), (1, .int (nI a)), (0, .ref b0)] → W pr l ev (rmG 0 0 245 1701) sx mi ag bl me cd H locs (0 + 1 + a + 1) (0 + a + a * n + a) Q (F0 mi 61 ls []) := by
                intro kf
                induction kf with
                | zero => intro p2 r g2 hkf hp2 hr hr2 hg2 hg3; exact absurd hkf (by omega)
                | succ kf ih61 =>
                  intro p2 r g2 hkf hp2 hr hr2 hg2 hg3 H locs hP hD hS ls hl
                  refine lv_iload hx hb dX2_all_61 (lv_at hl 0 rfl) ?_
                  refine lv_aload_n hx hb dX2_all_63 rfl (lv_at hl 4 rfl) ?_
                  refine va_get (D := (dC, dI)) (ci := 2) (v := .int (nI n)) (C := RX2) (T := TX2) (N := 8) hx hb hts inX2 hown hK hP 1 rfl rfl 0 (by decide) (hts _ q_fl_X2_27) (fun _ h9 => h9) rfl dX2_all_64 ?_
                  refine icN_ge (tgt := 92) hx hb dX2_all_67 (by decide) (by omega) (by omega) (fun c_67 => ?_) (fun c_67 => ?_)
                  · refine lv_iinc (v := nI (w + 1)) (lv' := [(2, .int (nI (w + 1))), (4, .int (nI p2)), (3, .int (nI r)), (1, .int (nI a)), (0, .ref b0)]) hx hb dX2_all_92 hl (k := 2) rfl (nI_add _ _) (by decide) rfl (fun ls hl => ?_)
                    refine lv_goto (tgt := 44) hx hb dX2_all_95 (by decide) ?_
                    exact ih44 (w + 1) _ _ (by omega) (by omega) (fun v hv k hk => by rcases Nat.lt_or_ge v w with z | z; (· exact hg2 v z k hk); (· rw [show v = w by omega]; exact hg3 k (by omega))) (fun v hv => by rcases Nat.lt_or_ge v w with z | z; (· rw [upN_n _ _ (by omega)]; exact ho v z); (· rw [show v = w by omega, upN_s])) _ _ hP hD hS _ (lv_sub hl [0, 3, 4] rfl)
                  · refine lv_aload_n hx hb dX2_all_70 rfl (lv_at hl 4 rfl) ?_
                    refine va_get (D := (dC, dI)) (ci := 2) (v := .ref q28) (C := RX2) (T := TX2) (N := 8) hx hb hts inX2 hown hK hP 1 rfl rfl 6 (by decide) (hts _ q_fl_X2_20) (fun _ h9 => h9) rfl dX2_all_71 ?_
                    refine lv_iload_n hx hb dX2_all_74 rfl (lv_at hl 2 rfl) ?_
                    refine aa_ld hx hb hK hP 2 3 rfl rfl (j := w) (by omega) (by omega) dX2_all_75 ?_
                    refine lv_iload hx hb dX2_all_76 (lv_at hl 0 rfl) ?_
                    refine lv_iload_n hx hb dX2_all_78 rfl (lv_at hl 1 rfl) ?_
                    refine lv_iconst (v := nI 3) hx hb dX2_all_79 (by decide) ?_
                    refine lv_irem hx hb dX2_all_80 (nI_ne0 (by omega) (by omega)) ?_
                    refine W_i (y := nI (r % 3)) (pk_rem (by omega) (by omega) (by omega)) ?_
                    refine ri_st (X := [(q37, .inl (cZ, a, .inl (fun k => bI ((upN oo w true) k)))), (b0, .inr (2, [.int (nI n), .int (nI tn), .int (nI sl), .int (bI bg), v1, v2, .ref q28, .ref q37])), (q28, eQ cW a r28)]) (T := []) (wy := g2) (n := n) (ad := r28) (m2 := a) hx hb hK hP hD hS 0 rfl (w := w) (j := p2) (v := r % 3) (by omega) (by omega) (by omega) dX2_all_81 (fun H locs hP hD hS => ?_)
                    have hP : va_P (dC, dI) vwCl ([(q37, .inl (cZ, a, .inl (fun k => bI ((upN oo w true) k)))), (b0, .inr (2, [.int (nI n), .int (nI tn), .int (nI sl), .int (bI bg), v1, v2, .ref q28, .ref q37])), (q28, eQ cW a r28)] ++ (rB (fun w0 => eI cI n ((upN g2 w (upN (g2 w) p2 (r % 3))) w0)) r28 a)) H := hP
                    have hD : va_D A ([(q37, .inl (cZ, a, .inl (fun k => bI ((upN oo w true) k)))), (b0, .inr (2, [.int (nI n), .int (nI tn), .int (nI sl), .int (bI bg), v1, v2, .ref q28, .ref q37])), (q28, eQ cW a r28)] ++ (rB (fun w0 => eI cI n ((upN g2 w (upN (g2 w) p2 (r % 3))) w0)) r28 a)) := hD
                    refine lv_iload_n hx hb dX2_all_82 rfl (lv_at hl 1 rfl) ?_
                    refine lv_iconst (v := nI 3) hx hb dX2_all_83 (by decide) ?_
                    refine lv_idiv hx hb dX2_all_84 (nI_ne0 (by omega) (by omega)) ?_
                    refine W_i (y := nI (r / 3)) (pk_div (by omega) (by omega) (by omega)) ?_
                    refine lv_istore_n (lv' := [(3, .int (nI (r / 3))), (4, .int (nI p2)), (2, .int (nI w)), (1, .int (nI a)), (0, .ref b0)]) hx hb dX2_all_85 rfl hl (by decide) rfl (fun ls hl => ?_)
                    refine lv_iinc (v := nI (p2 + 1)) (lv' := [(4, .int (nI (p2 + 1))), (3, .int (nI (r / 3))), (2, .int (nI w)), (1, .int (nI a)), (0, .ref b0)]) hx hb dX2_all_86 hl (k := 1) rfl (nI_add _ _) (by decide) rfl (fun ls hl => ?_)
                    refine lv_goto (tgt := 61) hx hb dX2_all_89 (by decide) ?_
                    exact ih61 (p2 + 1) _ _ (by omega) (by omega) (by rw [hr, Nat.div_div_eq_div_mul, ← Nat.pow_succ]) (Nat.le_trans (Nat.div_le_self _ _) hr2) (fun v hv k hk => by rw [upN_n _ _ (by omega)]; exact hg2 v hv k hk) (fun k hk => by rw [upN_s]; rcases Nat.lt_or_ge k p2 with z | z; (· rw [upN_n _ _ (by omega)]; exact hg3 k z); (· rw [show k = p2 by omega, upN_s, hr]; rfl)) _ _ hP hD hS _ (lv_sub hl [0, 1, 2, 3, 4] rfl)
              exact lp61 (n + 1) 0 w g (by omega) (by omega) (by simp) (by omega) hg (fun k hk => absurd hk (by omega)) _ _ hP hD hS _ (lv_sub hl [0, 1, 2, 3, 4] rfl)
        exact lp44 (a + 1) 0 _ _ (by omega) (by omega) (fun v hv => absurd hv (by omega)) (fun v hv => absurd hv (by omega)) _ _ hP hD hS _ (lv_sub hl [0, 1, 2] rfl)
      · refine lv_iload_n hx hb dX2_all_12 rfl (lv_at hl 1 rfl) ?_
        refine lv_iconst (v := nI 3) hx hb dX2_all_13 (by decide) ?_
        refine lv_imul hx hb dX2_all_14 ?_
        refine W_i (y := nI (a * 3)) (pk_mul _ _) ?_
        refine lv_istore_n (lv' := [(1, .int (nI (a * 3))), (2, .int (nI i)), (0, .ref b0)]) hx hb dX2_all_15 rfl hl (by decide) rfl (fun ls hl => ?_)
        refine lv_iinc (v := nI (i + 1)) (lv' := [(2, .int (nI (i + 1))), (1, .int (nI (a * 3))), (0, .ref b0)]) hx hb dX2_all_16 hl (k := 1) rfl (nI_add _ _) (by decide) rfl (fun ls hl => ?_)
        refine lv_goto (tgt := 4) hx hb dX2_all_19 (by decide) ?_
        exact ih4 (i + 1) _ (by omega) (by omega) (by rw [ha, Nat.pow_succ]) _ _ hP hD hS _ (lv_sub hl [0, 1, 2] rfl)
  exact lp4 (n + 1) 0 1 (by omega) (by omega) rfl _ _ hP hD hS _ (lv_sub hl [0, 1, 2] rfl)

set_option maxHeartbeats 4000000 in
set_option maxRecDepth 100000 in
theorem m_X2_add (b0 b1 b2 n tn sl : Nat) (bg : Bool) (ht rs : Nat → Nat) (sn : Nat → Nat → Bool) (v3 v4 : Value) (co : Nat) (hn : n < 5) (sz : Nat) : Gv l yX2_add ws_X2_add 1 24 260 1800 sz (dC, dI) (tyL cI cZ cS cW) [.ref b0, .int (nI co)] ([(b0, .inr (2, [.int (nI n), .int (nI tn), .int (nI sl), .int (bI bg), .ref b1, .ref b2, v3, v4])), (b1, .inl (cI, n, .inl (fun k => nI (ht k)))), (b2, eQ cS n rs)] ++ (rB (fun w0 => eZ cZ n (sn w0)) rs n)) (fun u => ∃ (d1 d2 d3 d4 : Nat) (ht2 rs2 : Nat → Nat) (sn2 : Nat → Nat → Bool) (rw2 : Nat → Nat) (wy2 : Nat → Nat → Nat) (o2 : Nat → Bool), (∀ k, k < n → ht2 k = ht k) ∧ ht2 n = co ∧ (∀ p, p < n + 1 → ∀ k, k < n + 1 → sn2 p k = adS n sn p k) ∧ (∀ w, w < 3 ^ (n + 1) → ∀ k, k < n + 1 → wy2 w k = dg3 w k) ∧ (∀ w, w < 3 ^ (n + 1) → o2 w = true) ∧ u = sW cI cZ cS cW b0 d1 d2 d3 d4 (n + 1) (3 ^ (n + 1)) tn sl bg ht2 rs2 sn2 rw2 wy2 o2) := by
  refine Gv_of (by decide +kernel) (Nat.le_of_ble_eq_true rfl) ?_
  intro pr ev sx mi ag bl me cd Q ls A S hP hK hD hA hZ hl hin ret
  obtain ⟨hx, hb, hml, hown, hts⟩ := id S
  have hown : sx.vm.findClass RX2 = some mi.cls := hown
  have hS : va_S A sx.heap sx.heap [] := va_S.rf
  have hl : lv_has ls 6 [(0, .ref b0), (1, .int (nI co))] := hl
  refine lv_aload_n hx hb dX2_add_0 rfl (lv_at hl 0 rfl) ?_
  refine va_get (D := (dC, dI)) (ci := 2) (v := .int (nI n)) (C := RX2) (T := TX2) (N := 8) hx hb hts inX2 hown hK hP 0 rfl rfl 0 (by decide) (hts _ q_fl_X2_27) (fun _ h9 => h9) rfl dX2_add_1 ?_
  refine lv_iconst (v := nI 1) hx hb dX2_add_4 (by decide) ?_
  refine lv_iadd hx hb dX2_add_5 ?_
  refine W_i (y := nI (n + 1)) (nI_add _ _) ?_
  refine my_newa (atype := .int) (ty := .int) (cI := cI) (a0 := ((n + 1), .inl (fun k => nI ((fun _ => 0) k)))) (N' := (n + 1)) hx hb (hts _ q_ac_int) rfl hK 0 rfl ([]) ([(b0, .inr (2, [.int (nI n), .int (nI tn), .int (nI sl), .int (bI bg), .ref b1, .ref b2, v3, v4])), (b1, .inl (cI, n, .inl (fun k => nI (ht k)))), (b2, eQ cS n rs)] ++ (rB (fun w0 => eZ cZ n (sn w0)) rs n)) hP hD hS hA (fun _ => rfl) (nI_pos (by omega)) (nI_clamp (by omega)) (by show _ * 4 ≤ _; omega) (by show _ ≤ 260; omega) (by show _ ≤ 1800; omega) dX2_add_6 (by simp) (fun q6 H hP hD hS => ?_)
  have hP : va_P (dC, dI) vwCl ([(q6, .inl (cI, n + 1, .inl (fun k => nI ((fun _ => 0) k)))), (b0, .inr (2, [.int (nI n), .int (nI tn), .int (nI sl), .int (bI bg), .ref b1, .ref b2, v3, v4])), (b1, .inl (cI, n, .inl (fun k => nI (ht k)))), (b2, eQ cS n rs)] ++ (rB (fun w0 => eZ cZ n (sn w0)) rs n)) H := hP
  have hD : va_D A ([(q6, .inl (cI, n + 1, .inl (fun k => nI ((fun _ => 0) k)))), (b0, .inr (2, [.int (nI n), .int (nI tn), .int (nI sl), .int (bI bg), .ref b1, .ref b2, v3, v4])), (b1, .inl (cI, n, .inl (fun k => nI (ht k)))), (b2, eQ cS n rs)] ++ (rB (fun w0 => eZ cZ n (sn w0)) rs n)) := hD
  refine lv_astore_n (lv' := [(2, .ref q6), (0, .ref b0), (1, .int (nI co))]) hx hb dX2_add_8 rfl hl (by decide) rfl (fun ls hl => ?_)
  refine lv_iconst (v := nI 0) hx hb dX2_add_9 (by decide) ?_
  refine lv_istore_n (lv' := [(3, .int (nI 0)), (2, .ref q6), (0, .ref b0), (1, .int (nI co))]) hx hb dX2_add_10 rfl hl (by decide) rfl (fun ls hl => ?_)
  have lp11 : ∀ (kf : Nat) (i : Nat) (g : Nat → Nat), n < i + kf → (i ≤ n) → (∀ k, k < i → g k = ht k) → ∀ (H : Heap) (locs : List Loc), va_P (dC, dI) vwCl ([(q6, .inl (cI, n + 1, .inl (fun k => nI (g k)))), (b0, .inr (2, [.int (nI n), .int (nI tn), .int (nI sl), .int (bI bg), .ref b1, .ref b2, v3, v4])), (b1, .inl (cI, n, .inl (fun k => nI (ht k)))), (b2, eQ cS n rs)] ++ (rB (fun w0 => eZ cZ n (sn w0)) rs n)) H → va_D A ([(q6, .inl (cI, n + 1, .inl (fun k => nI (g k)))), (b0, .inr (2, [.int (nI n), .int (nI tn), .int (nI sl), .int (bI bg), .ref b1, .ref b2, v3, v4])), (b1, .inl (cI, n, .inl (fun k => nI (ht k)))), (b2, eQ cS n rs)] ++ (rB (fun w0 => eZ cZ n (sn w0)) rs n)) → va_S A sx.heap H locs → ∀ ls : Array Slot, lv_has ls 6 [(3, .int (nI i)), (2, .ref q6), (0, .ref b0), (1, .int (nI co))] → W pr l ev (rmG 1 24 260 1800) sx mi ag bl me cd H locs (0 + 1) (0 + (n + 1)) Q (F0 mi 11 ls []) := by
    intro kf
    induction kf with
    | zero => intro i g hkf hi hg; exact absurd hkf (by omega)
    | succ kf ih11 =>
      intro i g hkf hi hg H locs hP hD hS ls hl
      refine lv_iload_n hx hb dX2_add_11 rfl (lv_at hl 0 rfl) ?_
      refine lv_aload_n hx hb dX2_add_12 rfl (lv_at hl 2 rfl) ?_
      refine va_get (D := (dC, dI)) (ci := 2) (v := .int (nI n)) (C := RX2) (T := TX2) (N := 8) hx hb hts inX2 hown hK hP 1 rfl rfl 0 (by decide) (hts _ q_fl_X2_27) (fun _ h9 => h9) rfl dX2_add_13 ?_
      refine icN_ge (tgt := 34) hx hb dX2_add_16 (by decide) (by omega) (by omega) (fun c_16 => ?_) (fun c_16 => ?_)
      · refine lv_aload_n hx hb dX2_add_34 rfl (lv_at hl 1 rfl) ?_
        refine lv_aload_n hx hb dX2_add_35 rfl (lv_at hl 2 rfl) ?_
        refine va_get (D := (dC, dI)) (ci := 2) (v := .int (nI n)) (C := RX2) (T := TX2) (N := 8) hx hb hts inX2 hown hK hP 1 rfl rfl 0 (by decide) (hts _ q_fl_X2_27) (fun _ h9 => h9) rfl dX2_add_36 ?_
        refine lv_iload_n hx hb dX2_add_39 rfl (lv_at hl 3 rfl) ?_
        refine ia_st hx hb hK hP hD hS 0 0 rfl rfl (j := n) (v := co) (by omega) (by omega) dX2_add_40 (fun H locs hP hD hS => ?_)
        have hP : va_P (dC, dI) vwCl ([(q6, .inl (cI, n + 1, .inl (fun k => nI ((upN g n co) k)))), (b0, .inr (2, [.int (nI n), .int (nI tn), .int (nI sl), .int (bI bg), .ref b1, .ref b2, v3, v4])), (b1, .inl (cI, n, .inl (fun k => nI (ht k)))), (b2, eQ cS n rs)] ++ (rB (fun w0 => eZ cZ n (sn w0)) rs n)) H := hP
        have hD : va_D A ([(q6, .inl (cI, n + 1, .inl (fun k => nI ((upN g n co) k)))), (b0, .inr (2, [.int (nI n), .int (nI tn), .int (nI sl), .int (bI bg), .ref b1, .ref b2, v3, v4])), (b1, .inl (cI, n, .inl (fun k => nI (ht k)))), (b2, eQ cS n rs)] ++ (rB (fun w0 => eZ cZ n (sn w0)) rs n)) := hD
        refine lv_aload_n hx hb dX2_add_41 rfl (lv_at hl 2 rfl) ?_
        refine lv_aload_n hx hb dX2_add_42 rfl (lv_at hl 1 rfl) ?_
        refine va_put (D := (dC, dI)) (ci := 2) (v := .ref q6) (ty := .array .int) (C := RX2) (T := TX2) (N := 8) hx hb hts inX2 tyX2 tyX2_ok nmX2 hown hK hP hD hS 1 rfl rfl 4 (by decide) (hts _ q_fl_X2_7) (fun _ h9 => h9) rfl (by decide +kernel) rfl rfl (Nat.le_of_ble_eq_true rfl) dX2_add_43 (fun H locs hP hD hS => ?_)
        have hP : va_P (dC, dI) vwCl ([(q6, .inl (cI, n + 1, .inl (fun k => nI ((upN g n co) k)))), (b0, .inr (2, [.int (nI n), .int (nI tn), .int (nI sl), .int (bI bg), .ref q6, .ref b2, v3, v4])), (b1, .inl (cI, n, .inl (fun k => nI (ht k)))), (b2, eQ cS n rs)] ++ (rB (fun w0 => eZ cZ n (sn w0)) rs n)) H := hP
        have hD : va_D A ([(q6, .inl (cI, n + 1, .inl (fun k => nI ((upN g n co) k)))), (b0, .inr (2, [.int (nI n), .int (nI tn), .int (nI sl), .int (bI bg), .ref q6, .ref b2, v3, v4])), (b1, .inl (cI, n, .inl (fun k => nI (ht k)))), (b2, eQ cS n rs)] ++ (rB (fun w0 => eZ cZ n (sn w0)) rs n)) := hD
        refine lv_aload_n hx hb dX2_add_46 rfl (lv_at hl 2 rfl) ?_
        refine va_get (D := (dC, dI)) (ci := 2) (v := .int (nI n)) (C := RX2) (T := TX2) (N := 8) hx hb hts inX2 hown hK hP 1 rfl rfl 0 (by decide) (hts _ q_fl_X2_27) (fun _ h9 => h9) rfl dX2_add_47 ?_
        refine lv_iconst (v := nI 1) hx hb dX2_add_50 (by decide) ?_
        refine lv_iadd hx hb dX2_add_51 ?_
        refine W_i (y := nI (n + 1)) (nI_add _ _) ?_
        refine lv_aload_n hx hb dX2_add_52 rfl (lv_at hl 2 rfl) ?_
        refine va_get (D := (dC, dI)) (ci := 2) (v := .int (nI n)) (C := RX2) (T := TX2) (N := 8) hx hb hts inX2 hown hK hP 1 rfl rfl 0 (by decide) (hts _ q_fl_X2_27) (fun _ h9 => h9) rfl dX2_add_53 ?_
        refine lv_iconst (v := nI 1) hx hb dX2_add_56 (by decide) ?_
        refine lv_iadd hx hb dX2_add_57 ?_
        refine W_i (y := nI (n + 1)) (nI_add _ _) ?_
        have h3c : (n + 1) * (n + 1) ≤ 5 * 5 := Nat.mul_le_mul (by omega) (by omega)
        refine my_mna (X := [(q6, .inl (cI, n + 1, .inl (fun k => nI ((upN g n co) k)))), (b0, .inr (2, [.int (nI n), .int (nI tn), .int (nI sl), .int (bI bg), .ref q6, .ref b2, v3, v4])), (b1, .inl (cI, n, .inl (fun k => nI (ht k)))), (b2, eQ cS n rs)]) (T := rB (fun w0 => eZ cZ n (sn w0)) rs n) (N' := n + 1) (K' := n + 1) (z := ((n + 1), .inl (fun k => bI ((fun _ => false) k)))) hx hb 2 1 rfl rfl (.inr rfl) hown (hts _ q_cl_X2_31) hZ.1 (hts _ q_ac_boolean) hK hP hD hS hA (nI_pos (by omega)) (nI_pos (by omega)) (nI_clamp (by omega)) (nI_clamp (by omega)) (by omega) (by omega) (by show _ ≤ 260; omega) (by show _ ≤ 1800; omega) (fun _ => rfl) dX2_add_58 (fun q58 r58 H hP hD hS => ?_)
        have hP : va_P (dC, dI) vwCl ([(q6, .inl (cI, n + 1, .inl (fun k => nI ((upN g n co) k)))), (b0, .inr (2, [.int (nI n), .int (nI tn), .int (nI sl), .int (bI bg), .ref q6, .ref b2, v3, v4])), (b1, .inl (cI, n, .inl (fun k => nI (ht k)))), (b2, eQ cS n rs), (q58, eQ cS (n + 1) r58)] ++ (rB (fun w0 => eZ cZ n (sn w0)) rs n ++ (rB (fun w0 => eZ cZ (n + 1) ((fun _ _ => false) w0)) r58 (n + 1)))) H := hP
        have hD : va_D A ([(q6, .inl (cI, n + 1, .inl (fun k => nI ((upN g n co) k)))), (b0, .inr (2, [.int (nI n), .int (nI tn), .int (nI sl), .int (bI bg), .ref q6, .ref b2, v3, v4])), (b1, .inl (cI, n, .inl (fun k => nI (ht k)))), (b2, eQ cS n rs), (q58, eQ cS (n + 1) r58)] ++ (rB (fun w0 => eZ cZ n (sn w0)) rs n ++ (rB (fun w0 => eZ cZ (n + 1) ((fun _ _ => false) w0)) r58 (n + 1)))) := hD
        refine lv_astore_n (lv' := [(3, .ref q58), (2, .ref q6), (0, .ref b0), (1, .int (nI co))]) hx hb dX2_add_62 rfl hl (by decide) rfl (fun ls hl => ?_)
        refine lv_iconst (v := nI 0) hx hb dX2_add_63 (by decide) ?_
        refine lv_istore (lv' := [(4, .int (nI 0)), (3, .ref q58), (2, .ref q6), (0, .ref b0), (1, .int (nI co))]) hx hb dX2_add_64 hl (by decide) rfl (fun ls hl => ?_)
        have lp66 : ∀ (kf : Nat) (p4 : Nat) (g1 : Nat → Nat → Bool), (n + 1) < p4 + kf → (p4 ≤ n + 1) → (∀ q, q < p4 → ∀ k, k < n + 1 → g1 q k = adS n sn q k) → ∀ (H : Heap) (locs : List Loc), va_P (dC, dI) vwCl ([(q6, .inl (cI, n + 1, .inl (fun k => nI ((upN g n co) k)))), (b0, .inr (2, [.int (nI n), .int (nI tn), .int (nI sl), .int (bI bg), .ref q6, .ref b2, v3, v4])), (b1, .inl (cI, n, .inl (fun k => nI (ht k)))), (b2, eQ cS n rs), (q58, eQ cS (n + 1) r58)] ++ (rB (fun w0 => eZ cZ n (sn w0)) rs n ++ (rB (fun w0 => eZ cZ (n + 1) (g1 w0)) r58 (n + 1)))) H → va_D A ([(q6, .inl (cI, n + 1, .inl (fun k => nI ((upN g n co) k)))), (b0, .inr (2, [.int (nI n), .int (nI tn), .int (nI sl), .int (bI bg), .ref q6, .ref b2, v3, v4])), (b1, .inl (cI, n, .inl (fun k => nI (ht k)))), (b2, eQ cS n rs), (q58, eQ cS (n + 1) r58)] ++ (rB (fun w0 => eZ cZ n (sn w0)) rs n ++ (rB (fun w0 => eZ cZ (n + 1) (g1 w0)) r58 (n + 1)))) → va_S A sx.heap H locs → ∀ ls : Array Slot, lv_has ls 6 [(4, .int (nI p4)), (3, .ref q58), (2, .ref q6), (0, .ref b0), (1, .int (nI co))] → W pr l ev (rmG 1 24 260 1800) sx mi ag bl me cd H locs (0 + 1 + 1 + (n + 1)) (0 + (n + 1) + (n + 1) + (n + 1) * (n + 1)) Q (F0 mi 66 ls []) := by
          intro kf
          induction kf with
          | zero => intro p4 g1 hkf hp4 hg1; exact absurd hkf (by omega)
          | succ kf ih66 =>
            intro p4 g1 hkf hp4 hg1 H locs hP hD hS ls hl
            refine lv_iload hx hb dX2_add_66 (lv_at hl 0 rfl) ?_
            refine lv_aload_n hx hb dX2_add_68 rfl (lv_at hl 3 rfl) ?_
            refine va_get (D := (dC, dI)) (ci := 2) (v := .int (nI n)) (C := RX2) (T := TX2) (N := 8) hx hb hts inX2 hown hK hP 1 rfl rfl 0 (by decide) (hts _ q_fl_X2_27) (fun _ h9 => h9) rfl dX2_add_69 ?_
            refine icN_gt (tgt := 149) hx hb dX2_add_72 (by decide) (by omega) (by omega) (fun c_72 => ?_) (fun c_72 => ?_)
            · refine lv_aload_n hx hb dX2_add_149 rfl (lv_at hl 3 rfl) ?_
              refine lv_aload_n hx hb dX2_add_150 rfl (lv_at hl 1 rfl) ?_
              refine va_put (D := (dC, dI)) (ci := 2) (v := .ref q58) (ty := .array (.array .boolean)) (C := RX2) (T := TX2) (N := 8) hx hb hts inX2 tyX2 tyX2_ok nmX2 hown hK hP hD hS 1 rfl rfl 5 (by decide) (hts _ q_fl_X2_15) (fun _ h9 => h9) rfl (by decide +kernel) rfl rfl (Nat.le_of_ble_eq_true rfl) dX2_add_151 (fun H locs hP hD hS => ?_)
              have hP : va_P (dC, dI) vwCl ([(q6, .inl (cI, n + 1, .inl (fun k => nI ((upN g n co) k)))), (b0, .inr (2, [.int (nI n), .int (nI tn), .int (nI sl), .int (bI bg), .ref q6, .ref q58, v3, v4])), (b1, .inl (cI, n, .inl (fun k => nI (ht k)))), (b2, eQ cS n rs), (q58, eQ cS (n + 1) r58)] ++ (rB (fun w0 => eZ cZ n (sn w0)) rs n ++ (rB (fun w0 => eZ cZ (n + 1) (g1 w0)) r58 (n + 1)))) H := hP
              have hD : va_D A ([(q6, .inl (cI, n + 1, .inl (fun k => nI ((upN g n co) k)))), (b0, .inr (2, [.int (nI n), .int (nI tn), .int (nI sl), .int (bI bg), .ref q6, .ref q58, v3, v4])), (b1, .inl (cI, n, .inl (fun k => nI (ht k)))), (b2, eQ cS n rs), (q58, eQ cS (n + 1) r58)] ++ (rB (fun w0 => eZ cZ n (sn w0)) rs n ++ (rB (fun w0 => eZ cZ (n + 1) (g1 w0)) r58 (n + 1)))) := hD
              refine lv_aload_n hx hb dX2_add_154 rfl (lv_at hl 3 rfl) ?_
              refine lv_dup hx hb dX2_add_155 rfl ?_
              refine va_get (D := (dC, dI)) (ci := 2) (v := .int (nI n)) (C := RX2) (T := TX2) (N := 8) hx hb hts inX2 hown hK hP 1 rfl rfl 0 (by decide) (hts _ q_fl_X2_27) (fun _ h9 => h9) rfl dX2_add_156 ?_
              refine lv_iconst (v := nI 1) hx hb dX2_add_159 (by decide) ?_
              refine lv_iadd hx hb dX2_add_160 ?_
              refine W_i (y := nI (n + 1)) (nI_add _ _) ?_
              refine va_put (D := (dC, dI)) (ci := 2) (v := .int (nI (n + 1))) (ty := .int) (C := RX2) (T := TX2) (N := 8) hx hb hts inX2 tyX2 tyX2_ok nmX2 hown hK hP hD hS 1 rfl rfl 0 (by decide) (hts _ q_fl_X2_27) (fun _ h9 => h9) rfl (by decide +kernel) rfl rfl (Nat.le_of_ble_eq_true rfl) dX2_add_161 (fun H locs hP hD hS => ?_)
              have hP : va_P (dC, dI) vwCl ([(q6, .inl (cI, n + 1, .inl (fun k => nI ((upN g n co) k)))), (b0, .inr (2, [.int (nI (n + 1)), .int (nI tn), .int (nI sl), .int (bI bg), .ref q6, .ref q58, v3, v4])), (b1, .inl (cI, n, .inl (fun k => nI (ht k)))), (b2, eQ cS n rs), (q58, eQ cS (n + 1) r58)] ++ (rB (fun w0 => eZ cZ n (sn w0)) rs n ++ (rB (fun w0 => eZ cZ (n + 1) (g1 w0)) r58 (n + 1)))) H := hP
              have hD : va_D A ([(q6, .inl (cI, n + 1, .inl (fun k => nI ((upN g n co) k)))), (b0, .inr (2, [.int (nI (n + 1)), .int (nI tn), .int (nI sl), .int (bI bg), .ref q6, .ref q58, v3, v4])), (b1, .inl (cI, n, .inl (fun k => nI (ht k)))), (b2, eQ cS n rs), (q58, eQ cS (n + 1) r58)] ++ (rB (fun w0 => eZ cZ n (sn w0)) rs n ++ (rB (fun w0 => eZ cZ (n + 1) (g1 w0)) r58 (n + 1)))) := hD
              refine lv_aload_n hx hb dX2_add_164 rfl (lv_at hl 3 rfl) ?_
              have hP := hP.sl (u := [(q6, .inl (cI, n + 1, .inl (fun k => nI ((upN g n co) k)))), (b0, .inr (2, [.int (nI (n + 1)), .int (nI tn), .int (nI sl), .int (bI bg), .ref q6, .ref q58, v3, v4])), (b1, .inl (cI, n, .inl (fun k => nI (ht k)))), (b2, eQ cS n rs), (q58, eQ cS (n + 1) r58)] ++ (rB (fun w0 => eZ cZ (n + 1) (g1 w0)) r58 (n + 1))) ((List.sublist_append_right _ _).append_left _)
              have hD := hD.sl (u := [(q6, .inl (cI, n + 1, .inl (fun k => nI ((upN g n co) k)))), (b0, .inr (2, [.int (nI (n + 1)), .int (nI tn), .int (nI sl), .int (bI bg), .ref q6, .ref q58, v3, v4])), (b1, .inl (cI, n, .inl (fun k => nI (ht k)))), (b2, eQ cS n rs), (q58, eQ cS (n + 1) r58)] ++ (rB (fun w0 => eZ cZ (n + 1) (g1 w0)) r58 (n + 1))) ((List.sublist_append_right _ _).append_left _)
              have hP := va_P.part (X := [(q6, .inl (cI, n + 1, .inl (fun k => nI ((upN g n co) k)))), (b0, .inr (2, [.int (nI (n + 1)), .int (nI tn), .int (nI sl), .int (bI bg), .ref q6, .ref q58, v3, v4])), (b1, .inl (cI, n, .inl (fun k => nI (ht k)))), (b2, eQ cS n rs), (q58, eQ cS (n + 1) r58)]) (cx := [(b0, .inr (2, [.int (nI (n + 1)), .int (nI tn), .int (nI sl), .int (bI bg), .ref q6, .ref q58, v3, v4])), (q6, .inl (cI, n + 1, .inl (fun k => nI ((upN g n co) k)))), (q58, eQ cS (n + 1) r58)]) (pl := rB (fun w0 => eZ cZ (n + 1) (g1 w0)) r58 (n + 1)) hP [1, 0, 4] rfl
              have hD := va_D.part (X := [(q6, .inl (cI, n + 1, .inl (fun k => nI ((upN g n co) k)))), (b0, .inr (2, [.int (nI (n + 1)), .int (nI tn), .int (nI sl), .int (bI bg), .ref q6, .ref q58, v3, v4])), (b1, .inl (cI, n, .inl (fun k => nI (ht k)))), (b2, eQ cS n rs), (q58, eQ cS (n + 1) r58)]) (cx := [(b0, .inr (2, [.int (nI (n + 1)), .int (nI tn), .int (nI sl), .int (bI bg), .ref q6, .ref q58, v3, v4])), (q6, .inl (cI, n + 1, .inl (fun k => nI ((upN g n co) k)))), (q58, eQ cS (n + 1) r58)]) (pl := rB (fun w0 => eZ cZ (n + 1) (g1 w0)) r58 (n + 1)) hD [1, 0, 4] (by decide) rfl
              have hP := hP.pm (List.perm_append_comm (l₁ := [(q6, .inl (cI, n + 1, .inl (fun k => nI ((upN g n co) k)))), (q58, eQ cS (n + 1) r58)] ++ rB (fun w0 => eZ cZ (n + 1) (g1 w0)) r58 (n + 1)) (l₂ := [(b0, .inr (2, [.int (nI (n + 1)), .int (nI tn), .int (nI sl), .int (bI bg), .ref q6, .ref q58, v3, v4]))]))
              have hD := hD.pm (List.perm_append_comm (l₁ := [(q6, .inl (cI, n + 1, .inl (fun k => nI ((upN g n co) k)))), (q58, eQ cS (n + 1) r58)] ++ rB (fun w0 => eZ cZ (n + 1) (g1 w0)) r58 (n + 1)) (l₂ := [(b0, .inr (2, [.int (nI (n + 1)), .int (nI tn), .int (nI sl), .int (bI bg), .ref q6, .ref q58, v3, v4]))]))
              refine call_VgV (As := []) (rest := []) (wr := [(q6, .inl (cI, n + 1, .inl (fun k => nI ((upN g n co) k)))), (q58, eQ cS (n + 1) r58)] ++ rB (fun w0 => eZ cZ (n + 1) (g1 w0)) r58 (n + 1)) (wc := [(b0, .inr (2, [.int (nI (n + 1)), .int (nI tn), .int (nI sl), .int (bI bg), .ref q6, .ref q58, v3, v4]))]) S (m_X2_all b0 (n + 1) tn sl bg (.ref q6) (.ref q58) v3 v4 (by omega) H.size) g_X2_X2_all hd_X2_all ⟨Nat.le_of_ble_eq_true rfl, Nat.le_of_ble_eq_true rfl⟩ ⟨by show _ ≤ 260; omega, by show _ ≤ 1800; omega⟩ hP hD hK hS hA hZ 0 rfl rfl hl.1 rfl (Nat.le_of_ble_eq_true rfl) dX2_add_165 (fun u H locs hq hP hD hS => ?_)
              obtain ⟨b3, b4, rw2, wy2, o2, hwy2, ho2, rfl⟩ := hq
              have hP := hP.pm (rows_pm ([(q6, .inl (cI, n + 1, .inl (fun k => nI ((upN g n co) k)))), (q58, eQ cS (n + 1) r58)]) (rB (fun w0 => eZ cZ (n + 1) (g1 w0)) r58 (n + 1)) ([(b0, .inr (2, [.int (nI (n + 1)), .int (nI tn), .int (nI sl), .int (bI bg), .ref q6, .ref q58, .ref b3, .ref b4])), (b3, eQ cW (3 ^ (n + 1)) rw2), (b4, .inl (cZ, (3 ^ (n + 1)), .inl (fun k => bI (o2 k))))]) (rB (fun w0 => eI cI (n + 1) (wy2 w0)) rw2 (3 ^ (n + 1))))
              have hD := hD.pm (rows_pm ([(q6, .inl (cI, n + 1, .inl (fun k => nI ((upN g n co) k)))), (q58, eQ cS (n + 1) r58)]) (rB (fun w0 => eZ cZ (n + 1) (g1 w0)) r58 (n + 1)) ([(b0, .inr (2, [.int (nI (n + 1)), .int (nI tn), .int (nI sl), .int (bI bg), .ref q6, .ref q58, .ref b3, .ref b4])), (b3, eQ cW (3 ^ (n + 1)) rw2), (b4, .inl (cZ, (3 ^ (n + 1)), .inl (fun k => bI (o2 k))))]) (rB (fun w0 => eI cI (n + 1) (wy2 w0)) rw2 (3 ^ (n + 1))))
              have hP := va_P.part (X := [(b0, .inr (2, [.int (nI (n + 1)), .int (nI tn), .int (nI sl), .int (bI bg), .ref q6, .ref q58, .ref b3, .ref b4])), (b3, eQ cW (3 ^ (n + 1)) rw2), (b4, .inl (cZ, (3 ^ (n + 1)), .inl (fun k => bI (o2 k)))), (q6, .inl (cI, n + 1, .inl (fun k => nI ((upN g n co) k)))), (q58, eQ cS (n + 1) r58)]) (cx := [(b0, .inr (2, [.int (nI (n + 1)), .int (nI tn), .int (nI sl), .int (bI bg), .ref q6, .ref q58, .ref b3, .ref b4])), (q6, .inl (cI, n + 1, .inl (fun k => nI ((upN g n co) k)))), (q58, eQ cS (n + 1) r58), (b3, eQ cW (3 ^ (n + 1)) rw2), (b4, .inl (cZ, (3 ^ (n + 1)), .inl (fun k => bI (o2 k))))]) (pl := rB (fun w0 => eZ cZ (n + 1) (g1 w0)) r58 (n + 1) ++ (rB (fun w0 => eI cI (n + 1) (wy2 w0)) rw2 (3 ^ (n + 1)))) hP [0, 3, 4, 1, 2] rfl
              have hD := va_D.part (X := [(b0, .inr (2, [.int (nI (n + 1)), .int (nI tn), .int (nI sl), .int (bI bg), .ref q6, .ref q58, .ref b3, .ref b4])), (b3, eQ cW (3 ^ (n + 1)) rw2), (b4, .inl (cZ, (3 ^ (n + 1)), .inl (fun k => bI (o2 k)))), (q6, .inl (cI, n + 1, .inl (fun k => nI ((upN g n co) k)))), (q58, eQ cS (n + 1) r58)]) (cx := [(b0, .inr (2, [.int (nI (n + 1)), .int (nI tn), .int (nI sl), .int (bI bg), .ref q6, .ref q58, .ref b3, .ref b4])), (q6, .inl (cI, n + 1, .inl (fun k => nI ((upN g n co) k)))), (q58, eQ cS (n + 1) r58), (b3, eQ cW (3 ^ (n + 1)) rw2), (b4, .inl (cZ, (3 ^ (n + 1)), .inl (fun k => bI (o2 k))))]) (pl := rB (fun w0 => eZ cZ (n + 1) (g1 w0)) r58 (n + 1) ++ (rB (fun w0 => eI cI (n + 1) (wy2 w0)) rw2 (3 ^ (n + 1)))) hD [0, 3, 4, 1, 2] (by decide) rfl
              have hP : va_P (dC, dI) vwCl (sW cI cZ cS cW b0 q6 q58 b3 b4 (n + 1) (3 ^ (n + 1)) tn sl bg (upN g n co) r58 g1 rw2 wy2 o2) H := hP
              have hD : va_D A (sW cI cZ cS cW b0 q6 q58 b3 b4 (n + 1) (3 ^ (n + 1)) tn sl bg (upN g n co) r58 g1 rw2 wy2 o2) := hD
              refine W.widen (k := 260) (n := 1800) (by omega) (by omega) ?_
              exact ret (sW cI cZ cS cW b0 q6 q58 b3 b4 (n + 1) (3 ^ (n + 1)) tn sl bg (upN g n co) r58 g1 rw2 wy2 o2) _ _ _ _ dX2_add_168 ⟨_, _, _, _, _, _, _, _, _, _, fun k hk => by rw [upN_n _ _ (by omega)]; exact hg k (by omega), upN_s _ _ _, fun q hq k hk => hg1 q (by omega) k hk, hwy2, ho2, rfl⟩ hP hD hS
            · refine lv_iconst (v := nI 0) hx hb dX2_add_75 (by decide) ?_
              refine lv_istore (lv' := [(5, .int (nI 0)), (4, .int (nI p4)), (3, .ref q58), (2, .ref q6), (0, .ref b0), (1, .int (nI co))]) hx hb dX2_add_76 hl (by decide) rfl (fun ls hl => ?_)
              have lp78 : ∀ (kf : Nat) (j : Nat) (g2 : Nat → Nat → Bool), (n + 1) < j + kf → (j ≤ n + 1) → (∀ q, q < p4 → ∀ k, k < n + 1 → g2 q k = adS n sn q k) → (∀ k, k < j → g2 p4 k = adS n sn p4 k) → ∀ (H : Heap) (locs : List Loc), va_P (dC, dI) vwCl ([(q6, .inl (cI, n + 1, .inl (fun k => nI ((upN g n co) k)))), (b0, .inr (2, [.int (nI n), .int (nI tn), .int (nI sl), .int (bI bg), .ref q6, .ref b2, v3, v4])), (b1, .inl (cI, n, .inl (fun k => nI (ht k)))), (b2, eQ cS n rs), (q58, eQ cS (n + 1) r58)] ++ (rB (fun w0 => eZ cZ n (sn w0)) rs n ++ (rB (fun w0 => eZ cZ (n + 1) (g2 w0)) r58 (n + 1)))) H → va_D A ([(q6, .inl (cI, n + 1, .inl (fun k => nI ((upN g n co) k)))), (b0, .inr (2, [.int (nI n), .int (nI tn), .int (nI sl), .int (bI bg), .ref q6, .ref b2, v3, v4])), (b1, .inl (cI, n, .inl (fun k => nI (ht k)))), (b2, eQ cS n rs), (q58, eQ cS (n + 1) r58)] ++ (rB (fun w0 => eZ cZ n (sn w0)) rs n ++ (rB (fun w0 => eZ cZ (n + 1) (g2 w0)) r58 (n + 1)))) → va_S A sx.heap H locs → ∀ ls : Array Slot, lv_has ls 6 [(5, .int (nI j)), (4, .int (nI p4)), (3, .ref q58), (2, .ref q6), (0, .ref b0), (1, .int (nI co))] → W pr l ev (rmG 1 24 260 1800) sx mi ag bl me cd H locs (0 + 1 + 1 + (n + 1)) (0 + (n + 1) + (n + 1) + (n + 1) * (n + 1)) Q (F0 mi 78 ls []) := by
                intro kf
                induction kf with
                | zero => intro j g2 hkf hj hg2 hg3; exact absurd hkf (by omega)
                | succ kf ih78 =>
                  intro j g2 hkf hj hg2 hg3 H locs hP hD hS ls hl
                  refine lv_iload hx hb dX2_add_78 (lv_at hl 0 rfl) ?_
                  refine lv_aload_n hx hb dX2_add_80 rfl (lv_at hl 4 rfl) ?_
                  refine va_get (D := (dC, dI)) (ci := 2) (v := .int (nI n)) (C := RX2) (T := TX2) (N := 8) hx hb hts inX2 hown hK hP 1 rfl rfl 0 (by decide) (hts _ q_fl_X2_27) (fun _ h9 => h9) rfl dX2_add_81 ?_
                  refine icN_gt (tgt := 143) hx hb dX2_add_84 (by decide) (by omega) (by omega) (fun c_84 => ?_) (fun c_84 => ?_)
                  · refine lv_iinc (v := nI (p4 + 1)) (lv' := [(4, .int (nI (p4 + 1))), (5, .int (nI j)), (3, .ref q58), (2, .ref q6), (0, .ref b0), (1, .int (nI co))]) hx hb dX2_add_143 hl (k := 1) rfl (nI_add _ _) (by decide) rfl (fun ls hl => ?_)
                    refine lv_goto (tgt := 66) hx hb dX2_add_146 (by decide) ?_
                    exact ih66 (p4 + 1) _ (by omega) (by omega) (fun q hq k hk => by rcases Nat.lt_or_ge q p4 with z | z; (· exact hg2 q z k hk); (· rw [show q = p4 by omega]; exact hg3 k (by omega))) _ _ hP hD hS _ (lv_sub hl [0, 2, 3, 4, 5] rfl)
                  · refine lv_aload_n hx hb dX2_add_87 rfl (lv_at hl 2 rfl) ?_
                    refine lv_iload hx hb dX2_add_88 (lv_at hl 1 rfl) ?_
                    refine aa_ld hx hb hK hP 4 2 rfl rfl (j := p4) (by omega) (by omega) dX2_add_90 ?_
                    refine lv_iload hx hb dX2_add_91 (lv_at hl 0 rfl) ?_
                    refine lv_iload hx hb dX2_add_93 (lv_at hl 1 rfl) ?_
                    refine lv_iload hx hb dX2_add_95 (lv_at hl 0 rfl) ?_
                    refine icN_eq (tgt := 135) hx hb dX2_add_97 (by decide) (by omega) (by omega) (fun c_97 => ?_) (fun c_97 => ?_)
                    · refine lv_iconst (v := nI 0) hx hb dX2_add_135 (by decide) ?_
                      refine W_i (y := bI false) rfl ?_
                      refine rz_stL (X := [(q6, .inl (cI, n + 1, .inl (fun k => nI ((upN g n co) k)))), (b0, .inr (2, [.int (nI n), .int (nI tn), .int (nI sl), .int (bI bg), .ref q6, .ref b2, v3, v4])), (b1, .inl (cI, n, .inl (fun k => nI (ht k)))), (b2, eQ cS n rs), (q58, eQ cS (n + 1) r58)]) (T := rB (fun w0 => eZ cZ n (sn w0)) rs n) (sn := g2) (n := n + 1) (ad := r58) (m2 := n + 1) hx hb hK hP hD hS 1 rfl (w := p4) (j := j) (v := false) (by omega) (by omega) (by omega) dX2_add_136 (fun H locs hP hD hS => ?_)
                      have hP : va_P (dC, dI) vwCl ([(q6, .inl (cI, n + 1, .inl (fun k => nI ((upN g n co) k)))), (b0, .inr (2, [.int (nI n), .int (nI tn), .int (nI sl), .int (bI bg), .ref q6, .ref b2, v3, v4])), (b1, .inl (cI, n, .inl (fun k => nI (ht k)))), (b2, eQ cS n rs), (q58, eQ cS (n + 1) r58)] ++ (rB (fun w0 => eZ cZ n (sn w0)) rs n ++ (rB (fun w0 => eZ cZ (n + 1) ((upN g2 p4 (upN (g2 p4) j false)) w0)) r58 (n + 1)))) H := hP
                      have hD : va_D A ([(q6, .inl (cI, n + 1, .inl (fun k => nI ((upN g n co) k)))), (b0, .inr (2, [.int (nI n), .int (nI tn), .int (nI sl), .int (bI bg), .ref q6, .ref b2, v3, v4])), (b1, .inl (cI, n, .inl (fun k => nI (ht k)))), (b2, eQ cS n rs), (q58, eQ cS (n + 1) r58)] ++ (rB (fun w0 => eZ cZ n (sn w0)) rs n ++ (rB (fun w0 => eZ cZ (n + 1) ((upN g2 p4 (upN (g2 p4) j false)) w0)) r58 (n + 1)))) := hD
                      refine lv_iinc (v := nI (j + 1)) (lv' := [(5, .int (nI (j + 1))), (4, .int (nI p4)), (3, .ref q58), (2, .ref q6), (0, .ref b0), (1, .int (nI co))]) hx hb dX2_add_137 hl (k := 0) rfl (nI_add _ _) (by decide) rfl (fun ls hl => ?_)
                      refine lv_goto (tgt := 78) hx hb dX2_add_140 (by decide) ?_
                      exact ih78 (j + 1) _ (by omega) (by omega) (fun q hq k hk => by rw [upN_n _ _ (by omega)]; exact hg2 q hq k hk) (fun k hk => by rw [upN_s]; rcases Nat.lt_or_ge k j with z | z; (· rw [upN_n _ _ (by omega)]; exact hg3 k z); (· rw [show k = j by omega, upN_s]; exact (by simp [adS, c_97]))) _ _ hP hD hS _ (lv_sub hl [0, 1, 2, 3, 4, 5] rfl)
                    · refine lv_iload hx hb dX2_add_100 (lv_at hl 1 rfl) ?_
                      refine lv_aload_n hx hb dX2_add_102 rfl (lv_at hl 4 rfl) ?_
                      refine va_get (D := (dC, dI)) (ci := 2) (v := .int (nI n)) (C := RX2) (T := TX2) (N := 8) hx hb hts inX2 hown hK hP 1 rfl rfl 0 (by decide) (hts _ q_fl_X2_27) (fun _ h9 => h9) rfl dX2_add_103 ?_
                      refine icN_eq (tgt := 131) hx hb dX2_add_106 (by decide) (by omega) (by omega) (fun c_106 => ?_) (fun c_106 => ?_)
                      · refine lv_iconst (v := nI 1) hx hb dX2_add_131 (by decide) ?_
                        refine lv_goto (tgt := 136) hx hb dX2_add_132 (by decide) ?_
                        refine W_i (y := bI true) rfl ?_
                        refine rz_stL (X := [(q6, .inl (cI, n + 1, .inl (fun k => nI ((upN g n co) k)))), (b0, .inr (2, [.int (nI n), .int (nI tn), .int (nI sl), .int (bI bg), .ref q6, .ref b2, v3, v4])), (b1, .inl (cI, n, .inl (fun k => nI (ht k)))), (b2, eQ cS n rs), (q58, eQ cS (n + 1) r58)]) (T := rB (fun w0 => eZ cZ n (sn w0)) rs n) (sn := g2) (n := n + 1) (ad := r58) (m2 := n + 1) hx hb hK hP hD hS 1 rfl (w := p4) (j := j) (v := true) (by omega) (by omega) (by omega) dX2_add_136 (fun H locs hP hD hS => ?_)
                        have hP : va_P (dC, dI) vwCl ([(q6, .inl (cI, n + 1, .inl (fun k => nI ((upN g n co) k)))), (b0, .inr (2, [.int (nI n), .int (nI tn), .int (nI sl), .int (bI bg), .ref q6, .ref b2, v3, v4])), (b1, .inl (cI, n, .inl (fun k => nI (ht k)))), (b2, eQ cS n rs), (q58, eQ cS (n + 1) r58)] ++ (rB (fun w0 => eZ cZ n (sn w0)) rs n ++ (rB (fun w0 => eZ cZ (n + 1) ((upN g2 p4 (upN (g2 p4) j true)) w0)) r58 (n + 1)))) H := hP
                        have hD : va_D A ([(q6, .inl (cI, n + 1, .inl (fun k => nI ((upN g n co) k)))), (b0, .inr (2, [.int (nI n), .int (nI tn), .int (nI sl), .int (bI bg), .ref q6, .ref b2, v3, v4])), (b1, .inl (cI, n, .inl (fun k => nI (ht k)))), (b2, eQ cS n rs), (q58, eQ cS (n + 1) r58)] ++ (rB (fun w0 => eZ cZ n (sn w0)) rs n ++ (rB (fun w0 => eZ cZ (n + 1) ((upN g2 p4 (upN (g2 p4) j true)) w0)) r58 (n + 1)))) := hD
                        refine lv_iinc (v := nI (j + 1)) (lv' := [(5, .int (nI (j + 1))), (4, .int (nI p4)), (3, .ref q58), (2, .ref q6), (0, .ref b0), (1, .int (nI co))]) hx hb dX2_add_137 hl (k := 0) rfl (nI_add _ _) (by decide) rfl (fun ls hl => ?_)
                        refine lv_goto (tgt := 78) hx hb dX2_add_140 (by decide) ?_
                        exact ih78 (j + 1) _ (by omega) (by omega) (fun q hq k hk => by rw [upN_n _ _ (by omega)]; exact hg2 q hq k hk) (fun k hk => by rw [upN_s]; rcases Nat.lt_or_ge k j with z | z; (· rw [upN_n _ _ (by omega)]; exact hg3 k z); (· rw [show k = j by omega, upN_s]; exact (by simp [adS, c_106]; omega))) _ _ hP hD hS _ (lv_sub hl [0, 1, 2, 3, 4, 5] rfl)
                      · refine lv_iload hx hb dX2_add_109 (lv_at hl 0 rfl) ?_
                        refine lv_aload_n hx hb dX2_add_111 rfl (lv_at hl 4 rfl) ?_
                        refine va_get (D := (dC, dI)) (ci := 2) (v := .int (nI n)) (C := RX2) (T := TX2) (N := 8) hx hb hts inX2 hown hK hP 1 rfl rfl 0 (by decide) (hts _ q_fl_X2_27) (fun _ h9 => h9) rfl dX2_add_112 ?_
                        refine icN_eq (tgt := 131) hx hb dX2_add_115 (by decide) (by omega) (by omega) (fun c_115 => ?_) (fun c_115 => ?_)
                        · refine lv_iconst (v := nI 1) hx hb dX2_add_131 (by decide) ?_
                          refine lv_goto (tgt := 136) hx hb dX2_add_132 (by decide) ?_
                          refine W_i (y := bI true) rfl ?_
                          refine rz_stL (X := [(q6, .inl (cI, n + 1, .inl (fun k => nI ((upN g n co) k)))), (b0, .inr (2, [.int (nI n), .int (nI tn), .int (nI sl), .int (bI bg), .ref q6, .ref b2, v3, v4])), (b1, .inl (cI, n, .inl (fun k => nI (ht k)))), (b2, eQ cS n rs), (q58, eQ cS (n + 1) r58)]) (T := rB (fun w0 => eZ cZ n (sn w0)) rs n) (sn := g2) (n := n + 1) (ad := r58) (m2 := n + 1) hx hb hK hP hD hS 1 rfl (w := p4) (j := j) (v := true) (by omega) (by omega) (by omega) dX2_add_136 (fun H locs hP hD hS => ?_)
                          have hP : va_P (dC, dI) vwCl ([(q6, .inl (cI, n + 1, .inl (fun k => nI ((upN g n co) k)))), (b0, .inr (2, [.int (nI n), .int (nI tn), .int (nI sl), .int (bI bg), .ref q6, .ref b2, v3, v4])), (b1, .inl (cI, n, .inl (fun k => nI (ht k)))), (b2, eQ cS n rs), (q58, eQ cS (n + 1) r58)] ++ (rB (fun w0 => eZ cZ n (sn w0)) rs n ++ (rB (fun w0 => eZ cZ (n + 1) ((upN g2 p4 (upN (g2 p4) j true)) w0)) r58 (n + 1)))) H := hP
                          have hD : va_D A ([(q6, .inl (cI, n + 1, .inl (fun k => nI ((upN g n co) k)))), (b0, .inr (2, [.int (nI n), .int (nI tn), .int (nI sl), .int (bI bg), .ref q6, .ref b2, v3, v4])), (b1, .inl (cI, n, .inl (fun k => nI (ht k)))), (b2, eQ cS n rs), (q58, eQ cS (n + 1) r58)] ++ (rB (fun w0 => eZ cZ n (sn w0)) rs n ++ (rB (fun w0 => eZ cZ (n + 1) ((upN g2 p4 (upN (g2 p4) j true)) w0)) r58 (n + 1)))) := hD
                          refine lv_iinc (v := nI (j + 1)) (lv' := [(5, .int (nI (j + 1))), (4, .int (nI p4)), (3, .ref q58), (2, .ref q6), (0, .ref b0), (1, .int (nI co))]) hx hb dX2_add_137 hl (k := 0) rfl (nI_add _ _) (by decide) rfl (fun ls hl => ?_)
                          refine lv_goto (tgt := 78) hx hb dX2_add_140 (by decide) ?_
                          exact ih78 (j + 1) _ (by omega) (by omega) (fun q hq k hk => by rw [upN_n _ _ (by omega)]; exact hg2 q hq k hk) (fun k hk => by rw [upN_s]; rcases Nat.lt_or_ge k j with z | z; (· rw [upN_n _ _ (by omega)]; exact hg3 k z); (· rw [show k = j by omega, upN_s]; exact (by simp [adS, c_115]; omega))) _ _ hP hD hS _ (lv_sub hl [0, 1, 2, 3, 4, 5] rfl)
                        · refine lv_aload_n hx hb dX2_add_118 rfl (lv_at hl 4 rfl) ?_
                          refine va_get (D := (dC, dI)) (ci := 2) (v := .ref b2) (C := RX2) (T := TX2) (N := 8) hx hb hts inX2 hown hK hP 1 rfl rfl 5 (by decide) (hts _ q_fl_X2_15) (fun _ h9 => h9) rfl dX2_add_119 ?_
                          refine lv_iload hx hb dX2_add_122 (lv_at hl 1 rfl) ?_
                          refine aa_ld hx hb hK hP 3 2 rfl rfl (j := p4) (by omega) (by omega) dX2_add_124 ?_
                          refine lv_iload hx hb dX2_add_125 (lv_at hl 0 rfl) ?_
                          refine za_ld hx hb hK (hP.one (List.mem_append_right _ (List.mem_append_left _ (rB_mem (by omega))))) 0 1 rfl rfl (j := j) (by omega) (by omega) dX2_add_127 ?_
                          refine ifB_eq (tgt := 135) hx hb dX2_add_128 (by decide) (fun c_128 => ?_) (fun c_128 => ?_)
                          · refine lv_iconst (v := nI 0) hx hb dX2_add_135 (by decide) ?_
                            refine W_i (y := bI false) rfl ?_
                            refine rz_stL (X := [(q6, .inl (cI, n + 1, .inl (fun k => nI ((upN g n co) k)))), (b0, .inr (2, [.int (nI n), .int (nI tn), .int (nI sl), .int (bI bg), .ref q6, .ref b2, v3, v4])), (b1, .inl (cI, n, .inl (fun k => nI (ht k)))), (b2, eQ cS n rs), (q58, eQ cS (n + 1) r58)]) (T := rB (fun w0 => eZ cZ n (sn w0)) rs n) (sn := g2) (n := n + 1) (ad := r58) (m2 := n + 1) hx hb hK hP hD hS 1 rfl (w := p4) (j := j) (v := false) (by omega) (by omega) (by omega) dX2_add_136 (fun H locs hP hD hS => ?_)
                            have hP : va_P (dC, dI) vwCl ([(q6, .inl (cI, n + 1, .inl (fun k => nI ((upN g n co) k)))), (b0, .inr (2, [.int (nI n), .int (nI tn), .int (nI sl), .int (bI bg), .ref q6, .ref b2, v3, v4])), (b1, .inl (cI, n, .inl (fun k => nI (ht k)))), (b2, eQ cS n rs), (q58, eQ cS (n + 1) r58)] ++ (rB (fun w0 => eZ cZ n (sn w0)) rs n ++ (rB (fun w0 => eZ cZ (n + 1) ((upN g2 p4 (upN (g2 p4) j false)) w0)) r58 (n + 1)))) H := hP
                            have hD : va_D A ([(q6, .inl (cI, n + 1, .inl (fun k => nI ((upN g n co) k)))), (b0, .inr (2, [.int (nI n), .int (nI tn), .int (nI sl), .int (bI bg), .ref q6, .ref b2, v3, v4])), (b1, .inl (cI, n, .inl (fun k => nI (ht k)))), (b2, eQ cS n rs), (q58, eQ cS (n + 1) r58)] ++ (rB (fun w0 => eZ cZ n (sn w0)) rs n ++ (rB (fun w0 => eZ cZ (n + 1) ((upN g2 p4 (upN (g2 p4) j false)) w0)) r58 (n + 1)))) := hD
                            refine lv_iinc (v := nI (j + 1)) (lv' := [(5, .int (nI (j + 1))), (4, .int (nI p4)), (3, .ref q58), (2, .ref q6), (0, .ref b0), (1, .int (nI co))]) hx hb dX2_add_137 hl (k := 0) rfl (nI_add _ _) (by decide) rfl (fun ls hl => ?_)
                            refine lv_goto (tgt := 78) hx hb dX2_add_140 (by decide) ?_
                            exact ih78 (j + 1) _ (by omega) (by omega) (fun q hq k hk => by rw [upN_n _ _ (by omega)]; exact hg2 q hq k hk) (fun k hk => by rw [upN_s]; rcases Nat.lt_or_ge k j with z | z; (· rw [upN_n _ _ (by omega)]; exact hg3 k z); (· rw [show k = j by omega, upN_s]; exact (by simp [adS, c_97, c_106, c_115, c_128]))) _ _ hP hD hS _ (lv_sub hl [0, 1, 2, 3, 4, 5] rfl)
                          · refine lv_iconst (v := nI 1) hx hb dX2_add_131 (by decide) ?_
                            refine lv_goto (tgt := 136) hx hb dX2_add_132 (by decide) ?_
                            refine W_i (y := bI true) rfl ?_
                            refine rz_stL (X := [(q6, .inl (cI, n + 1, .inl (fun k => nI ((upN g n co) k)))), (b0, .inr (2, [.int (nI n), .int (nI tn), .int (nI sl), .int (bI bg), .ref q6, .ref b2, v3, v4])), (b1, .inl (cI, n, .inl (fun k => nI (ht k)))), (b2, eQ cS n rs), (q58, eQ cS (n + 1) r58)]) (T := rB (fun w0 => eZ cZ n (sn w0)) rs n) (sn := g2) (n := n + 1) (ad := r58) (m2 := n + 1) hx hb hK hP hD hS 1 rfl (w := p4) (j := j) (v := true) (by omega) (by omega) (by omega) dX2_add_136 (fun H locs hP hD hS => ?_)
                            have hP : va_P (dC, dI) vwCl ([(q6, .inl (cI, n + 1, .inl (fun k => nI ((upN g n co) k)))), (b0, .inr (2, [.int (nI n), .int (nI tn), .int (nI sl), .int (bI bg), .ref q6, .ref b2, v3, v4])), (b1, .inl (cI, n, .inl (fun k => nI (ht k)))), (b2, eQ cS n rs), (q58, eQ cS (n + 1) r58)] ++ (rB (fun w0 => eZ cZ n (sn w0)) rs n ++ (rB (fun w0 => eZ cZ (n + 1) ((upN g2 p4 (upN (g2 p4) j true)) w0)) r58 (n + 1)))) H := hP
                            have hD : va_D A ([(q6, .inl (cI, n + 1, .inl (fun k => nI ((upN g n co) k)))), (b0, .inr (2, [.int (nI n), .int (nI tn), .int (nI sl), .int (bI bg), .ref q6, .ref b2, v3, v4])), (b1, .inl (cI, n, .inl (fun k => nI (ht k)))), (b2, eQ cS n rs), (q58, eQ cS (n + 1) r58)] ++ (rB (fun w0 => eZ cZ n (sn w0)) rs n ++ (rB (fun w0 => eZ cZ (n + 1) ((upN g2 p4 (upN (g2 p4) j true)) w0)) r58 (n + 1)))) := hD
                            refine lv_iinc (v := nI (j + 1)) (lv' := [(5, .int (nI (j + 1))), (4, .int (nI p4)), (3, .ref q58), (2, .ref q6), (0, .ref b0), (1, .int (nI co))]) hx hb dX2_add_137 hl (k := 0) rfl (nI_add _ _) (by decide) rfl (fun ls hl => ?_)
                            refine lv_goto (tgt := 78) hx hb dX2_add_140 (by decide) ?_
                            exact ih78 (j + 1) _ (by omega) (by omega) (fun q hq k hk => by rw [upN_n _ _ (by omega)]; exact hg2 q hq k hk) (fun k hk => by rw [upN_s]; rcases Nat.lt_or_ge k j with z | z; (· rw [upN_n _ _ (by omega)]; exact hg3 k z); (· rw [show k = j by omega, upN_s]; exact (by simp [adS, c_97, c_106, c_115, c_128]))) _ _ hP hD hS _ (lv_sub hl [0, 1, 2, 3, 4, 5] rfl)
              exact lp78 (n + 2) 0 g1 (by omega) (by omega) hg1 (fun k hk => absurd hk (by omega)) _ _ hP hD hS _ (lv_sub hl [0, 1, 2, 3, 4, 5] rfl)
        exact lp66 (n + 2) 0 _ (by omega) (by omega) (fun q hq => absurd hq (by omega)) _ _ hP hD hS _ (lv_sub hl [0, 1, 2, 3, 4] rfl)
      · refine lv_aload_n hx hb dX2_add_19 rfl (lv_at hl 1 rfl) ?_
        refine lv_iload_n hx hb dX2_add_20 rfl (lv_at hl 0 rfl) ?_
        refine lv_aload_n hx hb dX2_add_21 rfl (lv_at hl 2 rfl) ?_
        refine va_get (D := (dC, dI)) (ci := 2) (v := .ref b1) (C := RX2) (T := TX2) (N := 8) hx hb hts inX2 hown hK hP 1 rfl rfl 4 (by decide) (hts _ q_fl_X2_7) (fun _ h9 => h9) rfl dX2_add_22 ?_
        refine lv_iload_n hx hb dX2_add_25 rfl (lv_at hl 0 rfl) ?_
        refine ia_ld hx hb hK hP 2 0 rfl rfl (j := i) (by omega) (by omega) dX2_add_26 ?_
        refine ia_st hx hb hK hP hD hS 0 0 rfl rfl (j := i) (v := ht i) (by omega) (by omega) dX2_add_27 (fun H locs hP hD hS => ?_)
        have hP : va_P (dC, dI) vwCl ([(q6, .inl (cI, n + 1, .inl (fun k => nI ((upN g i (ht i)) k)))), (b0, .inr (2, [.int (nI n), .int (nI tn), .int (nI sl), .int (bI bg), .ref b1, .ref b2, v3, v4])), (b1, .inl (cI, n, .inl (fun k => nI (ht k)))), (b2, eQ cS n rs)] ++ (rB (fun w0 => eZ cZ n (sn w0)) rs n)) H := hP
        have hD : va_D A ([(q6, .inl (cI, n + 1, .inl (fun k => nI ((upN g i (ht i)) k)))), (b0, .inr (2, [.int (nI n), .int (nI tn), .int (nI sl), .int (bI bg), .ref b1, .ref b2, v3, v4])), (b1, .inl (cI, n, .inl (fun k => nI (ht k)))), (b2, eQ cS n rs)] ++ (rB (fun w0 => eZ cZ n (sn w0)) rs n)) := hD
        refine lv_iinc (v := nI (i + 1)) (lv' := [(3, .int (nI (i + 1))), (2, .ref q6), (0, .ref b0), (1, .int (nI co))]) hx hb dX2_add_28 hl (k := 0) rfl (nI_add _ _) (by decide) rfl (fun ls hl => ?_)
        refine lv_goto (tgt := 11) hx hb dX2_add_31 (by decide) ?_
        exact ih11 (i + 1) _ (by omega) (by omega) (fun k hk => by rcases Nat.lt_or_ge k i with z | z; (· rw [upN_n _ _ (by omega)]; exact hg k z); (· rw [show k = i by omega, upN_s])) _ _ hP hD hS _ (lv_sub hl [0, 1, 2, 3] rfl)
  exact lp11 (n + 1) 0 _ (by omega) (by omega) (fun k hk => absurd hk (by omega)) _ _ hP hD hS _ (lv_sub hl [0, 1, 2, 3] rfl)

end
