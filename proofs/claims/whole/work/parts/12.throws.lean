section
variable {l : Launch} {dC : Nat → ClassId} {dI : Nat → Nat → Nat} {cI cZ cJ : ClassId}

set_option maxHeartbeats 4000000 in
set_option maxRecDepth 100000 in
theorem mx_X1_requirePlayer (hlt : l.stackTraces = false) (h0 h1 h2 h3 h4 h5 h6 p1 p2 n wn t tc sc : Nat) (uw : Bool) (c1 c2 : Nat) (s ow hf tf : Nat → Nat) (a0 : Int32) (hn : n ≤ 5) (ha0 : ∀ j, j < n → a0 ≠ nI j) : Mx l yX1_requirePlayer ws_X1_requirePlayer 6 90 (dC, dI) (tyL cI cZ cJ) [.ref h0, .int a0] (gW cI h0 h1 h2 h3 h4 h5 h6 p1 p2 n wn t tc sc uw c1 c2 s ow hf tf) "java/lang/IndexOutOfBoundsException" := by
  refine Mx_of (by decide +kernel) (Nat.le_of_ble_eq_true rfl) ?_
  intro pr ev sx mi ag bl me cd ls S hP hK hD hZ hX hl htab hlocks thr
  obtain ⟨hx, hb, hml, hown, hts⟩ := id S
  have hown : sx.vm.findClass RX1 = some mi.cls := hown
  have hS : va_S (wIn (gW cI h0 h1 h2 h3 h4 h5 h6 p1 p2 n wn t tc sc uw c1 c2 s ow hf tf)) sx.heap sx.heap [] := va_S.rf
  have hl : lv_has ls 2 [(0, .ref h0), (1, .int a0)] := hl
  refine lv_iload_n hx hb dX1_requirePlayer_0 rfl (lv_at hl 1 rfl) ?_
  refine lv_if_lt (tgt := 12) hx hb dX1_requirePlayer_1 (by decide) (fun c_1 => ?_) (fun c_1 => ?_)
  · exact x_throw (text := "no such player") S hlt hX hS hP hl.1 q_cl_X1_209 q_in_IndexOutOfBoundsException xgd_IOOB xbd_IOOB xto_IOOB (by decide +kernel) (by decide +kernel) (by decide +kernel) dX1_requirePlayer_12 dX1_requirePlayer_15 dX1_requirePlayer_16 dX1_requirePlayer_18 dX1_requirePlayer_21 htab hlocks (Nat.le_of_ble_eq_true rfl) (Nat.le_of_ble_eq_true rfl) rfl rfl (Nat.le_of_ble_eq_true rfl)
  · refine lv_iload_n hx hb dX1_requirePlayer_4 rfl (lv_at hl 1 rfl) ?_
    refine lv_aload_n hx hb dX1_requirePlayer_5 rfl (lv_at hl 0 rfl) ?_
    refine va_get (D := (dC, dI)) (ci := 1) (v := .int (nI n)) (C := RX1) (T := TX1) (N := 10) hx hb hts inX1 hown hK hP 0 rfl rfl 4 (by decide) (hts _ q_fl_X1_26) (fun _ h9 => h9) rfl dX1_requirePlayer_6 ?_
    refine lv_icmp_lt (tgt := 22) hx hb dX1_requirePlayer_9 (by decide) (fun c_9 => absurd c_9 (rp_n (by omega) ha0 c_1)) (fun c_9 => ?_)
    exact x_throw (text := "no such player") S hlt hX hS hP hl.1 q_cl_X1_209 q_in_IndexOutOfBoundsException xgd_IOOB xbd_IOOB xto_IOOB (by decide +kernel) (by decide +kernel) (by decide +kernel) dX1_requirePlayer_12 dX1_requirePlayer_15 dX1_requirePlayer_16 dX1_requirePlayer_18 dX1_requirePlayer_21 htab hlocks (Nat.le_of_ble_eq_true rfl) (Nat.le_of_ble_eq_true rfl) rfl rfl (Nat.le_of_ble_eq_true rfl)

set_option maxHeartbeats 4000000 in
set_option maxRecDepth 100000 in
theorem mx_X1_requireColour (hlt : l.stackTraces = false) (a0 : Int32) (ha0 : ∀ j, j < 3 → a0 ≠ nI j) : Mx l yX1_requireColour ws_X1_requireColour 6 90 (dC, dI) (tyL cI cZ cJ) [.int a0] ([]) "java/lang/IndexOutOfBoundsException" := by
  refine Mx_of (by decide +kernel) (Nat.le_of_ble_eq_true rfl) ?_
  intro pr ev sx mi ag bl me cd ls S hP hK hD hZ hX hl htab hlocks thr
  obtain ⟨hx, hb, hml, hown, hts⟩ := id S
  have hown : sx.vm.findClass RX1 = some mi.cls := hown
  have hS : va_S (wIn ([])) sx.heap sx.heap [] := va_S.rf
  have hl : lv_has ls 1 [(0, .int a0)] := hl
  refine lv_iload_n hx hb dX1_requireColour_0 rfl (lv_at hl 0 rfl) ?_
  refine lv_if_lt (tgt := 9) hx hb dX1_requireColour_1 (by decide) (fun c_1 => ?_) (fun c_1 => ?_)
  · exact x_throw (text := "no such colour") S hlt hX hS hP hl.1 q_cl_X1_209 q_in_IndexOutOfBoundsException xgd_IOOB xbd_IOOB xto_IOOB (by decide +kernel) (by decide +kernel) (by decide +kernel) dX1_requireColour_9 dX1_requireColour_12 dX1_requireColour_13 dX1_requireColour_15 dX1_requireColour_18 htab hlocks (Nat.le_of_ble_eq_true rfl) (Nat.le_of_ble_eq_true rfl) rfl rfl (Nat.le_of_ble_eq_true rfl)
  · refine lv_iload_n hx hb dX1_requireColour_4 rfl (lv_at hl 0 rfl) ?_
    refine lv_iconst (v := nI 3) hx hb dX1_requireColour_5 (by decide) ?_
    refine lv_icmp_lt (tgt := 19) hx hb dX1_requireColour_6 (by decide) (fun c_6 => absurd c_6 (rp_n (by omega) ha0 c_1)) (fun c_6 => ?_)
    exact x_throw (text := "no such colour") S hlt hX hS hP hl.1 q_cl_X1_209 q_in_IndexOutOfBoundsException xgd_IOOB xbd_IOOB xto_IOOB (by decide +kernel) (by decide +kernel) (by decide +kernel) dX1_requireColour_9 dX1_requireColour_12 dX1_requireColour_13 dX1_requireColour_15 dX1_requireColour_18 htab hlocks (Nat.le_of_ble_eq_true rfl) (Nat.le_of_ble_eq_true rfl) rfl rfl (Nat.le_of_ble_eq_true rfl)

set_option maxHeartbeats 4000000 in
set_option maxRecDepth 100000 in
theorem mx_X1_requireMany (hlt : l.stackTraces = false) (a0 : Int32) (ha0 : ∀ j, j < 6 → a0 ≠ nI j) : Mx l yX1_requireMany ws_X1_requireMany 6 90 (dC, dI) (tyL cI cZ cJ) [.int a0] ([]) "java/lang/IllegalArgumentException" := by
  refine Mx_of (by decide +kernel) (Nat.le_of_ble_eq_true rfl) ?_
  intro pr ev sx mi ag bl me cd ls S hP hK hD hZ hX hl htab hlocks thr
  obtain ⟨hx, hb, hml, hown, hts⟩ := id S
  have hown : sx.vm.findClass RX1 = some mi.cls := hown
  have hS : va_S (wIn ([])) sx.heap sx.heap [] := va_S.rf
  have hl : lv_has ls 1 [(0, .int a0)] := hl
  refine lv_iload_n hx hb dX1_requireMany_0 rfl (lv_at hl 0 rfl) ?_
  refine lv_if_lt (tgt := 9) hx hb dX1_requireMany_1 (by decide) (fun c_1 => ?_) (fun c_1 => ?_)
  · exact x_throw (text := "many is not 0 to 5") S hlt hX hS hP hl.1 q_cl_X1_214 q_in_IllegalArgumentException xgd_IAE xbd_IAE xto_IAE (by decide +kernel) (by decide +kernel) (by decide +kernel) dX1_requireMany_9 dX1_requireMany_12 dX1_requireMany_13 dX1_requireMany_15 dX1_requireMany_18 htab hlocks (Nat.le_of_ble_eq_true rfl) (Nat.le_of_ble_eq_true rfl) rfl rfl (Nat.le_of_ble_eq_true rfl)
  · refine lv_iload_n hx hb dX1_requireMany_4 rfl (lv_at hl 0 rfl) ?_
    refine lv_iconst (v := nI 5) hx hb dX1_requireMany_5 (by decide) ?_
    refine lv_icmp_le (tgt := 19) hx hb dX1_requireMany_6 (by decide) (fun c_6 => absurd c_6 (rm_n (by omega) ha0 c_1)) (fun c_6 => ?_)
    exact x_throw (text := "many is not 0 to 5") S hlt hX hS hP hl.1 q_cl_X1_214 q_in_IllegalArgumentException xgd_IAE xbd_IAE xto_IAE (by decide +kernel) (by decide +kernel) (by decide +kernel) dX1_requireMany_9 dX1_requireMany_12 dX1_requireMany_13 dX1_requireMany_15 dX1_requireMany_18 htab hlocks (Nat.le_of_ble_eq_true rfl) (Nat.le_of_ble_eq_true rfl) rfl rfl (Nat.le_of_ble_eq_true rfl)

set_option maxHeartbeats 4000000 in
set_option maxRecDepth 100000 in
theorem mx_X1_requireSomePlayer (hlt : l.stackTraces = false) (h0 h1 h2 h3 h4 h5 h6 p1 p2 n wn t tc sc : Nat) (uw : Bool) (c1 c2 : Nat) (s ow hf tf : Nat → Nat) (hn : n = 0) : Mx l yX1_requireSomePlayer ws_X1_requireSomePlayer 6 90 (dC, dI) (tyL cI cZ cJ) [.ref h0] (gW cI h0 h1 h2 h3 h4 h5 h6 p1 p2 n wn t tc sc uw c1 c2 s ow hf tf) "java/lang/IllegalStateException" := by
  refine Mx_of (by decide +kernel) (Nat.le_of_ble_eq_true rfl) ?_
  intro pr ev sx mi ag bl me cd ls S hP hK hD hZ hX hl htab hlocks thr
  obtain ⟨hx, hb, hml, hown, hts⟩ := id S
  have hown : sx.vm.findClass RX1 = some mi.cls := hown
  have hS : va_S (wIn (gW cI h0 h1 h2 h3 h4 h5 h6 p1 p2 n wn t tc sc uw c1 c2 s ow hf tf)) sx.heap sx.heap [] := va_S.rf
  have hl : lv_has ls 1 [(0, .ref h0)] := hl
  refine lv_aload_n hx hb dX1_requireSomePlayer_0 rfl (lv_at hl 0 rfl) ?_
  refine va_get (D := (dC, dI)) (ci := 1) (v := .int (nI n)) (C := RX1) (T := TX1) (N := 10) hx hb hts inX1 hown hK hP 0 rfl rfl 4 (by decide) (hts _ q_fl_X1_26) (fun _ h9 => h9) rfl dX1_requireSomePlayer_1 ?_
  refine ifN_gt (tgt := 17) hx hb dX1_requireSomePlayer_4 (by decide) (by omega) (fun c_4 => absurd c_4 (by omega)) (fun c_4 => ?_)
  exact x_throw (text := "there are no players") S hlt hX hS hP hl.1 q_cl_X1_53 q_in_IllegalStateException xgd_ISE xbd_ISE xto_ISE (by decide +kernel) (by decide +kernel) (by decide +kernel) dX1_requireSomePlayer_7 dX1_requireSomePlayer_10 dX1_requireSomePlayer_11 dX1_requireSomePlayer_13 dX1_requireSomePlayer_16 htab hlocks (Nat.le_of_ble_eq_true rfl) (Nat.le_of_ble_eq_true rfl) rfl rfl (Nat.le_of_ble_eq_true rfl)

set_option maxHeartbeats 4000000 in
set_option maxRecDepth 100000 in
theorem mx_X1_requireTwoPlayers_a (hlt : l.stackTraces = false) (h0 h1 h2 h3 h4 h5 h6 p1 p2 n wn t tc sc : Nat) (uw : Bool) (c1 c2 : Nat) (s ow hf tf : Nat → Nat) (a0 a1 : Int32) (hn : n ≤ 5) (ha0 : ∀ j, j < n → a0 ≠ nI j) : Mx l yX1_requireTwoPlayers ws_X1_requireTwoPlayers 7 111 (dC, dI) (tyL cI cZ cJ) [.ref h0, .int a0, .int a1] (gW cI h0 h1 h2 h3 h4 h5 h6 p1 p2 n wn t tc sc uw c1 c2 s ow hf tf) "java/lang/IndexOutOfBoundsException" := by
  refine Mx_of (by decide +kernel) (Nat.le_of_ble_eq_true rfl) ?_
  intro pr ev sx mi ag bl me cd ls S hP hK hD hZ hX hl htab hlocks thr
  obtain ⟨hx, hb, hml, hown, hts⟩ := id S
  have hown : sx.vm.findClass RX1 = some mi.cls := hown
  have hS : va_S (wIn (gW cI h0 h1 h2 h3 h4 h5 h6 p1 p2 n wn t tc sc uw c1 c2 s ow hf tf)) sx.heap sx.heap [] := va_S.rf
  have hl : lv_has ls 3 [(0, .ref h0), (1, .int a0), (2, .int a1)] := hl
  refine lv_aload_n hx hb dX1_requireTwoPlayers_0 rfl (lv_at hl 0 rfl) ?_
  refine lv_iload_n hx hb dX1_requireTwoPlayers_1 rfl (lv_at hl 1 rfl) ?_
  refine x_V (As := [.int a0]) (rest := []) S (mx_X1_requirePlayer hlt h0 h1 h2 h3 h4 h5 h6 p1 p2 n wn t tc sc uw c1 c2 s ow hf tf a0 hn ha0) g_X1_X1_requirePlayer hd_X1_requirePlayer ⟨Nat.le_of_ble_eq_true rfl, Nat.le_of_ble_eq_true rfl⟩ ⟨Nat.le_refl _, Nat.le_refl _⟩ hP hD hK hS hZ hX [0, 1, 2, 3, 4, 5, 6] rfl (by decide) 0 rfl rfl hl.1 rfl (Nat.le_of_ble_eq_true rfl) dX1_requireTwoPlayers_2 (fun ce q9 H locs hP hS h1 h2 h3 => ?_)
  exact thr _ _ _ _ _ _ _ hP hS h1 h2 h3

set_option maxHeartbeats 4000000 in
set_option maxRecDepth 100000 in
theorem mx_X1_requireTwoPlayers_b (hlt : l.stackTraces = false) (h0 h1 h2 h3 h4 h5 h6 p1 p2 n wn t tc sc : Nat) (uw : Bool) (c1 c2 : Nat) (s ow hf tf : Nat → Nat) (k : Nat) (a1 : Int32) (hn : n ≤ 5) (hk : k < n) (ha1 : ∀ j, j < n → a1 ≠ nI j) : Mx l yX1_requireTwoPlayers ws_X1_requireTwoPlayers 7 111 (dC, dI) (tyL cI cZ cJ) [.ref h0, .int (nI k), .int a1] (gW cI h0 h1 h2 h3 h4 h5 h6 p1 p2 n wn t tc sc uw c1 c2 s ow hf tf) "java/lang/IndexOutOfBoundsException" := by
  refine Mx_of (by decide +kernel) (Nat.le_of_ble_eq_true rfl) ?_
  intro pr ev sx mi ag bl me cd ls S hP hK hD hZ hX hl htab hlocks thr
  obtain ⟨hx, hb, hml, hown, hts⟩ := id S
  have hown : sx.vm.findClass RX1 = some mi.cls := hown
  have hS : va_S (wIn (gW cI h0 h1 h2 h3 h4 h5 h6 p1 p2 n wn t tc sc uw c1 c2 s ow hf tf)) sx.heap sx.heap [] := va_S.rf
  have hl : lv_has ls 3 [(0, .ref h0), (1, .int (nI k)), (2, .int a1)] := hl
  refine lv_aload_n hx hb dX1_requireTwoPlayers_0 rfl (lv_at hl 0 rfl) ?_
  refine lv_iload_n hx hb dX1_requireTwoPlayers_1 rfl (lv_at hl 1 rfl) ?_
  refine call_Vv (As := [.int (nI k)]) (wr := []) (rest := []) S (m_X1_requirePlayer h0 h1 h2 h3 h4 h5 h6 p1 p2 n wn t tc sc uw c1 c2 s ow hf tf k (by omega) hn) g_X1_X1_requirePlayer hd_X1_requirePlayer ⟨Nat.le_of_ble_eq_true rfl, Nat.le_of_ble_eq_true rfl⟩ ⟨Nat.zero_le _, Nat.zero_le _⟩ hP hD hK hS hZ [0, 1, 2, 3, 4, 5, 6] [] rfl rfl (by decide) 0 rfl rfl hl.1 rfl (Nat.le_of_ble_eq_true rfl) dX1_requireTwoPlayers_2 (fun u H locs hq hP hD hS => ?_)
  obtain rfl := hq
  have hP : va_P (dC, dI) vwCl (gW cI h0 h1 h2 h3 h4 h5 h6 p1 p2 n wn t tc sc uw c1 c2 s ow hf tf) H := hP
  have hD : va_D (wIn (gW cI h0 h1 h2 h3 h4 h5 h6 p1 p2 n wn t tc sc uw c1 c2 s ow hf tf)) (gW cI h0 h1 h2 h3 h4 h5 h6 p1 p2 n wn t tc sc uw c1 c2 s ow hf tf) := hD
  refine lv_aload_n hx hb dX1_requireTwoPlayers_5 rfl (lv_at hl 0 rfl) ?_
  refine lv_iload_n hx hb dX1_requireTwoPlayers_6 rfl (lv_at hl 2 rfl) ?_
  refine x_V (As := [.int a1]) (rest := []) S (mx_X1_requirePlayer hlt h0 h1 h2 h3 h4 h5 h6 p1 p2 n wn t tc sc uw c1 c2 s ow hf tf a1 hn ha1) g_X1_X1_requirePlayer hd_X1_requirePlayer ⟨Nat.le_of_ble_eq_true rfl, Nat.le_of_ble_eq_true rfl⟩ ⟨Nat.le_refl _, Nat.le_refl _⟩ hP hD hK hS hZ hX [0, 1, 2, 3, 4, 5, 6] rfl (by decide) 0 rfl rfl hl.1 rfl (Nat.le_of_ble_eq_true rfl) dX1_requireTwoPlayers_7 (fun ce q9 H locs hP hS h1 h2 h3 => ?_)
  exact thr _ _ _ _ _ _ _ hP hS h1 h2 h3

set_option maxHeartbeats 4000000 in
set_option maxRecDepth 100000 in
theorem mx_X1_requireTwoPlayers_c (hlt : l.stackTraces = false) (h0 h1 h2 h3 h4 h5 h6 p1 p2 n wn t tc sc : Nat) (uw : Bool) (c1 c2 : Nat) (s ow hf tf : Nat → Nat) (k : Nat) (hn : n ≤ 5) (hk : k < n) : Mx l yX1_requireTwoPlayers ws_X1_requireTwoPlayers 6 90 (dC, dI) (tyL cI cZ cJ) [.ref h0, .int (nI k), .int (nI k)] (gW cI h0 h1 h2 h3 h4 h5 h6 p1 p2 n wn t tc sc uw c1 c2 s ow hf tf) "java/lang/IllegalArgumentException" := by
  refine Mx_of (by decide +kernel) (Nat.le_of_ble_eq_true rfl) ?_
  intro pr ev sx mi ag bl me cd ls S hP hK hD hZ hX hl htab hlocks thr
  obtain ⟨hx, hb, hml, hown, hts⟩ := id S
  have hown : sx.vm.findClass RX1 = some mi.cls := hown
  have hS : va_S (wIn (gW cI h0 h1 h2 h3 h4 h5 h6 p1 p2 n wn t tc sc uw c1 c2 s ow hf tf)) sx.heap sx.heap [] := va_S.rf
  have hl : lv_has ls 3 [(0, .ref h0), (1, .int (nI k)), (2, .int (nI k))] := hl
  refine lv_aload_n hx hb dX1_requireTwoPlayers_0 rfl (lv_at hl 0 rfl) ?_
  refine lv_iload_n hx hb dX1_requireTwoPlayers_1 rfl (lv_at hl 1 rfl) ?_
  refine call_Vv (As := [.int (nI k)]) (wr := []) (rest := []) S (m_X1_requirePlayer h0 h1 h2 h3 h4 h5 h6 p1 p2 n wn t tc sc uw c1 c2 s ow hf tf k (by omega) hn) g_X1_X1_requirePlayer hd_X1_requirePlayer ⟨Nat.le_of_ble_eq_true rfl, Nat.le_of_ble_eq_true rfl⟩ ⟨Nat.zero_le _, Nat.zero_le _⟩ hP hD hK hS hZ [0, 1, 2, 3, 4, 5, 6] [] rfl rfl (by decide) 0 rfl rfl hl.1 rfl (Nat.le_of_ble_eq_true rfl) dX1_requireTwoPlayers_2 (fun u H locs hq hP hD hS => ?_)
  obtain rfl := hq
  have hP : va_P (dC, dI) vwCl (gW cI h0 h1 h2 h3 h4 h5 h6 p1 p2 n wn t tc sc uw c1 c2 s ow hf tf) H := hP
  have hD : va_D (wIn (gW cI h0 h1 h2 h3 h4 h5 h6 p1 p2 n wn t tc sc uw c1 c2 s ow hf tf)) (gW cI h0 h1 h2 h3 h4 h5 h6 p1 p2 n wn t tc sc uw c1 c2 s ow hf tf) := hD
  refine lv_aload_n hx hb dX1_requireTwoPlayers_5 rfl (lv_at hl 0 rfl) ?_
  refine lv_iload_n hx hb dX1_requireTwoPlayers_6 rfl (lv_at hl 2 rfl) ?_
  refine call_Vv (As := [.int (nI k)]) (wr := []) (rest := []) S (m_X1_requirePlayer h0 h1 h2 h3 h4 h5 h6 p1 p2 n wn t tc sc uw c1 c2 s ow hf tf k (by omega) hn) g_X1_X1_requirePlayer hd_X1_requirePlayer ⟨Nat.le_of_ble_eq_true rfl, Nat.le_of_ble_eq_true rfl⟩ ⟨Nat.zero_le _, Nat.zero_le _⟩ hP hD hK hS hZ [0, 1, 2, 3, 4, 5, 6] [] rfl rfl (by decide) 0 rfl rfl hl.1 rfl (Nat.le_of_ble_eq_true rfl) dX1_requireTwoPlayers_7 (fun u H locs hq hP hD hS => ?_)
  obtain rfl := hq
  have hP : va_P (dC, dI) vwCl (gW cI h0 h1 h2 h3 h4 h5 h6 p1 p2 n wn t tc sc uw c1 c2 s ow hf tf) H := hP
  have hD : va_D (wIn (gW cI h0 h1 h2 h3 h4 h5 h6 p1 p2 n wn t tc sc uw c1 c2 s ow hf tf)) (gW cI h0 h1 h2 h3 h4 h5 h6 p1 p2 n wn t tc sc uw c1 c2 s ow hf tf) := hD
  refine lv_iload_n hx hb dX1_requireTwoPlayers_10 rfl (lv_at hl 1 rfl) ?_
  refine lv_iload_n hx hb dX1_requireTwoPlayers_11 rfl (lv_at hl 2 rfl) ?_
  refine icN_ne (tgt := 25) hx hb dX1_requireTwoPlayers_12 (by decide) (by omega) (by omega) (fun c_12 => absurd c_12 (fun q => q rfl)) (fun c_12 => ?_)
  exact x_throw (text := "both players are the same") S hlt hX hS hP hl.1 q_cl_X1_214 q_in_IllegalArgumentException xgd_IAE xbd_IAE xto_IAE (by decide +kernel) (by decide +kernel) (by decide +kernel) dX1_requireTwoPlayers_15 dX1_requireTwoPlayers_18 dX1_requireTwoPlayers_19 dX1_requireTwoPlayers_21 dX1_requireTwoPlayers_24 htab hlocks (Nat.le_of_ble_eq_true rfl) (Nat.le_of_ble_eq_true rfl) rfl rfl (Nat.le_of_ble_eq_true rfl)

set_option maxHeartbeats 4000000 in
set_option maxRecDepth 100000 in
theorem mx_X1_addPlayer_a (hlt : l.stackTraces = false) (h0 h1 h2 h3 h4 h5 h6 n wn t tc sc : Nat) (uw : Bool) (c1 c2 : Nat) (s ow hf tf : Nat → Nat) (a0 : Int32) (ha0 : ∀ j, j < 3 → a0 ≠ nI j) : Mx l yX1_addPlayer ws_X1_addPlayer 7 110 (dC, dI) (tyL cI cZ cJ) [.ref h0, .int a0] (gW cI h0 h1 h2 h3 h4 h5 h6 h1 h2 n wn t tc sc uw c1 c2 s ow hf tf) "java/lang/IndexOutOfBoundsException" := by
  refine Mx_of (by decide +kernel) (Nat.le_of_ble_eq_true rfl) ?_
  intro pr ev sx mi ag bl me cd ls S hP hK hD hZ hX hl htab hlocks thr
  obtain ⟨hx, hb, hml, hown, hts⟩ := id S
  have hown : sx.vm.findClass RX1 = some mi.cls := hown
  have hS : va_S (wIn (gW cI h0 h1 h2 h3 h4 h5 h6 h1 h2 n wn t tc sc uw c1 c2 s ow hf tf)) sx.heap sx.heap [] := va_S.rf
  have hl : lv_has ls 3 [(0, .ref h0), (1, .int a0)] := hl
  refine lv_iload_n hx hb dX1_addPlayer_0 rfl (lv_at hl 1 rfl) ?_
  refine x_S (As := [.int a0]) (rest := []) S (mx_X1_requireColour hlt a0 ha0) g_X1_X1_requireColour hd_X1_requireColour ⟨Nat.le_of_ble_eq_true rfl, Nat.le_of_ble_eq_true rfl⟩ ⟨Nat.le_refl _, Nat.le_refl _⟩ hP hD hK hS hZ hX [] rfl (by decide) hl.1 rfl (Nat.le_of_ble_eq_true rfl) dX1_addPlayer_1 (fun ce q9 H locs hP hS h1 h2 h3 => ?_)
  exact thr _ _ _ _ _ _ _ hP hS h1 h2 h3

set_option maxHeartbeats 4000000 in
set_option maxRecDepth 100000 in
theorem mx_X1_addPlayer_b (hlt : l.stackTraces = false) (h0 h1 h2 h3 h4 h5 h6 n wn t tc sc : Nat) (uw : Bool) (c1 c2 : Nat) (s ow hf tf : Nat → Nat) (co : Nat) (hn : n ≤ 5) (hco : co < 3) (hb0 : n < 5 → uw = true) : Mx l yX1_addPlayer ws_X1_addPlayer 6 90 (dC, dI) (tyL cI cZ cJ) [.ref h0, .int (nI co)] (gW cI h0 h1 h2 h3 h4 h5 h6 h1 h2 n wn t tc sc uw c1 c2 s ow hf tf) "java/lang/IllegalStateException" := by
  refine Mx_of (by decide +kernel) (Nat.le_of_ble_eq_true rfl) ?_
  intro pr ev sx mi ag bl me cd ls S hP hK hD hZ hX hl htab hlocks thr
  obtain ⟨hx, hb, hml, hown, hts⟩ := id S
  have hown : sx.vm.findClass RX1 = some mi.cls := hown
  have hS : va_S (wIn (gW cI h0 h1 h2 h3 h4 h5 h6 h1 h2 n wn t tc sc uw c1 c2 s ow hf tf)) sx.heap sx.heap [] := va_S.rf
  have hl : lv_has ls 3 [(0, .ref h0), (1, .int (nI co))] := hl
  refine lv_iload_n hx hb dX1_addPlayer_0 rfl (lv_at hl 1 rfl) ?_
  refine call_Sv (As := [.int (nI co)]) (wr := [(h0, .inr (1, [.ref h1, .ref h2, .ref h3, .ref h4, .int (nI n), .int (nI wn), .int (nI t), .int (nI tc), .int (nI sc), .int (bI uw)])), (h1, .inr (0, [.ref h5, .int (nI c1)])), (h2, .inr (0, [.ref h6, .int (nI c2)])), (h3, .inl (cI, 5, .inl (fun k => nI (s k)))), (h4, .inl (cI, 1024, .inl (fun k => nI (ow k)))), (h5, .inl (cI, 243, .inl (fun k => nI (hf k)))), (h6, .inl (cI, 243, .inl (fun k => nI (tf k))))]) (rest := []) S (m_X1_requireColour co (by omega)) g_X1_X1_requireColour hd_X1_requireColour ⟨Nat.le_of_ble_eq_true rfl, Nat.le_of_ble_eq_true rfl⟩ ⟨Nat.zero_le _, Nat.zero_le _⟩ hP hD hK hS hZ [] [0, 1, 2, 3, 4, 5, 6] rfl rfl (by decide) hl.1 rfl (Nat.le_of_ble_eq_true rfl) dX1_addPlayer_1 (fun u H locs hq hP hD hS => ?_)
  obtain rfl := hq
  have hP : va_P (dC, dI) vwCl (gW cI h0 h1 h2 h3 h4 h5 h6 h1 h2 n wn t tc sc uw c1 c2 s ow hf tf) H := hP
  have hD : va_D (wIn (gW cI h0 h1 h2 h3 h4 h5 h6 h1 h2 n wn t tc sc uw c1 c2 s ow hf tf)) (gW cI h0 h1 h2 h3 h4 h5 h6 h1 h2 n wn t tc sc uw c1 c2 s ow hf tf) := hD
  refine lv_aload_n hx hb dX1_addPlayer_4 rfl (lv_at hl 0 rfl) ?_
  refine va_get (D := (dC, dI)) (ci := 1) (v := .int (nI n)) (C := RX1) (T := TX1) (N := 10) hx hb hts inX1 hown hK hP 0 rfl rfl 4 (by decide) (hts _ q_fl_X1_26) (fun _ h9 => h9) rfl dX1_addPlayer_5 ?_
  refine lv_iconst (v := nI 5) hx hb dX1_addPlayer_8 (by decide) ?_
  refine icN_ge (tgt := 19) hx hb dX1_addPlayer_9 (by decide) (by omega) (by omega) (fun c_9 => ?_) (fun c_9 => ?_)
  · exact x_throw (text := "no player can be added now") S hlt hX hS hP hl.1 q_cl_X1_53 q_in_IllegalStateException xgd_ISE xbd_ISE xto_ISE (by decide +kernel) (by decide +kernel) (by decide +kernel) dX1_addPlayer_19 dX1_addPlayer_22 dX1_addPlayer_23 dX1_addPlayer_25 dX1_addPlayer_28 htab hlocks (Nat.le_of_ble_eq_true rfl) (Nat.le_of_ble_eq_true rfl) rfl rfl (Nat.le_of_ble_eq_true rfl)
  · refine lv_aload_n hx hb dX1_addPlayer_12 rfl (lv_at hl 0 rfl) ?_
    refine va_get (D := (dC, dI)) (ci := 1) (v := .int (bI uw)) (C := RX1) (T := TX1) (N := 10) hx hb hts inX1 hown hK hP 0 rfl rfl 9 (by decide) (hts _ q_fl_X1_42) (fun _ h9 => h9) rfl dX1_addPlayer_13 ?_
    refine ifB_eq (tgt := 29) hx hb dX1_addPlayer_16 (by decide) (fun c_16 => absurd c_16 (by rw [hb0 c_9]; decide)) (fun c_16 => ?_)
    exact x_throw (text := "no player can be added now") S hlt hX hS hP hl.1 q_cl_X1_53 q_in_IllegalStateException xgd_ISE xbd_ISE xto_ISE (by decide +kernel) (by decide +kernel) (by decide +kernel) dX1_addPlayer_19 dX1_addPlayer_22 dX1_addPlayer_23 dX1_addPlayer_25 dX1_addPlayer_28 htab hlocks (Nat.le_of_ble_eq_true rfl) (Nat.le_of_ble_eq_true rfl) rfl rfl (Nat.le_of_ble_eq_true rfl)

set_option maxHeartbeats 4000000 in
set_option maxRecDepth 100000 in
theorem mx_X1_turnAway_a (hlt : l.stackTraces = false) (h0 h1 h2 h3 h4 h5 h6 n wn t tc sc : Nat) (uw : Bool) (c1 c2 : Nat) (s ow hf tf : Nat → Nat) (a0 a1 : Int32) (hn : n ≤ 5) (ha0 : ∀ j, j < n → a0 ≠ nI j) : Mx l yX1_turnAway ws_X1_turnAway 8 133 (dC, dI) (tyL cI cZ cJ) [.ref h0, .int a0, .int a1] (gW cI h0 h1 h2 h3 h4 h5 h6 h1 h2 n wn t tc sc uw c1 c2 s ow hf tf) "java/lang/IndexOutOfBoundsException" := by
  refine Mx_of (by decide +kernel) (Nat.le_of_ble_eq_true rfl) ?_
  intro pr ev sx mi ag bl me cd ls S hP hK hD hZ hX hl htab hlocks thr
  obtain ⟨hx, hb, hml, hown, hts⟩ := id S
  have hown : sx.vm.findClass RX1 = some mi.cls := hown
  have hS : va_S (wIn (gW cI h0 h1 h2 h3 h4 h5 h6 h1 h2 n wn t tc sc uw c1 c2 s ow hf tf)) sx.heap sx.heap [] := va_S.rf
  have hl : lv_has ls 3 [(0, .ref h0), (1, .int a0), (2, .int a1)] := hl
  refine lv_aload_n hx hb dX1_turnAway_0 rfl (lv_at hl 0 rfl) ?_
  refine lv_iload_n hx hb dX1_turnAway_1 rfl (lv_at hl 1 rfl) ?_
  refine lv_iload_n hx hb dX1_turnAway_2 rfl (lv_at hl 2 rfl) ?_
  refine x_V (As := [.int a0, .int a1]) (rest := []) S (mx_X1_requireTwoPlayers_a hlt h0 h1 h2 h3 h4 h5 h6 h1 h2 n wn t tc sc uw c1 c2 s ow hf tf a0 a1 hn ha0) g_X1_X1_requireTwoPlayers hd_X1_requireTwoPlayers ⟨Nat.le_of_ble_eq_true rfl, Nat.le_of_ble_eq_true rfl⟩ ⟨Nat.le_refl _, Nat.le_refl _⟩ hP hD hK hS hZ hX [0, 1, 2, 3, 4, 5, 6] rfl (by decide) 0 rfl rfl hl.1 rfl (Nat.le_of_ble_eq_true rfl) dX1_turnAway_3 (fun ce q9 H locs hP hS h1 h2 h3 => ?_)
  exact thr _ _ _ _ _ _ _ hP hS h1 h2 h3

set_option maxHeartbeats 4000000 in
set_option maxRecDepth 100000 in
theorem mx_X1_turnAway_b (hlt : l.stackTraces = false) (h0 h1 h2 h3 h4 h5 h6 n wn t tc sc : Nat) (uw : Bool) (c1 c2 : Nat) (s ow hf tf : Nat → Nat) (k : Nat) (a1 : Int32) (hn : n ≤ 5) (hk : k < n) (ha1 : ∀ j, j < n → a1 ≠ nI j) : Mx l yX1_turnAway ws_X1_turnAway 8 133 (dC, dI) (tyL cI cZ cJ) [.ref h0, .int (nI k), .int a1] (gW cI h0 h1 h2 h3 h4 h5 h6 h1 h2 n wn t tc sc uw c1 c2 s ow hf tf) "java/lang/IndexOutOfBoundsException" := by
  refine Mx_of (by decide +kernel) (Nat.le_of_ble_eq_true rfl) ?_
  intro pr ev sx mi ag bl me cd ls S hP hK hD hZ hX hl htab hlocks thr
  obtain ⟨hx, hb, hml, hown, hts⟩ := id S
  have hown : sx.vm.findClass RX1 = some mi.cls := hown
  have hS : va_S (wIn (gW cI h0 h1 h2 h3 h4 h5 h6 h1 h2 n wn t tc sc uw c1 c2 s ow hf tf)) sx.heap sx.heap [] := va_S.rf
  have hl : lv_has ls 3 [(0, .ref h0), (1, .int (nI k)), (2, .int a1)] := hl
  refine lv_aload_n hx hb dX1_turnAway_0 rfl (lv_at hl 0 rfl) ?_
  refine lv_iload_n hx hb dX1_turnAway_1 rfl (lv_at hl 1 rfl) ?_
  refine lv_iload_n hx hb dX1_turnAway_2 rfl (lv_at hl 2 rfl) ?_
  refine x_V (As := [.int (nI k), .int a1]) (rest := []) S (mx_X1_requireTwoPlayers_b hlt h0 h1 h2 h3 h4 h5 h6 h1 h2 n wn t tc sc uw c1 c2 s ow hf tf k a1 hn hk ha1) g_X1_X1_requireTwoPlayers hd_X1_requireTwoPlayers ⟨Nat.le_of_ble_eq_true rfl, Nat.le_of_ble_eq_true rfl⟩ ⟨Nat.le_refl _, Nat.le_refl _⟩ hP hD hK hS hZ hX [0, 1, 2, 3, 4, 5, 6] rfl (by decide) 0 rfl rfl hl.1 rfl (Nat.le_of_ble_eq_true rfl) dX1_turnAway_3 (fun ce q9 H locs hP hS h1 h2 h3 => ?_)
  exact thr _ _ _ _ _ _ _ hP hS h1 h2 h3

set_option maxHeartbeats 4000000 in
set_option maxRecDepth 100000 in
theorem mx_X1_turnAway_c (hlt : l.stackTraces = false) (h0 h1 h2 h3 h4 h5 h6 n wn t tc sc : Nat) (uw : Bool) (c1 c2 : Nat) (s ow hf tf : Nat → Nat) (k : Nat) (hn : n ≤ 5) (hk : k < n) : Mx l yX1_turnAway ws_X1_turnAway 7 112 (dC, dI) (tyL cI cZ cJ) [.ref h0, .int (nI k), .int (nI k)] (gW cI h0 h1 h2 h3 h4 h5 h6 h1 h2 n wn t tc sc uw c1 c2 s ow hf tf) "java/lang/IllegalArgumentException" := by
  refine Mx_of (by decide +kernel) (Nat.le_of_ble_eq_true rfl) ?_
  intro pr ev sx mi ag bl me cd ls S hP hK hD hZ hX hl htab hlocks thr
  obtain ⟨hx, hb, hml, hown, hts⟩ := id S
  have hown : sx.vm.findClass RX1 = some mi.cls := hown
  have hS : va_S (wIn (gW cI h0 h1 h2 h3 h4 h5 h6 h1 h2 n wn t tc sc uw c1 c2 s ow hf tf)) sx.heap sx.heap [] := va_S.rf
  have hl : lv_has ls 3 [(0, .ref h0), (1, .int (nI k)), (2, .int (nI k))] := hl
  refine lv_aload_n hx hb dX1_turnAway_0 rfl (lv_at hl 0 rfl) ?_
  refine lv_iload_n hx hb dX1_turnAway_1 rfl (lv_at hl 1 rfl) ?_
  refine lv_iload_n hx hb dX1_turnAway_2 rfl (lv_at hl 2 rfl) ?_
  refine x_V (As := [.int (nI k), .int (nI k)]) (rest := []) S (mx_X1_requireTwoPlayers_c hlt h0 h1 h2 h3 h4 h5 h6 h1 h2 n wn t tc sc uw c1 c2 s ow hf tf k hn hk) g_X1_X1_requireTwoPlayers hd_X1_requireTwoPlayers ⟨Nat.le_of_ble_eq_true rfl, Nat.le_of_ble_eq_true rfl⟩ ⟨Nat.le_refl _, Nat.le_refl _⟩ hP hD hK hS hZ hX [0, 1, 2, 3, 4, 5, 6] rfl (by decide) 0 rfl rfl hl.1 rfl (Nat.le_of_ble_eq_true rfl) dX1_turnAway_3 (fun ce q9 H locs hP hS h1 h2 h3 => ?_)
  exact thr _ _ _ _ _ _ _ hP hS h1 h2 h3

set_option maxHeartbeats 4000000 in
set_option maxRecDepth 100000 in
theorem mx_X1_borrow_a (hlt : l.stackTraces = false) (h0 h1 h2 h3 h4 h5 h6 n wn t tc sc : Nat) (uw : Bool) (c1 c2 : Nat) (s ow hf tf : Nat → Nat) (a0 a1 : Int32) (hn : n ≤ 5) (ha0 : ∀ j, j < n → a0 ≠ nI j) : Mx l yX1_borrow ws_X1_borrow 8 133 (dC, dI) (tyL cI cZ cJ) [.ref h0, .int a0, .int a1] (gW cI h0 h1 h2 h3 h4 h5 h6 h1 h2 n wn t tc sc uw c1 c2 s ow hf tf) "java/lang/IndexOutOfBoundsException" := by
  refine Mx_of (by decide +kernel) (Nat.le_of_ble_eq_true rfl) ?_
  intro pr ev sx mi ag bl me cd ls S hP hK hD hZ hX hl htab hlocks thr
  obtain ⟨hx, hb, hml, hown, hts⟩ := id S
  have hown : sx.vm.findClass RX1 = some mi.cls := hown
  have hS : va_S (wIn (gW cI h0 h1 h2 h3 h4 h5 h6 h1 h2 n wn t tc sc uw c1 c2 s ow hf tf)) sx.heap sx.heap [] := va_S.rf
  have hl : lv_has ls 4 [(0, .ref h0), (1, .int a0), (2, .int a1)] := hl
  refine lv_aload_n hx hb dX1_borrow_0 rfl (lv_at hl 0 rfl) ?_
  refine lv_iload_n hx hb dX1_borrow_1 rfl (lv_at hl 1 rfl) ?_
  refine lv_iload_n hx hb dX1_borrow_2 rfl (lv_at hl 2 rfl) ?_
  refine x_V (As := [.int a0, .int a1]) (rest := []) S (mx_X1_requireTwoPlayers_a hlt h0 h1 h2 h3 h4 h5 h6 h1 h2 n wn t tc sc uw c1 c2 s ow hf tf a0 a1 hn ha0) g_X1_X1_requireTwoPlayers hd_X1_requireTwoPlayers ⟨Nat.le_of_ble_eq_true rfl, Nat.le_of_ble_eq_true rfl⟩ ⟨Nat.le_refl _, Nat.le_refl _⟩ hP hD hK hS hZ hX [0, 1, 2, 3, 4, 5, 6] rfl (by decide) 0 rfl rfl hl.1 rfl (Nat.le_of_ble_eq_true rfl) dX1_borrow_3 (fun ce q9 H locs hP hS h1 h2 h3 => ?_)
  exact thr _ _ _ _ _ _ _ hP hS h1 h2 h3

set_option maxHeartbeats 4000000 in
set_option maxRecDepth 100000 in
theorem mx_X1_borrow_b (hlt : l.stackTraces = false) (h0 h1 h2 h3 h4 h5 h6 n wn t tc sc : Nat) (uw : Bool) (c1 c2 : Nat) (s ow hf tf : Nat → Nat) (k : Nat) (a1 : Int32) (hn : n ≤ 5) (hk : k < n) (ha1 : ∀ j, j < n → a1 ≠ nI j) : Mx l yX1_borrow ws_X1_borrow 8 133 (dC, dI) (tyL cI cZ cJ) [.ref h0, .int (nI k), .int a1] (gW cI h0 h1 h2 h3 h4 h5 h6 h1 h2 n wn t tc sc uw c1 c2 s ow hf tf) "java/lang/IndexOutOfBoundsException" := by
  refine Mx_of (by decide +kernel) (Nat.le_of_ble_eq_true rfl) ?_
  intro pr ev sx mi ag bl me cd ls S hP hK hD hZ hX hl htab hlocks thr
  obtain ⟨hx, hb, hml, hown, hts⟩ := id S
  have hown : sx.vm.findClass RX1 = some mi.cls := hown
  have hS : va_S (wIn (gW cI h0 h1 h2 h3 h4 h5 h6 h1 h2 n wn t tc sc uw c1 c2 s ow hf tf)) sx.heap sx.heap [] := va_S.rf
  have hl : lv_has ls 4 [(0, .ref h0), (1, .int (nI k)), (2, .int a1)] := hl
  refine lv_aload_n hx hb dX1_borrow_0 rfl (lv_at hl 0 rfl) ?_
  refine lv_iload_n hx hb dX1_borrow_1 rfl (lv_at hl 1 rfl) ?_
  refine lv_iload_n hx hb dX1_borrow_2 rfl (lv_at hl 2 rfl) ?_
  refine x_V (As := [.int (nI k), .int a1]) (rest := []) S (mx_X1_requireTwoPlayers_b hlt h0 h1 h2 h3 h4 h5 h6 h1 h2 n wn t tc sc uw c1 c2 s ow hf tf k a1 hn hk ha1) g_X1_X1_requireTwoPlayers hd_X1_requireTwoPlayers ⟨Nat.le_of_ble_eq_true rfl, Nat.le_of_ble_eq_true rfl⟩ ⟨Nat.le_refl _, Nat.le_refl _⟩ hP hD hK hS hZ hX [0, 1, 2, 3, 4, 5, 6] rfl (by decide) 0 rfl rfl hl.1 rfl (Nat.le_of_ble_eq_true rfl) dX1_borrow_3 (fun ce q9 H locs hP hS h1 h2 h3 => ?_)
  exact thr _ _ _ _ _ _ _ hP hS h1 h2 h3

set_option maxHeartbeats 4000000 in
set_option maxRecDepth 100000 in
theorem mx_X1_borrow_c (hlt : l.stackTraces = false) (h0 h1 h2 h3 h4 h5 h6 n wn t tc sc : Nat) (uw : Bool) (c1 c2 : Nat) (s ow hf tf : Nat → Nat) (k : Nat) (hn : n ≤ 5) (hk : k < n) : Mx l yX1_borrow ws_X1_borrow 7 112 (dC, dI) (tyL cI cZ cJ) [.ref h0, .int (nI k), .int (nI k)] (gW cI h0 h1 h2 h3 h4 h5 h6 h1 h2 n wn t tc sc uw c1 c2 s ow hf tf) "java/lang/IllegalArgumentException" := by
  refine Mx_of (by decide +kernel) (Nat.le_of_ble_eq_true rfl) ?_
  intro pr ev sx mi ag bl me cd ls S hP hK hD hZ hX hl htab hlocks thr
  obtain ⟨hx, hb, hml, hown, hts⟩ := id S
  have hown : sx.vm.findClass RX1 = some mi.cls := hown
  have hS : va_S (wIn (gW cI h0 h1 h2 h3 h4 h5 h6 h1 h2 n wn t tc sc uw c1 c2 s ow hf tf)) sx.heap sx.heap [] := va_S.rf
  have hl : lv_has ls 4 [(0, .ref h0), (1, .int (nI k)), (2, .int (nI k))] := hl
  refine lv_aload_n hx hb dX1_borrow_0 rfl (lv_at hl 0 rfl) ?_
  refine lv_iload_n hx hb dX1_borrow_1 rfl (lv_at hl 1 rfl) ?_
  refine lv_iload_n hx hb dX1_borrow_2 rfl (lv_at hl 2 rfl) ?_
  refine x_V (As := [.int (nI k), .int (nI k)]) (rest := []) S (mx_X1_requireTwoPlayers_c hlt h0 h1 h2 h3 h4 h5 h6 h1 h2 n wn t tc sc uw c1 c2 s ow hf tf k hn hk) g_X1_X1_requireTwoPlayers hd_X1_requireTwoPlayers ⟨Nat.le_of_ble_eq_true rfl, Nat.le_of_ble_eq_true rfl⟩ ⟨Nat.le_refl _, Nat.le_refl _⟩ hP hD hK hS hZ hX [0, 1, 2, 3, 4, 5, 6] rfl (by decide) 0 rfl rfl hl.1 rfl (Nat.le_of_ble_eq_true rfl) dX1_borrow_3 (fun ce q9 H locs hP hS h1 h2 h3 => ?_)
  exact thr _ _ _ _ _ _ _ hP hS h1 h2 h3

set_option maxHeartbeats 4000000 in
set_option maxRecDepth 100000 in
theorem mx_X1_takeTurn_a (hlt : l.stackTraces = false) (h0 h1 h2 h3 h4 h5 h6 n wn t tc sc : Nat) (uw : Bool) (c1 c2 : Nat) (s ow hf tf : Nat → Nat) (hn : n = 0) : Mx l yX1_takeTurn ws_X1_takeTurn 7 110 (dC, dI) (tyL cI cZ cJ) [.ref h0] (gW cI h0 h1 h2 h3 h4 h5 h6 h1 h2 n wn t tc sc uw c1 c2 s ow hf tf) "java/lang/IllegalStateException" := by
  refine Mx_of (by decide +kernel) (Nat.le_of_ble_eq_true rfl) ?_
  intro pr ev sx mi ag bl me cd ls S hP hK hD hZ hX hl htab hlocks thr
  obtain ⟨hx, hb, hml, hown, hts⟩ := id S
  have hown : sx.vm.findClass RX1 = some mi.cls := hown
  have hS : va_S (wIn (gW cI h0 h1 h2 h3 h4 h5 h6 h1 h2 n wn t tc sc uw c1 c2 s ow hf tf)) sx.heap sx.heap [] := va_S.rf
  have hl : lv_has ls 3 [(0, .ref h0)] := hl
  refine lv_aload_n hx hb dX1_takeTurn_0 rfl (lv_at hl 0 rfl) ?_
  refine x_V (As := []) (rest := []) S (mx_X1_requireSomePlayer hlt h0 h1 h2 h3 h4 h5 h6 h1 h2 n wn t tc sc uw c1 c2 s ow hf tf hn) g_X1_X1_requireSomePlayer hd_X1_requireSomePlayer ⟨Nat.le_of_ble_eq_true rfl, Nat.le_of_ble_eq_true rfl⟩ ⟨Nat.le_refl _, Nat.le_refl _⟩ hP hD hK hS hZ hX [0, 1, 2, 3, 4, 5, 6] rfl (by decide) 0 rfl rfl hl.1 rfl (Nat.le_of_ble_eq_true rfl) dX1_takeTurn_1 (fun ce q9 H locs hP hS h1 h2 h3 => ?_)
  exact thr _ _ _ _ _ _ _ hP hS h1 h2 h3

set_option maxHeartbeats 4000000 in
set_option maxRecDepth 100000 in
theorem mx_X1_openAfterTurn_a (hlt : l.stackTraces = false) (h0 h1 h2 h3 h4 h5 h6 n wn t tc sc : Nat) (uw : Bool) (c1 c2 : Nat) (s ow hf tf : Nat → Nat) (hn : n = 0) : Mx l yX1_openAfterTurn ws_X1_openAfterTurn 7 110 (dC, dI) (tyL cI cZ cJ) [.ref h0] (gW cI h0 h1 h2 h3 h4 h5 h6 h1 h2 n wn t tc sc uw c1 c2 s ow hf tf) "java/lang/IllegalStateException" := by
  refine Mx_of (by decide +kernel) (Nat.le_of_ble_eq_true rfl) ?_
  intro pr ev sx mi ag bl me cd ls S hP hK hD hZ hX hl htab hlocks thr
  obtain ⟨hx, hb, hml, hown, hts⟩ := id S
  have hown : sx.vm.findClass RX1 = some mi.cls := hown
  have hS : va_S (wIn (gW cI h0 h1 h2 h3 h4 h5 h6 h1 h2 n wn t tc sc uw c1 c2 s ow hf tf)) sx.heap sx.heap [] := va_S.rf
  have hl : lv_has ls 1 [(0, .ref h0)] := hl
  refine lv_aload_n hx hb dX1_openAfterTurn_0 rfl (lv_at hl 0 rfl) ?_
  refine x_V (As := []) (rest := []) S (mx_X1_requireSomePlayer hlt h0 h1 h2 h3 h4 h5 h6 h1 h2 n wn t tc sc uw c1 c2 s ow hf tf hn) g_X1_X1_requireSomePlayer hd_X1_requireSomePlayer ⟨Nat.le_of_ble_eq_true rfl, Nat.le_of_ble_eq_true rfl⟩ ⟨Nat.le_refl _, Nat.le_refl _⟩ hP hD hK hS hZ hX [0, 1, 2, 3, 4, 5, 6] rfl (by decide) 0 rfl rfl hl.1 rfl (Nat.le_of_ble_eq_true rfl) dX1_openAfterTurn_1 (fun ce q9 H locs hP hS h1 h2 h3 => ?_)
  exact thr _ _ _ _ _ _ _ hP hS h1 h2 h3

set_option maxHeartbeats 4000000 in
set_option maxRecDepth 100000 in
theorem mx_X1_sayBetween_a (hlt : l.stackTraces = false) (h0 h1 h2 h3 h4 h5 h6 n wn t tc sc : Nat) (uw : Bool) (c1 c2 : Nat) (s ow hf tf : Nat → Nat) (co lo hi2 : Nat) (hn : n ≤ 5) (hw : wn < 1024) (hco : co < 3) (hlo : lo < 6) (hhi : hi2 < 6) (hbad : hatsN n wn co < lo ∨ hi2 < hatsN n wn co) : Mx l yX1_sayBetween ws_X1_sayBetween 6 90 (dC, dI) (tyL cI cZ cJ) [.ref h0, .int (nI co), .int (nI lo), .int (nI hi2)] (gW cI h0 h1 h2 h3 h4 h5 h6 h1 h2 n wn t tc sc uw c1 c2 s ow hf tf) "java/lang/IllegalStateException" := by
  refine Mx_of (by decide +kernel) (Nat.le_of_ble_eq_true rfl) ?_
  intro pr ev sx mi ag bl me cd ls S hP hK hD hZ hX hl htab hlocks thr
  obtain ⟨hx, hb, hml, hown, hts⟩ := id S
  have hown : sx.vm.findClass RX1 = some mi.cls := hown
  have hS : va_S (wIn (gW cI h0 h1 h2 h3 h4 h5 h6 h1 h2 n wn t tc sc uw c1 c2 s ow hf tf)) sx.heap sx.heap [] := va_S.rf
  have hl : lv_has ls 5 [(0, .ref h0), (1, .int (nI co)), (2, .int (nI lo)), (3, .int (nI hi2))] := hl
  refine lv_aload_n hx hb dX1_sayBetween_0 rfl (lv_at hl 0 rfl) ?_
  refine lv_aload_n hx hb dX1_sayBetween_1 rfl (lv_at hl 0 rfl) ?_
  refine va_get (D := (dC, dI)) (ci := 1) (v := .int (nI wn)) (C := RX1) (T := TX1) (N := 10) hx hb hts inX1 hown hK hP 0 rfl rfl 5 (by decide) (hts _ q_fl_X1_30) (fun _ h9 => h9) rfl dX1_sayBetween_2 ?_
  refine lv_iload_n hx hb dX1_sayBetween_5 rfl (lv_at hl 1 rfl) ?_
  refine call_Vp (As := [.int (nI wn), .int (nI co)]) (rest := []) S (m_X1_hatsIn h0 h1 h2 h3 h4 h5 h6 h1 h2 n wn t tc sc uw c1 c2 s ow hf tf wn co hn hw (by omega)) g_X1_X1_hatsIn hd_X1_hatsIn ⟨Nat.le_of_ble_eq_true rfl, Nat.le_of_ble_eq_true rfl⟩ ⟨Nat.zero_le _, Nat.zero_le _⟩ hP hD hK hS hZ [0, 1, 2, 3, 4, 5, 6] rfl (by decide) 0 rfl rfl hl.1 rfl (Nat.le_of_ble_eq_true rfl) dX1_sayBetween_6 (fun r H locs hq hP hS => ?_)
  obtain rfl := hq
  refine lv_istore (lv' := [(4, .int (nI (hatsN n wn co))), (0, .ref h0), (1, .int (nI co)), (2, .int (nI lo)), (3, .int (nI hi2))]) hx hb dX1_sayBetween_9 hl (by decide) rfl (fun ls hl => ?_)
  refine lv_iload hx hb dX1_sayBetween_11 (lv_at hl 0 rfl) ?_
  refine lv_iload_n hx hb dX1_sayBetween_13 rfl (lv_at hl 3 rfl) ?_
  refine icN_lt (tgt := 23) hx hb dX1_sayBetween_14 (by decide) (by have := hatsN_le n wn co; omega) (by omega) (fun c_14 => ?_) (fun c_14 => ?_)
  · exact x_throw (text := "what is said is not true") S hlt hX hS hP hl.1 q_cl_X1_53 q_in_IllegalStateException xgd_ISE xbd_ISE xto_ISE (by decide +kernel) (by decide +kernel) (by decide +kernel) dX1_sayBetween_23 dX1_sayBetween_26 dX1_sayBetween_27 dX1_sayBetween_29 dX1_sayBetween_32 htab hlocks (Nat.le_of_ble_eq_true rfl) (Nat.le_of_ble_eq_true rfl) rfl rfl (Nat.le_of_ble_eq_true rfl)
  · refine lv_iload hx hb dX1_sayBetween_17 (lv_at hl 0 rfl) ?_
    refine lv_iload_n hx hb dX1_sayBetween_19 rfl (lv_at hl 4 rfl) ?_
    refine icN_le (tgt := 33) hx hb dX1_sayBetween_20 (by decide) (by have := hatsN_le n wn co; omega) (by omega) (fun c_20 => absurd c_20 (by omega)) (fun c_20 => ?_)
    exact x_throw (text := "what is said is not true") S hlt hX hS hP hl.1 q_cl_X1_53 q_in_IllegalStateException xgd_ISE xbd_ISE xto_ISE (by decide +kernel) (by decide +kernel) (by decide +kernel) dX1_sayBetween_23 dX1_sayBetween_26 dX1_sayBetween_27 dX1_sayBetween_29 dX1_sayBetween_32 htab hlocks (Nat.le_of_ble_eq_true rfl) (Nat.le_of_ble_eq_true rfl) rfl rfl (Nat.le_of_ble_eq_true rfl)

set_option maxHeartbeats 4000000 in
set_option maxRecDepth 100000 in
theorem mx_X1_sayAtLeast_a (hlt : l.stackTraces = false) (h0 h1 h2 h3 h4 h5 h6 n wn t tc sc : Nat) (uw : Bool) (c1 c2 : Nat) (s ow hf tf : Nat → Nat) (a0 a1 : Int32) (ha0 : ∀ j, j < 3 → a0 ≠ nI j) : Mx l yX1_sayAtLeast ws_X1_sayAtLeast 7 110 (dC, dI) (tyL cI cZ cJ) [.ref h0, .int a0, .int a1] (gW cI h0 h1 h2 h3 h4 h5 h6 h1 h2 n wn t tc sc uw c1 c2 s ow hf tf) "java/lang/IndexOutOfBoundsException" := by
  refine Mx_of (by decide +kernel) (Nat.le_of_ble_eq_true rfl) ?_
  intro pr ev sx mi ag bl me cd ls S hP hK hD hZ hX hl htab hlocks thr
  obtain ⟨hx, hb, hml, hown, hts⟩ := id S
  have hown : sx.vm.findClass RX1 = some mi.cls := hown
  have hS : va_S (wIn (gW cI h0 h1 h2 h3 h4 h5 h6 h1 h2 n wn t tc sc uw c1 c2 s ow hf tf)) sx.heap sx.heap [] := va_S.rf
  have hl : lv_has ls 3 [(0, .ref h0), (1, .int a0), (2, .int a1)] := hl
  refine lv_iload_n hx hb dX1_sayAtLeast_0 rfl (lv_at hl 1 rfl) ?_
  refine x_S (As := [.int a0]) (rest := []) S (mx_X1_requireColour hlt a0 ha0) g_X1_X1_requireColour hd_X1_requireColour ⟨Nat.le_of_ble_eq_true rfl, Nat.le_of_ble_eq_true rfl⟩ ⟨Nat.le_refl _, Nat.le_refl _⟩ hP hD hK hS hZ hX [] rfl (by decide) hl.1 rfl (Nat.le_of_ble_eq_true rfl) dX1_sayAtLeast_1 (fun ce q9 H locs hP hS h1 h2 h3 => ?_)
  exact thr _ _ _ _ _ _ _ hP hS h1 h2 h3

set_option maxHeartbeats 4000000 in
set_option maxRecDepth 100000 in
theorem mx_X1_sayAtLeast_b (hlt : l.stackTraces = false) (h0 h1 h2 h3 h4 h5 h6 n wn t tc sc : Nat) (uw : Bool) (c1 c2 : Nat) (s ow hf tf : Nat → Nat) (co : Nat) (a1 : Int32) (hco : co < 3) (ha1 : ∀ j, j < 6 → a1 ≠ nI j) : Mx l yX1_sayAtLeast ws_X1_sayAtLeast 7 110 (dC, dI) (tyL cI cZ cJ) [.ref h0, .int (nI co), .int a1] (gW cI h0 h1 h2 h3 h4 h5 h6 h1 h2 n wn t tc sc uw c1 c2 s ow hf tf) "java/lang/IllegalArgumentException" := by
  refine Mx_of (by decide +kernel) (Nat.le_of_ble_eq_true rfl) ?_
  intro pr ev sx mi ag bl me cd ls S hP hK hD hZ hX hl htab hlocks thr
  obtain ⟨hx, hb, hml, hown, hts⟩ := id S
  have hown : sx.vm.findClass RX1 = some mi.cls := hown
  have hS : va_S (wIn (gW cI h0 h1 h2 h3 h4 h5 h6 h1 h2 n wn t tc sc uw c1 c2 s ow hf tf)) sx.heap sx.heap [] := va_S.rf
  have hl : lv_has ls 3 [(0, .ref h0), (1, .int (nI co)), (2, .int a1)] := hl
  refine lv_iload_n hx hb dX1_sayAtLeast_0 rfl (lv_at hl 1 rfl) ?_
  refine call_Sv (As := [.int (nI co)]) (wr := [(h0, .inr (1, [.ref h1, .ref h2, .ref h3, .ref h4, .int (nI n), .int (nI wn), .int (nI t), .int (nI tc), .int (nI sc), .int (bI uw)])), (h1, .inr (0, [.ref h5, .int (nI c1)])), (h2, .inr (0, [.ref h6, .int (nI c2)])), (h3, .inl (cI, 5, .inl (fun k => nI (s k)))), (h4, .inl (cI, 1024, .inl (fun k => nI (ow k)))), (h5, .inl (cI, 243, .inl (fun k => nI (hf k)))), (h6, .inl (cI, 243, .inl (fun k => nI (tf k))))]) (rest := []) S (m_X1_requireColour co (by omega)) g_X1_X1_requireColour hd_X1_requireColour ⟨Nat.le_of_ble_eq_true rfl, Nat.le_of_ble_eq_true rfl⟩ ⟨Nat.zero_le _, Nat.zero_le _⟩ hP hD hK hS hZ [] [0, 1, 2, 3, 4, 5, 6] rfl rfl (by decide) hl.1 rfl (Nat.le_of_ble_eq_true rfl) dX1_sayAtLeast_1 (fun u H locs hq hP hD hS => ?_)
  obtain rfl := hq
  have hP : va_P (dC, dI) vwCl (gW cI h0 h1 h2 h3 h4 h5 h6 h1 h2 n wn t tc sc uw c1 c2 s ow hf tf) H := hP
  have hD : va_D (wIn (gW cI h0 h1 h2 h3 h4 h5 h6 h1 h2 n wn t tc sc uw c1 c2 s ow hf tf)) (gW cI h0 h1 h2 h3 h4 h5 h6 h1 h2 n wn t tc sc uw c1 c2 s ow hf tf) := hD
  refine lv_iload_n hx hb dX1_sayAtLeast_4 rfl (lv_at hl 2 rfl) ?_
  refine x_S (As := [.int a1]) (rest := []) S (mx_X1_requireMany hlt a1 ha1) g_X1_X1_requireMany hd_X1_requireMany ⟨Nat.le_of_ble_eq_true rfl, Nat.le_of_ble_eq_true rfl⟩ ⟨Nat.le_refl _, Nat.le_refl _⟩ hP hD hK hS hZ hX [] rfl (by decide) hl.1 rfl (Nat.le_of_ble_eq_true rfl) dX1_sayAtLeast_5 (fun ce q9 H locs hP hS h1 h2 h3 => ?_)
  exact thr _ _ _ _ _ _ _ hP hS h1 h2 h3

set_option maxHeartbeats 4000000 in
set_option maxRecDepth 100000 in
theorem mx_X1_sayAtLeast_c (hlt : l.stackTraces = false) (h0 h1 h2 h3 h4 h5 h6 n wn t tc sc : Nat) (uw : Bool) (c1 c2 : Nat) (s ow hf tf : Nat → Nat) (co many : Nat) (hn : n ≤ 5) (hw : wn < 1024) (hco : co < 3) (hm : many < 6) (hbad : hatsN n wn co < many) : Mx l yX1_sayAtLeast ws_X1_sayAtLeast 7 114 (dC, dI) (tyL cI cZ cJ) [.ref h0, .int (nI co), .int (nI many)] (gW cI h0 h1 h2 h3 h4 h5 h6 h1 h2 n wn t tc sc uw c1 c2 s ow hf tf) "java/lang/IllegalStateException" := by
  refine Mx_of (by decide +kernel) (Nat.le_of_ble_eq_true rfl) ?_
  intro pr ev sx mi ag bl me cd ls S hP hK hD hZ hX hl htab hlocks thr
  obtain ⟨hx, hb, hml, hown, hts⟩ := id S
  have hown : sx.vm.findClass RX1 = some mi.cls := hown
  have hS : va_S (wIn (gW cI h0 h1 h2 h3 h4 h5 h6 h1 h2 n wn t tc sc uw c1 c2 s ow hf tf)) sx.heap sx.heap [] := va_S.rf
  have hl : lv_has ls 3 [(0, .ref h0), (1, .int (nI co)), (2, .int (nI many))] := hl
  refine lv_iload_n hx hb dX1_sayAtLeast_0 rfl (lv_at hl 1 rfl) ?_
  refine call_Sv (As := [.int (nI co)]) (wr := [(h0, .inr (1, [.ref h1, .ref h2, .ref h3, .ref h4, .int (nI n), .int (nI wn), .int (nI t), .int (nI tc), .int (nI sc), .int (bI uw)])), (h1, .inr (0, [.ref h5, .int (nI c1)])), (h2, .inr (0, [.ref h6, .int (nI c2)])), (h3, .inl (cI, 5, .inl (fun k => nI (s k)))), (h4, .inl (cI, 1024, .inl (fun k => nI (ow k)))), (h5, .inl (cI, 243, .inl (fun k => nI (hf k)))), (h6, .inl (cI, 243, .inl (fun k => nI (tf k))))]) (rest := []) S (m_X1_requireColour co (by omega)) g_X1_X1_requireColour hd_X1_requireColour ⟨Nat.le_of_ble_eq_true rfl, Nat.le_of_ble_eq_true rfl⟩ ⟨Nat.zero_le _, Nat.zero_le _⟩ hP hD hK hS hZ [] [0, 1, 2, 3, 4, 5, 6] rfl rfl (by decide) hl.1 rfl (Nat.le_of_ble_eq_true rfl) dX1_sayAtLeast_1 (fun u H locs hq hP hD hS => ?_)
  obtain rfl := hq
  have hP : va_P (dC, dI) vwCl (gW cI h0 h1 h2 h3 h4 h5 h6 h1 h2 n wn t tc sc uw c1 c2 s ow hf tf) H := hP
  have hD : va_D (wIn (gW cI h0 h1 h2 h3 h4 h5 h6 h1 h2 n wn t tc sc uw c1 c2 s ow hf tf)) (gW cI h0 h1 h2 h3 h4 h5 h6 h1 h2 n wn t tc sc uw c1 c2 s ow hf tf) := hD
  refine lv_iload_n hx hb dX1_sayAtLeast_4 rfl (lv_at hl 2 rfl) ?_
  refine call_Sv (As := [.int (nI many)]) (wr := [(h0, .inr (1, [.ref h1, .ref h2, .ref h3, .ref h4, .int (nI n), .int (nI wn), .int (nI t), .int (nI tc), .int (nI sc), .int (bI uw)])), (h1, .inr (0, [.ref h5, .int (nI c1)])), (h2, .inr (0, [.ref h6, .int (nI c2)])), (h3, .inl (cI, 5, .inl (fun k => nI (s k)))), (h4, .inl (cI, 1024, .inl (fun k => nI (ow k)))), (h5, .inl (cI, 243, .inl (fun k => nI (hf k)))), (h6, .inl (cI, 243, .inl (fun k => nI (tf k))))]) (rest := []) S (m_X1_requireMany many (by omega)) g_X1_X1_requireMany hd_X1_requireMany ⟨Nat.le_of_ble_eq_true rfl, Nat.le_of_ble_eq_true rfl⟩ ⟨Nat.zero_le _, Nat.zero_le _⟩ hP hD hK hS hZ [] [0, 1, 2, 3, 4, 5, 6] rfl rfl (by decide) hl.1 rfl (Nat.le_of_ble_eq_true rfl) dX1_sayAtLeast_5 (fun u H locs hq hP hD hS => ?_)
  obtain rfl := hq
  have hP : va_P (dC, dI) vwCl (gW cI h0 h1 h2 h3 h4 h5 h6 h1 h2 n wn t tc sc uw c1 c2 s ow hf tf) H := hP
  have hD : va_D (wIn (gW cI h0 h1 h2 h3 h4 h5 h6 h1 h2 n wn t tc sc uw c1 c2 s ow hf tf)) (gW cI h0 h1 h2 h3 h4 h5 h6 h1 h2 n wn t tc sc uw c1 c2 s ow hf tf) := hD
  refine lv_aload_n hx hb dX1_sayAtLeast_8 rfl (lv_at hl 0 rfl) ?_
  refine lv_iload_n hx hb dX1_sayAtLeast_9 rfl (lv_at hl 1 rfl) ?_
  refine lv_iload_n hx hb dX1_sayAtLeast_10 rfl (lv_at hl 2 rfl) ?_
  refine lv_iconst (v := nI 5) hx hb dX1_sayAtLeast_11 (by decide) ?_
  refine x_V (As := [.int (nI co), .int (nI many), .int (nI 5)]) (rest := []) S (mx_X1_sayBetween_a hlt h0 h1 h2 h3 h4 h5 h6 n wn t tc sc uw c1 c2 s ow hf tf co many 5 hn hw hco (by omega) (by omega) (Or.inl hbad)) g_X1_X1_sayBetween hd_X1_sayBetween ⟨Nat.le_of_ble_eq_true rfl, Nat.le_of_ble_eq_true rfl⟩ ⟨Nat.le_refl _, Nat.le_refl _⟩ hP hD hK hS hZ hX [0, 1, 2, 3, 4, 5, 6] rfl (by decide) 0 rfl rfl hl.1 rfl (Nat.le_of_ble_eq_true rfl) dX1_sayAtLeast_12 (fun ce q9 H locs hP hS h1 h2 h3 => ?_)
  exact thr _ _ _ _ _ _ _ hP hS h1 h2 h3

set_option maxHeartbeats 4000000 in
set_option maxRecDepth 100000 in
theorem mx_X1_sayAtMost_a (hlt : l.stackTraces = false) (h0 h1 h2 h3 h4 h5 h6 n wn t tc sc : Nat) (uw : Bool) (c1 c2 : Nat) (s ow hf tf : Nat → Nat) (a0 a1 : Int32) (ha0 : ∀ j, j < 3 → a0 ≠ nI j) : Mx l yX1_sayAtMost ws_X1_sayAtMost 7 110 (dC, dI) (tyL cI cZ cJ) [.ref h0, .int a0, .int a1] (gW cI h0 h1 h2 h3 h4 h5 h6 h1 h2 n wn t tc sc uw c1 c2 s ow hf tf) "java/lang/IndexOutOfBoundsException" := by
  refine Mx_of (by decide +kernel) (Nat.le_of_ble_eq_true rfl) ?_
  intro pr ev sx mi ag bl me cd ls S hP hK hD hZ hX hl htab hlocks thr
  obtain ⟨hx, hb, hml, hown, hts⟩ := id S
  have hown : sx.vm.findClass RX1 = some mi.cls := hown
  have hS : va_S (wIn (gW cI h0 h1 h2 h3 h4 h5 h6 h1 h2 n wn t tc sc uw c1 c2 s ow hf tf)) sx.heap sx.heap [] := va_S.rf
  have hl : lv_has ls 3 [(0, .ref h0), (1, .int a0), (2, .int a1)] := hl
  refine lv_iload_n hx hb dX1_sayAtMost_0 rfl (lv_at hl 1 rfl) ?_
  refine x_S (As := [.int a0]) (rest := []) S (mx_X1_requireColour hlt a0 ha0) g_X1_X1_requireColour hd_X1_requireColour ⟨Nat.le_of_ble_eq_true rfl, Nat.le_of_ble_eq_true rfl⟩ ⟨Nat.le_refl _, Nat.le_refl _⟩ hP hD hK hS hZ hX [] rfl (by decide) hl.1 rfl (Nat.le_of_ble_eq_true rfl) dX1_sayAtMost_1 (fun ce q9 H locs hP hS h1 h2 h3 => ?_)
  exact thr _ _ _ _ _ _ _ hP hS h1 h2 h3

set_option maxHeartbeats 4000000 in
set_option maxRecDepth 100000 in
theorem mx_X1_sayAtMost_b (hlt : l.stackTraces = false) (h0 h1 h2 h3 h4 h5 h6 n wn t tc sc : Nat) (uw : Bool) (c1 c2 : Nat) (s ow hf tf : Nat → Nat) (co : Nat) (a1 : Int32) (hco : co < 3) (ha1 : ∀ j, j < 6 → a1 ≠ nI j) : Mx l yX1_sayAtMost ws_X1_sayAtMost 7 110 (dC, dI) (tyL cI cZ cJ) [.ref h0, .int (nI co), .int a1] (gW cI h0 h1 h2 h3 h4 h5 h6 h1 h2 n wn t tc sc uw c1 c2 s ow hf tf) "java/lang/IllegalArgumentException" := by
  refine Mx_of (by decide +kernel) (Nat.le_of_ble_eq_true rfl) ?_
  intro pr ev sx mi ag bl me cd ls S hP hK hD hZ hX hl htab hlocks thr
  obtain ⟨hx, hb, hml, hown, hts⟩ := id S
  have hown : sx.vm.findClass RX1 = some mi.cls := hown
  have hS : va_S (wIn (gW cI h0 h1 h2 h3 h4 h5 h6 h1 h2 n wn t tc sc uw c1 c2 s ow hf tf)) sx.heap sx.heap [] := va_S.rf
  have hl : lv_has ls 3 [(0, .ref h0), (1, .int (nI co)), (2, .int a1)] := hl
  refine lv_iload_n hx hb dX1_sayAtMost_0 rfl (lv_at hl 1 rfl) ?_
  refine call_Sv (As := [.int (nI co)]) (wr := [(h0, .inr (1, [.ref h1, .ref h2, .ref h3, .ref h4, .int (nI n), .int (nI wn), .int (nI t), .int (nI tc), .int (nI sc), .int (bI uw)])), (h1, .inr (0, [.ref h5, .int (nI c1)])), (h2, .inr (0, [.ref h6, .int (nI c2)])), (h3, .inl (cI, 5, .inl (fun k => nI (s k)))), (h4, .inl (cI, 1024, .inl (fun k => nI (ow k)))), (h5, .inl (cI, 243, .inl (fun k => nI (hf k)))), (h6, .inl (cI, 243, .inl (fun k => nI (tf k))))]) (rest := []) S (m_X1_requireColour co (by omega)) g_X1_X1_requireColour hd_X1_requireColour ⟨Nat.le_of_ble_eq_true rfl, Nat.le_of_ble_eq_true rfl⟩ ⟨Nat.zero_le _, Nat.zero_le _⟩ hP hD hK hS hZ [] [0, 1, 2, 3, 4, 5, 6] rfl rfl (by decide) hl.1 rfl (Nat.le_of_ble_eq_true rfl) dX1_sayAtMost_1 (fun u H locs hq hP hD hS => ?_)
  obtain rfl := hq
  have hP : va_P (dC, dI) vwCl (gW cI h0 h1 h2 h3 h4 h5 h6 h1 h2 n wn t tc sc uw c1 c2 s ow hf tf) H := hP
  have hD : va_D (wIn (gW cI h0 h1 h2 h3 h4 h5 h6 h1 h2 n wn t tc sc uw c1 c2 s ow hf tf)) (gW cI h0 h1 h2 h3 h4 h5 h6 h1 h2 n wn t tc sc uw c1 c2 s ow hf tf) := hD
  refine lv_iload_n hx hb dX1_sayAtMost_4 rfl (lv_at hl 2 rfl) ?_
  refine x_S (As := [.int a1]) (rest := []) S (mx_X1_requireMany hlt a1 ha1) g_X1_X1_requireMany hd_X1_requireMany ⟨Nat.le_of_ble_eq_true rfl, Nat.le_of_ble_eq_true rfl⟩ ⟨Nat.le_refl _, Nat.le_refl _⟩ hP hD hK hS hZ hX [] rfl (by decide) hl.1 rfl (Nat.le_of_ble_eq_true rfl) dX1_sayAtMost_5 (fun ce q9 H locs hP hS h1 h2 h3 => ?_)
  exact thr _ _ _ _ _ _ _ hP hS h1 h2 h3

set_option maxHeartbeats 4000000 in
set_option maxRecDepth 100000 in
theorem mx_X1_sayAtMost_c (hlt : l.stackTraces = false) (h0 h1 h2 h3 h4 h5 h6 n wn t tc sc : Nat) (uw : Bool) (c1 c2 : Nat) (s ow hf tf : Nat → Nat) (co many : Nat) (hn : n ≤ 5) (hw : wn < 1024) (hco : co < 3) (hm : many < 6) (hbad : many < hatsN n wn co) : Mx l yX1_sayAtMost ws_X1_sayAtMost 7 114 (dC, dI) (tyL cI cZ cJ) [.ref h0, .int (nI co), .int (nI many)] (gW cI h0 h1 h2 h3 h4 h5 h6 h1 h2 n wn t tc sc uw c1 c2 s ow hf tf) "java/lang/IllegalStateException" := by
  refine Mx_of (by decide +kernel) (Nat.le_of_ble_eq_true rfl) ?_
  intro pr ev sx mi ag bl me cd ls S hP hK hD hZ hX hl htab hlocks thr
  obtain ⟨hx, hb, hml, hown, hts⟩ := id S
  have hown : sx.vm.findClass RX1 = some mi.cls := hown
  have hS : va_S (wIn (gW cI h0 h1 h2 h3 h4 h5 h6 h1 h2 n wn t tc sc uw c1 c2 s ow hf tf)) sx.heap sx.heap [] := va_S.rf
  have hl : lv_has ls 3 [(0, .ref h0), (1, .int (nI co)), (2, .int (nI many))] := hl
  refine lv_iload_n hx hb dX1_sayAtMost_0 rfl (lv_at hl 1 rfl) ?_
  refine call_Sv (As := [.int (nI co)]) (wr := [(h0, .inr (1, [.ref h1, .ref h2, .ref h3, .ref h4, .int (nI n), .int (nI wn), .int (nI t), .int (nI tc), .int (nI sc), .int (bI uw)])), (h1, .inr (0, [.ref h5, .int (nI c1)])), (h2, .inr (0, [.ref h6, .int (nI c2)])), (h3, .inl (cI, 5, .inl (fun k => nI (s k)))), (h4, .inl (cI, 1024, .inl (fun k => nI (ow k)))), (h5, .inl (cI, 243, .inl (fun k => nI (hf k)))), (h6, .inl (cI, 243, .inl (fun k => nI (tf k))))]) (rest := []) S (m_X1_requireColour co (by omega)) g_X1_X1_requireColour hd_X1_requireColour ⟨Nat.le_of_ble_eq_true rfl, Nat.le_of_ble_eq_true rfl⟩ ⟨Nat.zero_le _, Nat.zero_le _⟩ hP hD hK hS hZ [] [0, 1, 2, 3, 4, 5, 6] rfl rfl (by decide) hl.1 rfl (Nat.le_of_ble_eq_true rfl) dX1_sayAtMost_1 (fun u H locs hq hP hD hS => ?_)
  obtain rfl := hq
  have hP : va_P (dC, dI) vwCl (gW cI h0 h1 h2 h3 h4 h5 h6 h1 h2 n wn t tc sc uw c1 c2 s ow hf tf) H := hP
  have hD : va_D (wIn (gW cI h0 h1 h2 h3 h4 h5 h6 h1 h2 n wn t tc sc uw c1 c2 s ow hf tf)) (gW cI h0 h1 h2 h3 h4 h5 h6 h1 h2 n wn t tc sc uw c1 c2 s ow hf tf) := hD
  refine lv_iload_n hx hb dX1_sayAtMost_4 rfl (lv_at hl 2 rfl) ?_
  refine call_Sv (As := [.int (nI many)]) (wr := [(h0, .inr (1, [.ref h1, .ref h2, .ref h3, .ref h4, .int (nI n), .int (nI wn), .int (nI t), .int (nI tc), .int (nI sc), .int (bI uw)])), (h1, .inr (0, [.ref h5, .int (nI c1)])), (h2, .inr (0, [.ref h6, .int (nI c2)])), (h3, .inl (cI, 5, .inl (fun k => nI (s k)))), (h4, .inl (cI, 1024, .inl (fun k => nI (ow k)))), (h5, .inl (cI, 243, .inl (fun k => nI (hf k)))), (h6, .inl (cI, 243, .inl (fun k => nI (tf k))))]) (rest := []) S (m_X1_requireMany many (by omega)) g_X1_X1_requireMany hd_X1_requireMany ⟨Nat.le_of_ble_eq_true rfl, Nat.le_of_ble_eq_true rfl⟩ ⟨Nat.zero_le _, Nat.zero_le _⟩ hP hD hK hS hZ [] [0, 1, 2, 3, 4, 5, 6] rfl rfl (by decide) hl.1 rfl (Nat.le_of_ble_eq_true rfl) dX1_sayAtMost_5 (fun u H locs hq hP hD hS => ?_)
  obtain rfl := hq
  have hP : va_P (dC, dI) vwCl (gW cI h0 h1 h2 h3 h4 h5 h6 h1 h2 n wn t tc sc uw c1 c2 s ow hf tf) H := hP
  have hD : va_D (wIn (gW cI h0 h1 h2 h3 h4 h5 h6 h1 h2 n wn t tc sc uw c1 c2 s ow hf tf)) (gW cI h0 h1 h2 h3 h4 h5 h6 h1 h2 n wn t tc sc uw c1 c2 s ow hf tf) := hD
  refine lv_aload_n hx hb dX1_sayAtMost_8 rfl (lv_at hl 0 rfl) ?_
  refine lv_iload_n hx hb dX1_sayAtMost_9 rfl (lv_at hl 1 rfl) ?_
  refine lv_iconst (v := nI 0) hx hb dX1_sayAtMost_10 (by decide) ?_
  refine lv_iload_n hx hb dX1_sayAtMost_11 rfl (lv_at hl 2 rfl) ?_
  refine x_V (As := [.int (nI co), .int (nI 0), .int (nI many)]) (rest := []) S (mx_X1_sayBetween_a hlt h0 h1 h2 h3 h4 h5 h6 n wn t tc sc uw c1 c2 s ow hf tf co 0 many hn hw hco (by omega) (by omega) (Or.inr hbad)) g_X1_X1_sayBetween hd_X1_sayBetween ⟨Nat.le_of_ble_eq_true rfl, Nat.le_of_ble_eq_true rfl⟩ ⟨Nat.le_refl _, Nat.le_refl _⟩ hP hD hK hS hZ hX [0, 1, 2, 3, 4, 5, 6] rfl (by decide) 0 rfl rfl hl.1 rfl (Nat.le_of_ble_eq_true rfl) dX1_sayAtMost_12 (fun ce q9 H locs hP hS h1 h2 h3 => ?_)
  exact thr _ _ _ _ _ _ _ hP hS h1 h2 h3

set_option maxHeartbeats 4000000 in
set_option maxRecDepth 100000 in
theorem mx_X1_hatOf_a (hlt : l.stackTraces = false) (h0 h1 h2 h3 h4 h5 h6 n wn t tc sc : Nat) (uw : Bool) (c1 c2 : Nat) (s ow hf tf : Nat → Nat) (a0 : Int32) (hn : n ≤ 5) (ha0 : ∀ j, j < n → a0 ≠ nI j) : Mx l yX1_hatOf ws_X1_hatOf 7 111 (dC, dI) (tyL cI cZ cJ) [.ref h0, .int a0] (gW cI h0 h1 h2 h3 h4 h5 h6 h1 h2 n wn t tc sc uw c1 c2 s ow hf tf) "java/lang/IndexOutOfBoundsException" := by
  refine Mx_of (by decide +kernel) (Nat.le_of_ble_eq_true rfl) ?_
  intro pr ev sx mi ag bl me cd ls S hP hK hD hZ hX hl htab hlocks thr
  obtain ⟨hx, hb, hml, hown, hts⟩ := id S
  have hown : sx.vm.findClass RX1 = some mi.cls := hown
  have hS : va_S (wIn (gW cI h0 h1 h2 h3 h4 h5 h6 h1 h2 n wn t tc sc uw c1 c2 s ow hf tf)) sx.heap sx.heap [] := va_S.rf
  have hl : lv_has ls 2 [(0, .ref h0), (1, .int a0)] := hl
  refine lv_aload_n hx hb dX1_hatOf_0 rfl (lv_at hl 0 rfl) ?_
  refine lv_iload_n hx hb dX1_hatOf_1 rfl (lv_at hl 1 rfl) ?_
  refine x_V (As := [.int a0]) (rest := []) S (mx_X1_requirePlayer hlt h0 h1 h2 h3 h4 h5 h6 h1 h2 n wn t tc sc uw c1 c2 s ow hf tf a0 hn ha0) g_X1_X1_requirePlayer hd_X1_requirePlayer ⟨Nat.le_of_ble_eq_true rfl, Nat.le_of_ble_eq_true rfl⟩ ⟨Nat.le_refl _, Nat.le_refl _⟩ hP hD hK hS hZ hX [0, 1, 2, 3, 4, 5, 6] rfl (by decide) 0 rfl rfl hl.1 rfl (Nat.le_of_ble_eq_true rfl) dX1_hatOf_2 (fun ce q9 H locs hP hS h1 h2 h3 => ?_)
  exact thr _ _ _ _ _ _ _ hP hS h1 h2 h3

set_option maxHeartbeats 4000000 in
set_option maxRecDepth 100000 in
theorem mx_X1_isKnownToAll_a (hlt : l.stackTraces = false) (h0 h1 h2 h3 h4 h5 h6 n wn t tc sc : Nat) (uw : Bool) (c1 c2 : Nat) (s ow hf tf : Nat → Nat) (a0 : Int32) (hn : n ≤ 5) (ha0 : ∀ j, j < n → a0 ≠ nI j) : Mx l yX1_isKnownToAll ws_X1_isKnownToAll 7 111 (dC, dI) (tyL cI cZ cJ) [.ref h0, .int a0] (gW cI h0 h1 h2 h3 h4 h5 h6 h1 h2 n wn t tc sc uw c1 c2 s ow hf tf) "java/lang/IndexOutOfBoundsException" := by
  refine Mx_of (by decide +kernel) (Nat.le_of_ble_eq_true rfl) ?_
  intro pr ev sx mi ag bl me cd ls S hP hK hD hZ hX hl htab hlocks thr
  obtain ⟨hx, hb, hml, hown, hts⟩ := id S
  have hown : sx.vm.findClass RX1 = some mi.cls := hown
  have hS : va_S (wIn (gW cI h0 h1 h2 h3 h4 h5 h6 h1 h2 n wn t tc sc uw c1 c2 s ow hf tf)) sx.heap sx.heap [] := va_S.rf
  have hl : lv_has ls 2 [(0, .ref h0), (1, .int a0)] := hl
  refine lv_aload_n hx hb dX1_isKnownToAll_0 rfl (lv_at hl 0 rfl) ?_
  refine lv_iload_n hx hb dX1_isKnownToAll_1 rfl (lv_at hl 1 rfl) ?_
  refine x_V (As := [.int a0]) (rest := []) S (mx_X1_requirePlayer hlt h0 h1 h2 h3 h4 h5 h6 h1 h2 n wn t tc sc uw c1 c2 s ow hf tf a0 hn ha0) g_X1_X1_requirePlayer hd_X1_requirePlayer ⟨Nat.le_of_ble_eq_true rfl, Nat.le_of_ble_eq_true rfl⟩ ⟨Nat.le_refl _, Nat.le_refl _⟩ hP hD hK hS hZ hX [0, 1, 2, 3, 4, 5, 6] rfl (by decide) 0 rfl rfl hl.1 rfl (Nat.le_of_ble_eq_true rfl) dX1_isKnownToAll_2 (fun ce q9 H locs hP hS h1 h2 h3 => ?_)
  exact thr _ _ _ _ _ _ _ hP hS h1 h2 h3

set_option maxHeartbeats 4000000 in
set_option maxRecDepth 100000 in
theorem mx_X1_possibleWays_a (hlt : l.stackTraces = false) (h0 h1 h2 h3 h4 h5 h6 n wn t tc sc : Nat) (uw : Bool) (c1 c2 : Nat) (s ow hf tf : Nat → Nat) (a0 : Int32) (hn : n ≤ 5) (ha0 : ∀ j, j < n → a0 ≠ nI j) : Mx l yX1_possibleWays ws_X1_possibleWays 7 111 (dC, dI) (tyL cI cZ cJ) [.ref h0, .int a0] (gW cI h0 h1 h2 h3 h4 h5 h6 h1 h2 n wn t tc sc uw c1 c2 s ow hf tf) "java/lang/IndexOutOfBoundsException" := by
  refine Mx_of (by decide +kernel) (Nat.le_of_ble_eq_true rfl) ?_
  intro pr ev sx mi ag bl me cd ls S hP hK hD hZ hX hl htab hlocks thr
  obtain ⟨hx, hb, hml, hown, hts⟩ := id S
  have hown : sx.vm.findClass RX1 = some mi.cls := hown
  have hS : va_S (wIn (gW cI h0 h1 h2 h3 h4 h5 h6 h1 h2 n wn t tc sc uw c1 c2 s ow hf tf)) sx.heap sx.heap [] := va_S.rf
  have hl : lv_has ls 2 [(0, .ref h0), (1, .int a0)] := hl
  refine lv_aload_n hx hb dX1_possibleWays_0 rfl (lv_at hl 0 rfl) ?_
  refine lv_iload_n hx hb dX1_possibleWays_1 rfl (lv_at hl 1 rfl) ?_
  refine x_V (As := [.int a0]) (rest := []) S (mx_X1_requirePlayer hlt h0 h1 h2 h3 h4 h5 h6 h1 h2 n wn t tc sc uw c1 c2 s ow hf tf a0 hn ha0) g_X1_X1_requirePlayer hd_X1_requirePlayer ⟨Nat.le_of_ble_eq_true rfl, Nat.le_of_ble_eq_true rfl⟩ ⟨Nat.le_refl _, Nat.le_refl _⟩ hP hD hK hS hZ hX [0, 1, 2, 3, 4, 5, 6] rfl (by decide) 0 rfl rfl hl.1 rfl (Nat.le_of_ble_eq_true rfl) dX1_possibleWays_2 (fun ce q9 H locs hP hS h1 h2 h3 => ?_)
  exact thr _ _ _ _ _ _ _ hP hS h1 h2 h3

set_option maxHeartbeats 4000000 in
set_option maxRecDepth 100000 in
theorem mx_X1_isCertain_a (hlt : l.stackTraces = false) (h0 h1 h2 h3 h4 h5 h6 n wn t tc sc : Nat) (uw : Bool) (c1 c2 : Nat) (s ow hf tf : Nat → Nat) (a0 : Int32) (hn : n ≤ 5) (ha0 : ∀ j, j < n → a0 ≠ nI j) : Mx l yX1_isCertain ws_X1_isCertain 7 111 (dC, dI) (tyL cI cZ cJ) [.ref h0, .int a0] (gW cI h0 h1 h2 h3 h4 h5 h6 h1 h2 n wn t tc sc uw c1 c2 s ow hf tf) "java/lang/IndexOutOfBoundsException" := by
  refine Mx_of (by decide +kernel) (Nat.le_of_ble_eq_true rfl) ?_
  intro pr ev sx mi ag bl me cd ls S hP hK hD hZ hX hl htab hlocks thr
  obtain ⟨hx, hb, hml, hown, hts⟩ := id S
  have hown : sx.vm.findClass RX1 = some mi.cls := hown
  have hS : va_S (wIn (gW cI h0 h1 h2 h3 h4 h5 h6 h1 h2 n wn t tc sc uw c1 c2 s ow hf tf)) sx.heap sx.heap [] := va_S.rf
  have hl : lv_has ls 2 [(0, .ref h0), (1, .int a0)] := hl
  refine lv_aload_n hx hb dX1_isCertain_0 rfl (lv_at hl 0 rfl) ?_
  refine lv_iload_n hx hb dX1_isCertain_1 rfl (lv_at hl 1 rfl) ?_
  refine x_V (As := [.int a0]) (rest := []) S (mx_X1_requirePlayer hlt h0 h1 h2 h3 h4 h5 h6 h1 h2 n wn t tc sc uw c1 c2 s ow hf tf a0 hn ha0) g_X1_X1_requirePlayer hd_X1_requirePlayer ⟨Nat.le_of_ble_eq_true rfl, Nat.le_of_ble_eq_true rfl⟩ ⟨Nat.le_refl _, Nat.le_refl _⟩ hP hD hK hS hZ hX [0, 1, 2, 3, 4, 5, 6] rfl (by decide) 0 rfl rfl hl.1 rfl (Nat.le_of_ble_eq_true rfl) dX1_isCertain_2 (fun ce q9 H locs hP hS h1 h2 h3 => ?_)
  exact thr _ _ _ _ _ _ _ hP hS h1 h2 h3

set_option maxHeartbeats 4000000 in
set_option maxRecDepth 100000 in
theorem mx_X1_turnsUntilCertain_a (hlt : l.stackTraces = false) (h0 h1 h2 h3 h4 h5 h6 n wn t tc sc : Nat) (uw : Bool) (c1 c2 : Nat) (s ow hf tf : Nat → Nat) (a0 : Int32) (hn : n ≤ 5) (ha0 : ∀ j, j < n → a0 ≠ nI j) : Mx l yX1_turnsUntilCertain ws_X1_turnsUntilCertain 7 111 (dC, dI) (tyL cI cZ cJ) [.ref h0, .int a0] (gW cI h0 h1 h2 h3 h4 h5 h6 h1 h2 n wn t tc sc uw c1 c2 s ow hf tf) "java/lang/IndexOutOfBoundsException" := by
  refine Mx_of (by decide +kernel) (Nat.le_of_ble_eq_true rfl) ?_
  intro pr ev sx mi ag bl me cd ls S hP hK hD hZ hX hl htab hlocks thr
  obtain ⟨hx, hb, hml, hown, hts⟩ := id S
  have hown : sx.vm.findClass RX1 = some mi.cls := hown
  have hS : va_S (wIn (gW cI h0 h1 h2 h3 h4 h5 h6 h1 h2 n wn t tc sc uw c1 c2 s ow hf tf)) sx.heap sx.heap [] := va_S.rf
  have hl : lv_has ls 2 [(0, .ref h0), (1, .int a0)] := hl
  refine lv_aload_n hx hb dX1_turnsUntilCertain_0 rfl (lv_at hl 0 rfl) ?_
  refine lv_iload_n hx hb dX1_turnsUntilCertain_1 rfl (lv_at hl 1 rfl) ?_
  refine x_V (As := [.int a0]) (rest := []) S (mx_X1_requirePlayer hlt h0 h1 h2 h3 h4 h5 h6 h1 h2 n wn t tc sc uw c1 c2 s ow hf tf a0 hn ha0) g_X1_X1_requirePlayer hd_X1_requirePlayer ⟨Nat.le_of_ble_eq_true rfl, Nat.le_of_ble_eq_true rfl⟩ ⟨Nat.le_refl _, Nat.le_refl _⟩ hP hD hK hS hZ hX [0, 1, 2, 3, 4, 5, 6] rfl (by decide) 0 rfl rfl hl.1 rfl (Nat.le_of_ble_eq_true rfl) dX1_turnsUntilCertain_2 (fun ce q9 H locs hP hS h1 h2 h3 => ?_)
  exact thr _ _ _ _ _ _ _ hP hS h1 h2 h3

set_option maxHeartbeats 4000000 in
set_option maxRecDepth 100000 in
theorem mx_X1_certainIfTold_a (hlt : l.stackTraces = false) (h0 h1 h2 h3 h4 h5 h6 n wn t tc sc : Nat) (uw : Bool) (c1 c2 : Nat) (s ow hf tf : Nat → Nat) (a0 : Int32) (hn : n ≤ 5) (ha0 : ∀ j, j < n → a0 ≠ nI j) : Mx l yX1_certainIfTold ws_X1_certainIfTold 7 111 (dC, dI) (tyL cI cZ cJ) [.ref h0, .int a0] (gW cI h0 h1 h2 h3 h4 h5 h6 h1 h2 n wn t tc sc uw c1 c2 s ow hf tf) "java/lang/IndexOutOfBoundsException" := by
  refine Mx_of (by decide +kernel) (Nat.le_of_ble_eq_true rfl) ?_
  intro pr ev sx mi ag bl me cd ls S hP hK hD hZ hX hl htab hlocks thr
  obtain ⟨hx, hb, hml, hown, hts⟩ := id S
  have hown : sx.vm.findClass RX1 = some mi.cls := hown
  have hS : va_S (wIn (gW cI h0 h1 h2 h3 h4 h5 h6 h1 h2 n wn t tc sc uw c1 c2 s ow hf tf)) sx.heap sx.heap [] := va_S.rf
  have hl : lv_has ls 2 [(0, .ref h0), (1, .int a0)] := hl
  refine lv_aload_n hx hb dX1_certainIfTold_0 rfl (lv_at hl 0 rfl) ?_
  refine lv_iload_n hx hb dX1_certainIfTold_1 rfl (lv_at hl 1 rfl) ?_
  refine x_V (As := [.int a0]) (rest := []) S (mx_X1_requirePlayer hlt h0 h1 h2 h3 h4 h5 h6 h1 h2 n wn t tc sc uw c1 c2 s ow hf tf a0 hn ha0) g_X1_X1_requirePlayer hd_X1_requirePlayer ⟨Nat.le_of_ble_eq_true rfl, Nat.le_of_ble_eq_true rfl⟩ ⟨Nat.le_refl _, Nat.le_refl _⟩ hP hD hK hS hZ hX [0, 1, 2, 3, 4, 5, 6] rfl (by decide) 0 rfl rfl hl.1 rfl (Nat.le_of_ble_eq_true rfl) dX1_certainIfTold_2 (fun ce q9 H locs hP hS h1 h2 h3 => ?_)
  exact thr _ _ _ _ _ _ _ hP hS h1 h2 h3

set_option maxHeartbeats 4000000 in
set_option maxRecDepth 100000 in
theorem mx_X1_hatsOf_a (hlt : l.stackTraces = false) (h0 h1 h2 h3 h4 h5 h6 n wn t tc sc : Nat) (uw : Bool) (c1 c2 : Nat) (s ow hf tf : Nat → Nat) (a0 : Int32) (ha0 : ∀ j, j < 3 → a0 ≠ nI j) : Mx l yX1_hatsOf ws_X1_hatsOf 7 110 (dC, dI) (tyL cI cZ cJ) [.ref h0, .int a0] (gW cI h0 h1 h2 h3 h4 h5 h6 h1 h2 n wn t tc sc uw c1 c2 s ow hf tf) "java/lang/IndexOutOfBoundsException" := by
  refine Mx_of (by decide +kernel) (Nat.le_of_ble_eq_true rfl) ?_
  intro pr ev sx mi ag bl me cd ls S hP hK hD hZ hX hl htab hlocks thr
  obtain ⟨hx, hb, hml, hown, hts⟩ := id S
  have hown : sx.vm.findClass RX1 = some mi.cls := hown
  have hS : va_S (wIn (gW cI h0 h1 h2 h3 h4 h5 h6 h1 h2 n wn t tc sc uw c1 c2 s ow hf tf)) sx.heap sx.heap [] := va_S.rf
  have hl : lv_has ls 2 [(0, .ref h0), (1, .int a0)] := hl
  refine lv_iload_n hx hb dX1_hatsOf_0 rfl (lv_at hl 1 rfl) ?_
  refine x_S (As := [.int a0]) (rest := []) S (mx_X1_requireColour hlt a0 ha0) g_X1_X1_requireColour hd_X1_requireColour ⟨Nat.le_of_ble_eq_true rfl, Nat.le_of_ble_eq_true rfl⟩ ⟨Nat.le_refl _, Nat.le_refl _⟩ hP hD hK hS hZ hX [] rfl (by decide) hl.1 rfl (Nat.le_of_ble_eq_true rfl) dX1_hatsOf_1 (fun ce q9 H locs hP hS h1 h2 h3 => ?_)
  exact thr _ _ _ _ _ _ _ hP hS h1 h2 h3

set_option maxHeartbeats 4000000 in
set_option maxRecDepth 100000 in
theorem mx_X1_sees_a (hlt : l.stackTraces = false) (h0 h1 h2 h3 h4 h5 h6 n wn t tc sc : Nat) (uw : Bool) (c1 c2 : Nat) (s ow hf tf : Nat → Nat) (a0 a1 : Int32) (hn : n ≤ 5) (ha0 : ∀ j, j < n → a0 ≠ nI j) : Mx l yX1_sees ws_X1_sees 7 111 (dC, dI) (tyL cI cZ cJ) [.ref h0, .int a0, .int a1] (gW cI h0 h1 h2 h3 h4 h5 h6 h1 h2 n wn t tc sc uw c1 c2 s ow hf tf) "java/lang/IndexOutOfBoundsException" := by
  refine Mx_of (by decide +kernel) (Nat.le_of_ble_eq_true rfl) ?_
  intro pr ev sx mi ag bl me cd ls S hP hK hD hZ hX hl htab hlocks thr
  obtain ⟨hx, hb, hml, hown, hts⟩ := id S
  have hown : sx.vm.findClass RX1 = some mi.cls := hown
  have hS : va_S (wIn (gW cI h0 h1 h2 h3 h4 h5 h6 h1 h2 n wn t tc sc uw c1 c2 s ow hf tf)) sx.heap sx.heap [] := va_S.rf
  have hl : lv_has ls 3 [(0, .ref h0), (1, .int a0), (2, .int a1)] := hl
  refine lv_aload_n hx hb dX1_sees_0 rfl (lv_at hl 0 rfl) ?_
  refine lv_iload_n hx hb dX1_sees_1 rfl (lv_at hl 1 rfl) ?_
  refine x_V (As := [.int a0]) (rest := []) S (mx_X1_requirePlayer hlt h0 h1 h2 h3 h4 h5 h6 h1 h2 n wn t tc sc uw c1 c2 s ow hf tf a0 hn ha0) g_X1_X1_requirePlayer hd_X1_requirePlayer ⟨Nat.le_of_ble_eq_true rfl, Nat.le_of_ble_eq_true rfl⟩ ⟨Nat.le_refl _, Nat.le_refl _⟩ hP hD hK hS hZ hX [0, 1, 2, 3, 4, 5, 6] rfl (by decide) 0 rfl rfl hl.1 rfl (Nat.le_of_ble_eq_true rfl) dX1_sees_2 (fun ce q9 H locs hP hS h1 h2 h3 => ?_)
  exact thr _ _ _ _ _ _ _ hP hS h1 h2 h3

set_option maxHeartbeats 4000000 in
set_option maxRecDepth 100000 in
theorem mx_X1_sees_b (hlt : l.stackTraces = false) (h0 h1 h2 h3 h4 h5 h6 n wn t tc sc : Nat) (uw : Bool) (c1 c2 : Nat) (s ow hf tf : Nat → Nat) (k : Nat) (a1 : Int32) (hn : n ≤ 5) (hk : k < n) (ha1 : ∀ j, j < n → a1 ≠ nI j) : Mx l yX1_sees ws_X1_sees 7 111 (dC, dI) (tyL cI cZ cJ) [.ref h0, .int (nI k), .int a1] (gW cI h0 h1 h2 h3 h4 h5 h6 h1 h2 n wn t tc sc uw c1 c2 s ow hf tf) "java/lang/IndexOutOfBoundsException" := by
  refine Mx_of (by decide +kernel) (Nat.le_of_ble_eq_true rfl) ?_
  intro pr ev sx mi ag bl me cd ls S hP hK hD hZ hX hl htab hlocks thr
  obtain ⟨hx, hb, hml, hown, hts⟩ := id S
  have hown : sx.vm.findClass RX1 = some mi.cls := hown
  have hS : va_S (wIn (gW cI h0 h1 h2 h3 h4 h5 h6 h1 h2 n wn t tc sc uw c1 c2 s ow hf tf)) sx.heap sx.heap [] := va_S.rf
  have hl : lv_has ls 3 [(0, .ref h0), (1, .int (nI k)), (2, .int a1)] := hl
  refine lv_aload_n hx hb dX1_sees_0 rfl (lv_at hl 0 rfl) ?_
  refine lv_iload_n hx hb dX1_sees_1 rfl (lv_at hl 1 rfl) ?_
  refine call_Vv (As := [.int (nI k)]) (wr := []) (rest := []) S (m_X1_requirePlayer h0 h1 h2 h3 h4 h5 h6 h1 h2 n wn t tc sc uw c1 c2 s ow hf tf k (by omega) hn) g_X1_X1_requirePlayer hd_X1_requirePlayer ⟨Nat.le_of_ble_eq_true rfl, Nat.le_of_ble_eq_true rfl⟩ ⟨Nat.zero_le _, Nat.zero_le _⟩ hP hD hK hS hZ [0, 1, 2, 3, 4, 5, 6] [] rfl rfl (by decide) 0 rfl rfl hl.1 rfl (Nat.le_of_ble_eq_true rfl) dX1_sees_2 (fun u H locs hq hP hD hS => ?_)
  obtain rfl := hq
  have hP : va_P (dC, dI) vwCl (gW cI h0 h1 h2 h3 h4 h5 h6 h1 h2 n wn t tc sc uw c1 c2 s ow hf tf) H := hP
  have hD : va_D (wIn (gW cI h0 h1 h2 h3 h4 h5 h6 h1 h2 n wn t tc sc uw c1 c2 s ow hf tf)) (gW cI h0 h1 h2 h3 h4 h5 h6 h1 h2 n wn t tc sc uw c1 c2 s ow hf tf) := hD
  refine lv_aload_n hx hb dX1_sees_5 rfl (lv_at hl 0 rfl) ?_
  refine lv_iload_n hx hb dX1_sees_6 rfl (lv_at hl 2 rfl) ?_
  refine x_V (As := [.int a1]) (rest := []) S (mx_X1_requirePlayer hlt h0 h1 h2 h3 h4 h5 h6 h1 h2 n wn t tc sc uw c1 c2 s ow hf tf a1 hn ha1) g_X1_X1_requirePlayer hd_X1_requirePlayer ⟨Nat.le_of_ble_eq_true rfl, Nat.le_of_ble_eq_true rfl⟩ ⟨Nat.le_refl _, Nat.le_refl _⟩ hP hD hK hS hZ hX [0, 1, 2, 3, 4, 5, 6] rfl (by decide) 0 rfl rfl hl.1 rfl (Nat.le_of_ble_eq_true rfl) dX1_sees_7 (fun ce q9 H locs hP hS h1 h2 h3 => ?_)
  exact thr _ _ _ _ _ _ _ hP hS h1 h2 h3

set_option maxHeartbeats 4000000 in
set_option maxRecDepth 100000 in
theorem mx_X1_knowsHatOf_a (hlt : l.stackTraces = false) (h0 h1 h2 h3 h4 h5 h6 n wn t tc sc : Nat) (uw : Bool) (c1 c2 : Nat) (s ow hf tf : Nat → Nat) (a0 a1 : Int32) (hn : n ≤ 5) (ha0 : ∀ j, j < n → a0 ≠ nI j) : Mx l yX1_knowsHatOf ws_X1_knowsHatOf 7 111 (dC, dI) (tyL cI cZ cJ) [.ref h0, .int a0, .int a1] (gW cI h0 h1 h2 h3 h4 h5 h6 h1 h2 n wn t tc sc uw c1 c2 s ow hf tf) "java/lang/IndexOutOfBoundsException" := by
  refine Mx_of (by decide +kernel) (Nat.le_of_ble_eq_true rfl) ?_
  intro pr ev sx mi ag bl me cd ls S hP hK hD hZ hX hl htab hlocks thr
  obtain ⟨hx, hb, hml, hown, hts⟩ := id S
  have hown : sx.vm.findClass RX1 = some mi.cls := hown
  have hS : va_S (wIn (gW cI h0 h1 h2 h3 h4 h5 h6 h1 h2 n wn t tc sc uw c1 c2 s ow hf tf)) sx.heap sx.heap [] := va_S.rf
  have hl : lv_has ls 3 [(0, .ref h0), (1, .int a0), (2, .int a1)] := hl
  refine lv_aload_n hx hb dX1_knowsHatOf_0 rfl (lv_at hl 0 rfl) ?_
  refine lv_iload_n hx hb dX1_knowsHatOf_1 rfl (lv_at hl 1 rfl) ?_
  refine x_V (As := [.int a0]) (rest := []) S (mx_X1_requirePlayer hlt h0 h1 h2 h3 h4 h5 h6 h1 h2 n wn t tc sc uw c1 c2 s ow hf tf a0 hn ha0) g_X1_X1_requirePlayer hd_X1_requirePlayer ⟨Nat.le_of_ble_eq_true rfl, Nat.le_of_ble_eq_true rfl⟩ ⟨Nat.le_refl _, Nat.le_refl _⟩ hP hD hK hS hZ hX [0, 1, 2, 3, 4, 5, 6] rfl (by decide) 0 rfl rfl hl.1 rfl (Nat.le_of_ble_eq_true rfl) dX1_knowsHatOf_2 (fun ce q9 H locs hP hS h1 h2 h3 => ?_)
  exact thr _ _ _ _ _ _ _ hP hS h1 h2 h3

set_option maxHeartbeats 4000000 in
set_option maxRecDepth 100000 in
theorem mx_X1_knowsHatOf_b (hlt : l.stackTraces = false) (h0 h1 h2 h3 h4 h5 h6 n wn t tc sc : Nat) (uw : Bool) (c1 c2 : Nat) (s ow hf tf : Nat → Nat) (k : Nat) (a1 : Int32) (hn : n ≤ 5) (hk : k < n) (ha1 : ∀ j, j < n → a1 ≠ nI j) : Mx l yX1_knowsHatOf ws_X1_knowsHatOf 7 111 (dC, dI) (tyL cI cZ cJ) [.ref h0, .int (nI k), .int a1] (gW cI h0 h1 h2 h3 h4 h5 h6 h1 h2 n wn t tc sc uw c1 c2 s ow hf tf) "java/lang/IndexOutOfBoundsException" := by
  refine Mx_of (by decide +kernel) (Nat.le_of_ble_eq_true rfl) ?_
  intro pr ev sx mi ag bl me cd ls S hP hK hD hZ hX hl htab hlocks thr
  obtain ⟨hx, hb, hml, hown, hts⟩ := id S
  have hown : sx.vm.findClass RX1 = some mi.cls := hown
  have hS : va_S (wIn (gW cI h0 h1 h2 h3 h4 h5 h6 h1 h2 n wn t tc sc uw c1 c2 s ow hf tf)) sx.heap sx.heap [] := va_S.rf
  have hl : lv_has ls 3 [(0, .ref h0), (1, .int (nI k)), (2, .int a1)] := hl
  refine lv_aload_n hx hb dX1_knowsHatOf_0 rfl (lv_at hl 0 rfl) ?_
  refine lv_iload_n hx hb dX1_knowsHatOf_1 rfl (lv_at hl 1 rfl) ?_
  refine call_Vv (As := [.int (nI k)]) (wr := []) (rest := []) S (m_X1_requirePlayer h0 h1 h2 h3 h4 h5 h6 h1 h2 n wn t tc sc uw c1 c2 s ow hf tf k (by omega) hn) g_X1_X1_requirePlayer hd_X1_requirePlayer ⟨Nat.le_of_ble_eq_true rfl, Nat.le_of_ble_eq_true rfl⟩ ⟨Nat.zero_le _, Nat.zero_le _⟩ hP hD hK hS hZ [0, 1, 2, 3, 4, 5, 6] [] rfl rfl (by decide) 0 rfl rfl hl.1 rfl (Nat.le_of_ble_eq_true rfl) dX1_knowsHatOf_2 (fun u H locs hq hP hD hS => ?_)
  obtain rfl := hq
  have hP : va_P (dC, dI) vwCl (gW cI h0 h1 h2 h3 h4 h5 h6 h1 h2 n wn t tc sc uw c1 c2 s ow hf tf) H := hP
  have hD : va_D (wIn (gW cI h0 h1 h2 h3 h4 h5 h6 h1 h2 n wn t tc sc uw c1 c2 s ow hf tf)) (gW cI h0 h1 h2 h3 h4 h5 h6 h1 h2 n wn t tc sc uw c1 c2 s ow hf tf) := hD
  refine lv_aload_n hx hb dX1_knowsHatOf_5 rfl (lv_at hl 0 rfl) ?_
  refine lv_iload_n hx hb dX1_knowsHatOf_6 rfl (lv_at hl 2 rfl) ?_
  refine x_V (As := [.int a1]) (rest := []) S (mx_X1_requirePlayer hlt h0 h1 h2 h3 h4 h5 h6 h1 h2 n wn t tc sc uw c1 c2 s ow hf tf a1 hn ha1) g_X1_X1_requirePlayer hd_X1_requirePlayer ⟨Nat.le_of_ble_eq_true rfl, Nat.le_of_ble_eq_true rfl⟩ ⟨Nat.le_refl _, Nat.le_refl _⟩ hP hD hK hS hZ hX [0, 1, 2, 3, 4, 5, 6] rfl (by decide) 0 rfl rfl hl.1 rfl (Nat.le_of_ble_eq_true rfl) dX1_knowsHatOf_7 (fun ce q9 H locs hP hS h1 h2 h3 => ?_)
  exact thr _ _ _ _ _ _ _ hP hS h1 h2 h3

set_option maxHeartbeats 4000000 in
set_option maxRecDepth 100000 in
theorem mx_X1_knowsCertain_a (hlt : l.stackTraces = false) (h0 h1 h2 h3 h4 h5 h6 n wn t tc sc : Nat) (uw : Bool) (c1 c2 : Nat) (s ow hf tf : Nat → Nat) (a0 a1 : Int32) (hn : n ≤ 5) (ha0 : ∀ j, j < n → a0 ≠ nI j) : Mx l yX1_knowsCertain ws_X1_knowsCertain 7 111 (dC, dI) (tyL cI cZ cJ) [.ref h0, .int a0, .int a1] (gW cI h0 h1 h2 h3 h4 h5 h6 h1 h2 n wn t tc sc uw c1 c2 s ow hf tf) "java/lang/IndexOutOfBoundsException" := by
  refine Mx_of (by decide +kernel) (Nat.le_of_ble_eq_true rfl) ?_
  intro pr ev sx mi ag bl me cd ls S hP hK hD hZ hX hl htab hlocks thr
  obtain ⟨hx, hb, hml, hown, hts⟩ := id S
  have hown : sx.vm.findClass RX1 = some mi.cls := hown
  have hS : va_S (wIn (gW cI h0 h1 h2 h3 h4 h5 h6 h1 h2 n wn t tc sc uw c1 c2 s ow hf tf)) sx.heap sx.heap [] := va_S.rf
  have hl : lv_has ls 6 [(0, .ref h0), (1, .int a0), (2, .int a1)] := hl
  refine lv_aload_n hx hb dX1_knowsCertain_0 rfl (lv_at hl 0 rfl) ?_
  refine lv_iload_n hx hb dX1_knowsCertain_1 rfl (lv_at hl 1 rfl) ?_
  refine x_V (As := [.int a0]) (rest := []) S (mx_X1_requirePlayer hlt h0 h1 h2 h3 h4 h5 h6 h1 h2 n wn t tc sc uw c1 c2 s ow hf tf a0 hn ha0) g_X1_X1_requirePlayer hd_X1_requirePlayer ⟨Nat.le_of_ble_eq_true rfl, Nat.le_of_ble_eq_true rfl⟩ ⟨Nat.le_refl _, Nat.le_refl _⟩ hP hD hK hS hZ hX [0, 1, 2, 3, 4, 5, 6] rfl (by decide) 0 rfl rfl hl.1 rfl (Nat.le_of_ble_eq_true rfl) dX1_knowsCertain_2 (fun ce q9 H locs hP hS h1 h2 h3 => ?_)
  exact thr _ _ _ _ _ _ _ hP hS h1 h2 h3

set_option maxHeartbeats 4000000 in
set_option maxRecDepth 100000 in
theorem mx_X1_knowsCertain_b (hlt : l.stackTraces = false) (h0 h1 h2 h3 h4 h5 h6 n wn t tc sc : Nat) (uw : Bool) (c1 c2 : Nat) (s ow hf tf : Nat → Nat) (k : Nat) (a1 : Int32) (hn : n ≤ 5) (hk : k < n) (ha1 : ∀ j, j < n → a1 ≠ nI j) : Mx l yX1_knowsCertain ws_X1_knowsCertain 7 111 (dC, dI) (tyL cI cZ cJ) [.ref h0, .int (nI k), .int a1] (gW cI h0 h1 h2 h3 h4 h5 h6 h1 h2 n wn t tc sc uw c1 c2 s ow hf tf) "java/lang/IndexOutOfBoundsException" := by
  refine Mx_of (by decide +kernel) (Nat.le_of_ble_eq_true rfl) ?_
  intro pr ev sx mi ag bl me cd ls S hP hK hD hZ hX hl htab hlocks thr
  obtain ⟨hx, hb, hml, hown, hts⟩ := id S
  have hown : sx.vm.findClass RX1 = some mi.cls := hown
  have hS : va_S (wIn (gW cI h0 h1 h2 h3 h4 h5 h6 h1 h2 n wn t tc sc uw c1 c2 s ow hf tf)) sx.heap sx.heap [] := va_S.rf
  have hl : lv_has ls 6 [(0, .ref h0), (1, .int (nI k)), (2, .int a1)] := hl
  refine lv_aload_n hx hb dX1_knowsCertain_0 rfl (lv_at hl 0 rfl) ?_
  refine lv_iload_n hx hb dX1_knowsCertain_1 rfl (lv_at hl 1 rfl) ?_
  refine call_Vv (As := [.int (nI k)]) (wr := []) (rest := []) S (m_X1_requirePlayer h0 h1 h2 h3 h4 h5 h6 h1 h2 n wn t tc sc uw c1 c2 s ow hf tf k (by omega) hn) g_X1_X1_requirePlayer hd_X1_requirePlayer ⟨Nat.le_of_ble_eq_true rfl, Nat.le_of_ble_eq_true rfl⟩ ⟨Nat.zero_le _, Nat.zero_le _⟩ hP hD hK hS hZ [0, 1, 2, 3, 4, 5, 6] [] rfl rfl (by decide) 0 rfl rfl hl.1 rfl (Nat.le_of_ble_eq_true rfl) dX1_knowsCertain_2 (fun u H locs hq hP hD hS => ?_)
  obtain rfl := hq
  have hP : va_P (dC, dI) vwCl (gW cI h0 h1 h2 h3 h4 h5 h6 h1 h2 n wn t tc sc uw c1 c2 s ow hf tf) H := hP
  have hD : va_D (wIn (gW cI h0 h1 h2 h3 h4 h5 h6 h1 h2 n wn t tc sc uw c1 c2 s ow hf tf)) (gW cI h0 h1 h2 h3 h4 h5 h6 h1 h2 n wn t tc sc uw c1 c2 s ow hf tf) := hD
  refine lv_aload_n hx hb dX1_knowsCertain_5 rfl (lv_at hl 0 rfl) ?_
  refine lv_iload_n hx hb dX1_knowsCertain_6 rfl (lv_at hl 2 rfl) ?_
  refine x_V (As := [.int a1]) (rest := []) S (mx_X1_requirePlayer hlt h0 h1 h2 h3 h4 h5 h6 h1 h2 n wn t tc sc uw c1 c2 s ow hf tf a1 hn ha1) g_X1_X1_requirePlayer hd_X1_requirePlayer ⟨Nat.le_of_ble_eq_true rfl, Nat.le_of_ble_eq_true rfl⟩ ⟨Nat.le_refl _, Nat.le_refl _⟩ hP hD hK hS hZ hX [0, 1, 2, 3, 4, 5, 6] rfl (by decide) 0 rfl rfl hl.1 rfl (Nat.le_of_ble_eq_true rfl) dX1_knowsCertain_7 (fun ce q9 H locs hP hS h1 h2 h3 => ?_)
  exact thr _ _ _ _ _ _ _ hP hS h1 h2 h3

set_option maxHeartbeats 4000000 in
set_option maxRecDepth 100000 in
theorem mx_X1_openWaysWith_a (hlt : l.stackTraces = false) (h0 h1 h2 h3 h4 h5 h6 n wn t tc sc : Nat) (uw : Bool) (c1 c2 : Nat) (s ow hf tf : Nat → Nat) (a0 a1 : Int32) (hn : n ≤ 5) (ha0 : ∀ j, j < n → a0 ≠ nI j) : Mx l yX1_openWaysWith ws_X1_openWaysWith 7 111 (dC, dI) (tyL cI cZ cJ) [.ref h0, .int a0, .int a1] (gW cI h0 h1 h2 h3 h4 h5 h6 h1 h2 n wn t tc sc uw c1 c2 s ow hf tf) "java/lang/IndexOutOfBoundsException" := by
  refine Mx_of (by decide +kernel) (Nat.le_of_ble_eq_true rfl) ?_
  intro pr ev sx mi ag bl me cd ls S hP hK hD hZ hX hl htab hlocks thr
  obtain ⟨hx, hb, hml, hown, hts⟩ := id S
  have hown : sx.vm.findClass RX1 = some mi.cls := hown
  have hS : va_S (wIn (gW cI h0 h1 h2 h3 h4 h5 h6 h1 h2 n wn t tc sc uw c1 c2 s ow hf tf)) sx.heap sx.heap [] := va_S.rf
  have hl : lv_has ls 3 [(0, .ref h0), (1, .int a0), (2, .int a1)] := hl
  refine lv_aload_n hx hb dX1_openWaysWith_0 rfl (lv_at hl 0 rfl) ?_
  refine lv_iload_n hx hb dX1_openWaysWith_1 rfl (lv_at hl 1 rfl) ?_
  refine x_V (As := [.int a0]) (rest := []) S (mx_X1_requirePlayer hlt h0 h1 h2 h3 h4 h5 h6 h1 h2 n wn t tc sc uw c1 c2 s ow hf tf a0 hn ha0) g_X1_X1_requirePlayer hd_X1_requirePlayer ⟨Nat.le_of_ble_eq_true rfl, Nat.le_of_ble_eq_true rfl⟩ ⟨Nat.le_refl _, Nat.le_refl _⟩ hP hD hK hS hZ hX [0, 1, 2, 3, 4, 5, 6] rfl (by decide) 0 rfl rfl hl.1 rfl (Nat.le_of_ble_eq_true rfl) dX1_openWaysWith_2 (fun ce q9 H locs hP hS h1 h2 h3 => ?_)
  exact thr _ _ _ _ _ _ _ hP hS h1 h2 h3

set_option maxHeartbeats 4000000 in
set_option maxRecDepth 100000 in
theorem mx_X1_openWaysWith_b (hlt : l.stackTraces = false) (h0 h1 h2 h3 h4 h5 h6 n wn t tc sc : Nat) (uw : Bool) (c1 c2 : Nat) (s ow hf tf : Nat → Nat) (k : Nat) (a1 : Int32) (hn : n ≤ 5) (hk : k < n) (ha1 : ∀ j, j < 3 → a1 ≠ nI j) : Mx l yX1_openWaysWith ws_X1_openWaysWith 7 110 (dC, dI) (tyL cI cZ cJ) [.ref h0, .int (nI k), .int a1] (gW cI h0 h1 h2 h3 h4 h5 h6 h1 h2 n wn t tc sc uw c1 c2 s ow hf tf) "java/lang/IndexOutOfBoundsException" := by
  refine Mx_of (by decide +kernel) (Nat.le_of_ble_eq_true rfl) ?_
  intro pr ev sx mi ag bl me cd ls S hP hK hD hZ hX hl htab hlocks thr
  obtain ⟨hx, hb, hml, hown, hts⟩ := id S
  have hown : sx.vm.findClass RX1 = some mi.cls := hown
  have hS : va_S (wIn (gW cI h0 h1 h2 h3 h4 h5 h6 h1 h2 n wn t tc sc uw c1 c2 s ow hf tf)) sx.heap sx.heap [] := va_S.rf
  have hl : lv_has ls 3 [(0, .ref h0), (1, .int (nI k)), (2, .int a1)] := hl
  refine lv_aload_n hx hb dX1_openWaysWith_0 rfl (lv_at hl 0 rfl) ?_
  refine lv_iload_n hx hb dX1_openWaysWith_1 rfl (lv_at hl 1 rfl) ?_
  refine call_Vv (As := [.int (nI k)]) (wr := []) (rest := []) S (m_X1_requirePlayer h0 h1 h2 h3 h4 h5 h6 h1 h2 n wn t tc sc uw c1 c2 s ow hf tf k (by omega) hn) g_X1_X1_requirePlayer hd_X1_requirePlayer ⟨Nat.le_of_ble_eq_true rfl, Nat.le_of_ble_eq_true rfl⟩ ⟨Nat.zero_le _, Nat.zero_le _⟩ hP hD hK hS hZ [0, 1, 2, 3, 4, 5, 6] [] rfl rfl (by decide) 0 rfl rfl hl.1 rfl (Nat.le_of_ble_eq_true rfl) dX1_openWaysWith_2 (fun u H locs hq hP hD hS => ?_)
  obtain rfl := hq
  have hP : va_P (dC, dI) vwCl (gW cI h0 h1 h2 h3 h4 h5 h6 h1 h2 n wn t tc sc uw c1 c2 s ow hf tf) H := hP
  have hD : va_D (wIn (gW cI h0 h1 h2 h3 h4 h5 h6 h1 h2 n wn t tc sc uw c1 c2 s ow hf tf)) (gW cI h0 h1 h2 h3 h4 h5 h6 h1 h2 n wn t tc sc uw c1 c2 s ow hf tf) := hD
  refine lv_iload_n hx hb dX1_openWaysWith_5 rfl (lv_at hl 2 rfl) ?_
  refine x_S (As := [.int a1]) (rest := []) S (mx_X1_requireColour hlt a1 ha1) g_X1_X1_requireColour hd_X1_requireColour ⟨Nat.le_of_ble_eq_true rfl, Nat.le_of_ble_eq_true rfl⟩ ⟨Nat.le_refl _, Nat.le_refl _⟩ hP hD hK hS hZ hX [] rfl (by decide) hl.1 rfl (Nat.le_of_ble_eq_true rfl) dX1_openWaysWith_6 (fun ce q9 H locs hP hS h1 h2 h3 => ?_)
  exact thr _ _ _ _ _ _ _ hP hS h1 h2 h3

set_option maxHeartbeats 4000000 in
set_option maxRecDepth 100000 in
theorem mx_X1_holdsPossible_a (hlt : l.stackTraces = false) (h0 h1 h2 h3 h4 h5 h6 n wn t tc sc : Nat) (uw : Bool) (c1 c2 : Nat) (s ow hf tf : Nat → Nat) (a0 a1 a2 : Int32) (hn : n ≤ 5) (ha0 : ∀ j, j < n → a0 ≠ nI j) : Mx l yX1_holdsPossible ws_X1_holdsPossible 7 111 (dC, dI) (tyL cI cZ cJ) [.ref h0, .int a0, .int a1, .int a2] (gW cI h0 h1 h2 h3 h4 h5 h6 h1 h2 n wn t tc sc uw c1 c2 s ow hf tf) "java/lang/IndexOutOfBoundsException" := by
  refine Mx_of (by decide +kernel) (Nat.le_of_ble_eq_true rfl) ?_
  intro pr ev sx mi ag bl me cd ls S hP hK hD hZ hX hl htab hlocks thr
  obtain ⟨hx, hb, hml, hown, hts⟩ := id S
  have hown : sx.vm.findClass RX1 = some mi.cls := hown
  have hS : va_S (wIn (gW cI h0 h1 h2 h3 h4 h5 h6 h1 h2 n wn t tc sc uw c1 c2 s ow hf tf)) sx.heap sx.heap [] := va_S.rf
  have hl : lv_has ls 4 [(0, .ref h0), (1, .int a0), (2, .int a1), (3, .int a2)] := hl
  refine lv_aload_n hx hb dX1_holdsPossible_0 rfl (lv_at hl 0 rfl) ?_
  refine lv_iload_n hx hb dX1_holdsPossible_1 rfl (lv_at hl 1 rfl) ?_
  refine x_V (As := [.int a0]) (rest := []) S (mx_X1_requirePlayer hlt h0 h1 h2 h3 h4 h5 h6 h1 h2 n wn t tc sc uw c1 c2 s ow hf tf a0 hn ha0) g_X1_X1_requirePlayer hd_X1_requirePlayer ⟨Nat.le_of_ble_eq_true rfl, Nat.le_of_ble_eq_true rfl⟩ ⟨Nat.le_refl _, Nat.le_refl _⟩ hP hD hK hS hZ hX [0, 1, 2, 3, 4, 5, 6] rfl (by decide) 0 rfl rfl hl.1 rfl (Nat.le_of_ble_eq_true rfl) dX1_holdsPossible_2 (fun ce q9 H locs hP hS h1 h2 h3 => ?_)
  exact thr _ _ _ _ _ _ _ hP hS h1 h2 h3

set_option maxHeartbeats 4000000 in
set_option maxRecDepth 100000 in
theorem mx_X1_holdsPossible_b (hlt : l.stackTraces = false) (h0 h1 h2 h3 h4 h5 h6 n wn t tc sc : Nat) (uw : Bool) (c1 c2 : Nat) (s ow hf tf : Nat → Nat) (k : Nat) (a1 a2 : Int32) (hn : n ≤ 5) (hk : k < n) (ha1 : ∀ j, j < n → a1 ≠ nI j) : Mx l yX1_holdsPossible ws_X1_holdsPossible 7 111 (dC, dI) (tyL cI cZ cJ) [.ref h0, .int (nI k), .int a1, .int a2] (gW cI h0 h1 h2 h3 h4 h5 h6 h1 h2 n wn t tc sc uw c1 c2 s ow hf tf) "java/lang/IndexOutOfBoundsException" := by
  refine Mx_of (by decide +kernel) (Nat.le_of_ble_eq_true rfl) ?_
  intro pr ev sx mi ag bl me cd ls S hP hK hD hZ hX hl htab hlocks thr
  obtain ⟨hx, hb, hml, hown, hts⟩ := id S
  have hown : sx.vm.findClass RX1 = some mi.cls := hown
  have hS : va_S (wIn (gW cI h0 h1 h2 h3 h4 h5 h6 h1 h2 n wn t tc sc uw c1 c2 s ow hf tf)) sx.heap sx.heap [] := va_S.rf
  have hl : lv_has ls 4 [(0, .ref h0), (1, .int (nI k)), (2, .int a1), (3, .int a2)] := hl
  refine lv_aload_n hx hb dX1_holdsPossible_0 rfl (lv_at hl 0 rfl) ?_
  refine lv_iload_n hx hb dX1_holdsPossible_1 rfl (lv_at hl 1 rfl) ?_
  refine call_Vv (As := [.int (nI k)]) (wr := []) (rest := []) S (m_X1_requirePlayer h0 h1 h2 h3 h4 h5 h6 h1 h2 n wn t tc sc uw c1 c2 s ow hf tf k (by omega) hn) g_X1_X1_requirePlayer hd_X1_requirePlayer ⟨Nat.le_of_ble_eq_true rfl, Nat.le_of_ble_eq_true rfl⟩ ⟨Nat.zero_le _, Nat.zero_le _⟩ hP hD hK hS hZ [0, 1, 2, 3, 4, 5, 6] [] rfl rfl (by decide) 0 rfl rfl hl.1 rfl (Nat.le_of_ble_eq_true rfl) dX1_holdsPossible_2 (fun u H locs hq hP hD hS => ?_)
  obtain rfl := hq
  have hP : va_P (dC, dI) vwCl (gW cI h0 h1 h2 h3 h4 h5 h6 h1 h2 n wn t tc sc uw c1 c2 s ow hf tf) H := hP
  have hD : va_D (wIn (gW cI h0 h1 h2 h3 h4 h5 h6 h1 h2 n wn t tc sc uw c1 c2 s ow hf tf)) (gW cI h0 h1 h2 h3 h4 h5 h6 h1 h2 n wn t tc sc uw c1 c2 s ow hf tf) := hD
  refine lv_aload_n hx hb dX1_holdsPossible_5 rfl (lv_at hl 0 rfl) ?_
  refine lv_iload_n hx hb dX1_holdsPossible_6 rfl (lv_at hl 2 rfl) ?_
  refine x_V (As := [.int a1]) (rest := []) S (mx_X1_requirePlayer hlt h0 h1 h2 h3 h4 h5 h6 h1 h2 n wn t tc sc uw c1 c2 s ow hf tf a1 hn ha1) g_X1_X1_requirePlayer hd_X1_requirePlayer ⟨Nat.le_of_ble_eq_true rfl, Nat.le_of_ble_eq_true rfl⟩ ⟨Nat.le_refl _, Nat.le_refl _⟩ hP hD hK hS hZ hX [0, 1, 2, 3, 4, 5, 6] rfl (by decide) 0 rfl rfl hl.1 rfl (Nat.le_of_ble_eq_true rfl) dX1_holdsPossible_7 (fun ce q9 H locs hP hS h1 h2 h3 => ?_)
  exact thr _ _ _ _ _ _ _ hP hS h1 h2 h3

set_option maxHeartbeats 4000000 in
set_option maxRecDepth 100000 in
theorem mx_X1_holdsPossible_c (hlt : l.stackTraces = false) (h0 h1 h2 h3 h4 h5 h6 n wn t tc sc : Nat) (uw : Bool) (c1 c2 : Nat) (s ow hf tf : Nat → Nat) (k k2 : Nat) (a2 : Int32) (hn : n ≤ 5) (hk : k < n) (hk2 : k2 < n) (ha2 : ∀ j, j < 3 → a2 ≠ nI j) : Mx l yX1_holdsPossible ws_X1_holdsPossible 7 110 (dC, dI) (tyL cI cZ cJ) [.ref h0, .int (nI k), .int (nI k2), .int a2] (gW cI h0 h1 h2 h3 h4 h5 h6 h1 h2 n wn t tc sc uw c1 c2 s ow hf tf) "java/lang/IndexOutOfBoundsException" := by
  refine Mx_of (by decide +kernel) (Nat.le_of_ble_eq_true rfl) ?_
  intro pr ev sx mi ag bl me cd ls S hP hK hD hZ hX hl htab hlocks thr
  obtain ⟨hx, hb, hml, hown, hts⟩ := id S
  have hown : sx.vm.findClass RX1 = some mi.cls := hown
  have hS : va_S (wIn (gW cI h0 h1 h2 h3 h4 h5 h6 h1 h2 n wn t tc sc uw c1 c2 s ow hf tf)) sx.heap sx.heap [] := va_S.rf
  have hl : lv_has ls 4 [(0, .ref h0), (1, .int (nI k)), (2, .int (nI k2)), (3, .int a2)] := hl
  refine lv_aload_n hx hb dX1_holdsPossible_0 rfl (lv_at hl 0 rfl) ?_
  refine lv_iload_n hx hb dX1_holdsPossible_1 rfl (lv_at hl 1 rfl) ?_
  refine call_Vv (As := [.int (nI k)]) (wr := []) (rest := []) S (m_X1_requirePlayer h0 h1 h2 h3 h4 h5 h6 h1 h2 n wn t tc sc uw c1 c2 s ow hf tf k (by omega) hn) g_X1_X1_requirePlayer hd_X1_requirePlayer ⟨Nat.le_of_ble_eq_true rfl, Nat.le_of_ble_eq_true rfl⟩ ⟨Nat.zero_le _, Nat.zero_le _⟩ hP hD hK hS hZ [0, 1, 2, 3, 4, 5, 6] [] rfl rfl (by decide) 0 rfl rfl hl.1 rfl (Nat.le_of_ble_eq_true rfl) dX1_holdsPossible_2 (fun u H locs hq hP hD hS => ?_)
  obtain rfl := hq
  have hP : va_P (dC, dI) vwCl (gW cI h0 h1 h2 h3 h4 h5 h6 h1 h2 n wn t tc sc uw c1 c2 s ow hf tf) H := hP
  have hD : va_D (wIn (gW cI h0 h1 h2 h3 h4 h5 h6 h1 h2 n wn t tc sc uw c1 c2 s ow hf tf)) (gW cI h0 h1 h2 h3 h4 h5 h6 h1 h2 n wn t tc sc uw c1 c2 s ow hf tf) := hD
  refine lv_aload_n hx hb dX1_holdsPossible_5 rfl (lv_at hl 0 rfl) ?_
  refine lv_iload_n hx hb dX1_holdsPossible_6 rfl (lv_at hl 2 rfl) ?_
  refine call_Vv (As := [.int (nI k2)]) (wr := []) (rest := []) S (m_X1_requirePlayer h0 h1 h2 h3 h4 h5 h6 h1 h2 n wn t tc sc uw c1 c2 s ow hf tf k2 (by omega) hn) g_X1_X1_requirePlayer hd_X1_requirePlayer ⟨Nat.le_of_ble_eq_true rfl, Nat.le_of_ble_eq_true rfl⟩ ⟨Nat.zero_le _, Nat.zero_le _⟩ hP hD hK hS hZ [0, 1, 2, 3, 4, 5, 6] [] rfl rfl (by decide) 0 rfl rfl hl.1 rfl (Nat.le_of_ble_eq_true rfl) dX1_holdsPossible_7 (fun u H locs hq hP hD hS => ?_)
  obtain rfl := hq
  have hP : va_P (dC, dI) vwCl (gW cI h0 h1 h2 h3 h4 h5 h6 h1 h2 n wn t tc sc uw c1 c2 s ow hf tf) H := hP
  have hD : va_D (wIn (gW cI h0 h1 h2 h3 h4 h5 h6 h1 h2 n wn t tc sc uw c1 c2 s ow hf tf)) (gW cI h0 h1 h2 h3 h4 h5 h6 h1 h2 n wn t tc sc uw c1 c2 s ow hf tf) := hD
  refine lv_iload_n hx hb dX1_holdsPossible_10 rfl (lv_at hl 3 rfl) ?_
  refine x_S (As := [.int a2]) (rest := []) S (mx_X1_requireColour hlt a2 ha2) g_X1_X1_requireColour hd_X1_requireColour ⟨Nat.le_of_ble_eq_true rfl, Nat.le_of_ble_eq_true rfl⟩ ⟨Nat.le_refl _, Nat.le_refl _⟩ hP hD hK hS hZ hX [] rfl (by decide) hl.1 rfl (Nat.le_of_ble_eq_true rfl) dX1_holdsPossible_11 (fun ce q9 H locs hP hS h1 h2 h3 => ?_)
  exact thr _ _ _ _ _ _ _ hP hS h1 h2 h3

end
