section
variable {l : Launch} {dC : Nat → ClassId} {dI : Nat → Nat → Nat} {cI cZ cS cW : ClassId}

set_option maxHeartbeats 4000000 in
set_option maxRecDepth 100000 in
theorem m_X1_countWithHat (h0 h1 h2 h3 h4 h5 h6 p2 n wn t tc sc : Nat) (uw : Bool) (c1 c2 : Nat) (s ow hf tf : Nat → Nat) (j co : Nat) (hj : j < 5) (hco : co < 4) (hc1 : c1 ≤ 243) (hb1 : ∀ j, j < c1 → hf j < 1024) : Mp l yX1_countWithHat ws_X1_countWithHat 1 21 (dC, dI) (tyL cI cZ cS cW) [.ref h0, .int (nI j), .int (nI co)] (gW cI h0 h1 h2 h3 h4 h5 h6 h1 p2 n wn t tc sc uw c1 c2 s ow hf tf) (fun r => r = nI ((Lof hf c1).countP (fun x => qd x j == co))) := by
  refine Mi_of (by decide +kernel) (Nat.le_of_ble_eq_true rfl) ?_
  intro pr ev sx mi ag bl me cd Q ls S hP hK hD hZ hl ret
  obtain ⟨hx, hb, hml, hown, hts⟩ := id S
  have hown : sx.vm.findClass RX1 = some mi.cls := hown
  have hS : va_S (wIn (gW cI h0 h1 h2 h3 h4 h5 h6 h1 p2 n wn t tc sc uw c1 c2 s ow hf tf)) sx.heap sx.heap [] := va_S.rf
  have hl : lv_has ls 5 [(0, .ref h0), (1, .int (nI j)), (2, .int (nI co))] := hl
  refine lv_iconst (v := nI 0) hx hb dX1_countWithHat_0 (by decide) ?_
  refine lv_istore_n (lv' := [(3, .int (nI 0)), (0, .ref h0), (1, .int (nI j)), (2, .int (nI co))]) hx hb dX1_countWithHat_1 rfl hl (by decide) rfl (fun ls hl => ?_)
  refine lv_iconst (v := nI 0) hx hb dX1_countWithHat_2 (by decide) ?_
  refine lv_istore (lv' := [(4, .int (nI 0)), (3, .int (nI 0)), (0, .ref h0), (1, .int (nI j)), (2, .int (nI co))]) hx hb dX1_countWithHat_3 hl (by decide) rfl (fun ls hl => ?_)
  have lp5 : ∀ (kf : Nat) (i : Nat) (a : Nat), c1 < i + kf → (i ≤ c1) → (a = (Lof hf i).countP (fun x => qd x j == co)) → ∀ (H : Heap) (locs : List Loc), va_P (dC, dI) vwCl (gW cI h0 h1 h2 h3 h4 h5 h6 h1 p2 n wn t tc sc uw c1 c2 s ow hf tf) H → va_D (wIn (gW cI h0 h1 h2 h3 h4 h5 h6 h1 p2 n wn t tc sc uw c1 c2 s ow hf tf)) (gW cI h0 h1 h2 h3 h4 h5 h6 h1 p2 n wn t tc sc uw c1 c2 s ow hf tf) → va_S (wIn (gW cI h0 h1 h2 h3 h4 h5 h6 h1 p2 n wn t tc sc uw c1 c2 s ow hf tf)) sx.heap H locs → ∀ ls : Array Slot, lv_has ls 5 [(4, .int (nI i)), (3, .int (nI a)), (0, .ref h0), (1, .int (nI j)), (2, .int (nI co))] → W pr l ev (rmB 1 21) sx mi ag bl me cd H locs 0 0 Q (F0 mi 5 ls []) := by
    intro kf
    induction kf with
    | zero => intro i a hkf hi ha; exact absurd hkf (by omega)
    | succ kf ih5 =>
      intro i a hkf hi ha H locs hP hD hS ls hl
      refine lv_iload hx hb dX1_countWithHat_5 (lv_at hl 0 rfl) ?_
      refine lv_aload_n hx hb dX1_countWithHat_7 rfl (lv_at hl 2 rfl) ?_
      refine va_get (D := (dC, dI)) (ci := 1) (v := .ref h1) (C := RX1) (T := TX1) (N := 10) hx hb hts inX1 hown hK hP 0 rfl rfl 0 (by decide) (hts _ q_fl_X1_10) (fun _ h9 => h9) rfl dX1_countWithHat_8 ?_
      refine call_Vp (As := []) (rest := [.int (nI i)]) S (m_X0_count h1 h5 c1 hf) g_X1_X0_count hd_X0_count ⟨Nat.le_of_ble_eq_true rfl, Nat.le_of_ble_eq_true rfl⟩ ⟨Nat.zero_le _, Nat.zero_le _⟩ hP hD hK hS hZ [1, 5] rfl (by decide) 0 rfl rfl hl.1 rfl (Nat.le_of_ble_eq_true rfl) dX1_countWithHat_11 (fun r H locs hq hP hS => ?_)
      obtain rfl := hq
      refine icN_ge (tgt := 43) hx hb dX1_countWithHat_14 (by decide) (by omega) (by omega) (fun c_14 => ?_) (fun c_14 => ?_)
      · refine lv_iload_n hx hb dX1_countWithHat_43 rfl (lv_at hl 1 rfl) ?_
        exact ret _ (gW cI h0 h1 h2 h3 h4 h5 h6 h1 p2 n wn t tc sc uw c1 c2 s ow hf tf) _ _ _ _ dX1_countWithHat_44 rfl ⟨rfl, by rw [ha, show i = c1 by omega]⟩ (List.Perm.refl _) hP hS
      · refine lv_aload_n hx hb dX1_countWithHat_17 rfl (lv_at hl 2 rfl) ?_
        refine va_get (D := (dC, dI)) (ci := 1) (v := .ref h1) (C := RX1) (T := TX1) (N := 10) hx hb hts inX1 hown hK hP 0 rfl rfl 0 (by decide) (hts _ q_fl_X1_10) (fun _ h9 => h9) rfl dX1_countWithHat_18 ?_
        refine lv_iload hx hb dX1_countWithHat_21 (lv_at hl 0 rfl) ?_
        refine call_Vp (As := [.int (nI i)]) (rest := []) S (m_X0_at h1 h5 c1 hf i (by omega)) g_X1_X0_at hd_X0_at ⟨Nat.le_of_ble_eq_true rfl, Nat.le_of_ble_eq_true rfl⟩ ⟨Nat.zero_le _, Nat.zero_le _⟩ hP hD hK hS hZ [1, 5] rfl (by decide) 0 rfl rfl hl.1 rfl (Nat.le_of_ble_eq_true rfl) dX1_countWithHat_23 (fun r H locs hq hP hS => ?_)
        obtain rfl := hq
        refine lv_iload_n hx hb dX1_countWithHat_26 rfl (lv_at hl 3 rfl) ?_
        refine call_Sp (As := [.int (nI (hf i)), .int (nI j)]) (rest := []) S (m_X1_colourIn (hf i) j (hb1 _ (by omega)) (by omega)) g_X1_X1_colourIn hd_X1_colourIn ⟨Nat.le_of_ble_eq_true rfl, Nat.le_of_ble_eq_true rfl⟩ ⟨Nat.zero_le _, Nat.zero_le _⟩ hP hD hK hS hZ [] rfl (by decide) hl.1 rfl (Nat.le_of_ble_eq_true rfl) dX1_countWithHat_27 (fun r H locs hq hP hS => ?_)
        obtain rfl := hq
        refine lv_iload_n hx hb dX1_countWithHat_30 rfl (lv_at hl 4 rfl) ?_
        refine icN_ne (tgt := 37) hx hb dX1_countWithHat_31 (by decide) (by have := qd_lt (hf i) j; omega) (by omega) (fun c_31 => ?_) (fun c_31 => ?_)
        · refine lv_iinc (v := nI (i + 1)) (lv' := [(4, .int (nI (i + 1))), (3, .int (nI a)), (0, .ref h0), (1, .int (nI j)), (2, .int (nI co))]) hx hb dX1_countWithHat_37 hl (k := 0) rfl (nI_add _ _) (by decide) rfl (fun ls hl => ?_)
          refine lv_goto (tgt := 5) hx hb dX1_countWithHat_40 (by decide) ?_
          exact ih5 (i + 1) _ (by omega) (by omega) (cnt_f (by simp [c_31]) ha) _ _ hP hD hS _ (lv_sub hl [0, 1, 2, 3, 4] rfl)
        · refine lv_iinc (v := nI (a + 1)) (lv' := [(3, .int (nI (a + 1))), (4, .int (nI i)), (0, .ref h0), (1, .int (nI j)), (2, .int (nI co))]) hx hb dX1_countWithHat_34 hl (k := 1) rfl (nI_add _ _) (by decide) rfl (fun ls hl => ?_)
          refine lv_iinc (v := nI (i + 1)) (lv' := [(4, .int (nI (i + 1))), (3, .int (nI (a + 1))), (0, .ref h0), (1, .int (nI j)), (2, .int (nI co))]) hx hb dX1_countWithHat_37 hl (k := 1) rfl (nI_add _ _) (by decide) rfl (fun ls hl => ?_)
          refine lv_goto (tgt := 5) hx hb dX1_countWithHat_40 (by decide) ?_
          exact ih5 (i + 1) _ (by omega) (by omega) (cnt_t (by simp [c_31]) ha) _ _ hP hD hS _ (lv_sub hl [0, 1, 2, 3, 4] rfl)
  exact lp5 (c1 + 1) 0 0 (by omega) (by omega) rfl _ _ hP hD hS _ (lv_sub hl [0, 1, 2, 3, 4] rfl)


set_option maxHeartbeats 4000000 in
set_option maxRecDepth 100000 in
theorem m_X1_countPossible (h0 h1 h2 h3 h4 h5 h6 p2 n wn t tc sc : Nat) (uw : Bool) (c1 c2 : Nat) (s ow hf tf : Nat → Nat) (j : Nat) (hj : j < 5) (hw : wn < 1024) (hc1 : c1 ≤ 243) (hb1 : ∀ j, j < c1 → hf j < 1024) : Mp l yX1_countPossible ws_X1_countPossible 1 22 (dC, dI) (tyL cI cZ cS cW) [.ref h0, .int (nI j)] (gW cI h0 h1 h2 h3 h4 h5 h6 h1 p2 n wn t tc sc uw c1 c2 s ow hf tf) (fun r => r = nI ((Lof hf c1).countP (fun x => agr wn x (s j)))) := by
  refine Mi_of (by decide +kernel) (Nat.le_of_ble_eq_true rfl) ?_
  intro pr ev sx mi ag bl me cd Q ls S hP hK hD hZ hl ret
  obtain ⟨hx, hb, hml, hown, hts⟩ := id S
  have hown : sx.vm.findClass RX1 = some mi.cls := hown
  have hS : va_S (wIn (gW cI h0 h1 h2 h3 h4 h5 h6 h1 p2 n wn t tc sc uw c1 c2 s ow hf tf)) sx.heap sx.heap [] := va_S.rf
  have hl : lv_has ls 5 [(0, .ref h0), (1, .int (nI j))] := hl
  refine lv_iconst (v := nI 0) hx hb dX1_countPossible_0 (by decide) ?_
  refine lv_istore_n (lv' := [(2, .int (nI 0)), (0, .ref h0), (1, .int (nI j))]) hx hb dX1_countPossible_1 rfl hl (by decide) rfl (fun ls hl => ?_)
  refine lv_aload_n hx hb dX1_countPossible_2 rfl (lv_at hl 1 rfl) ?_
  refine lv_iload_n hx hb dX1_countPossible_3 rfl (lv_at hl 2 rfl) ?_
  refine call_Vp (As := [.int (nI j)]) (rest := []) S (m_X1_seenHatsOf h0 h1 h2 h3 h4 h5 h6 h1 p2 n wn t tc sc uw c1 c2 s ow hf tf j (by omega)) g_X1_X1_seenHatsOf hd_X1_seenHatsOf ⟨Nat.le_of_ble_eq_true rfl, Nat.le_of_ble_eq_true rfl⟩ ⟨Nat.zero_le _, Nat.zero_le _⟩ hP hD hK hS hZ [0, 1, 2, 3, 4, 5, 6] rfl (by decide) 0 rfl rfl hl.1 rfl (Nat.le_of_ble_eq_true rfl) dX1_countPossible_4 (fun r H locs hq hP hS => ?_)
  obtain rfl := hq
  refine lv_istore_n (lv' := [(3, .int (nI (s j))), (2, .int (nI 0)), (0, .ref h0), (1, .int (nI j))]) hx hb dX1_countPossible_7 rfl hl (by decide) rfl (fun ls hl => ?_)
  refine lv_iconst (v := nI 0) hx hb dX1_countPossible_8 (by decide) ?_
  refine lv_istore (lv' := [(4, .int (nI 0)), (3, .int (nI (s j))), (2, .int (nI 0)), (0, .ref h0), (1, .int (nI j))]) hx hb dX1_countPossible_9 hl (by decide) rfl (fun ls hl => ?_)
  have lp11 : ∀ (kf : Nat) (i : Nat) (a : Nat), c1 < i + kf → (i ≤ c1) → (a = (Lof hf i).countP (fun x => agr wn x (s j))) → ∀ (H : Heap) (locs : List Loc), va_P (dC, dI) vwCl (gW cI h0 h1 h2 h3 h4 h5 h6 h1 p2 n wn t tc sc uw c1 c2 s ow hf tf) H → va_D (wIn (gW cI h0 h1 h2 h3 h4 h5 h6 h1 p2 n wn t tc sc uw c1 c2 s ow hf tf)) (gW cI h0 h1 h2 h3 h4 h5 h6 h1 p2 n wn t tc sc uw c1 c2 s ow hf tf) → va_S (wIn (gW cI h0 h1 h2 h3 h4 h5 h6 h1 p2 n wn t tc sc uw c1 c2 s ow hf tf)) sx.heap H locs → ∀ ls : Array Slot, lv_has ls 5 [(4, .int (nI i)), (3, .int (nI (s j))), (2, .int (nI a)), (0, .ref h0), (1, .int (nI j))] → W pr l ev (rmB 1 22) sx mi ag bl me cd H locs 0 0 Q (F0 mi 11 ls []) := by
    intro kf
    induction kf with
    | zero => intro i a hkf hi ha; exact absurd hkf (by omega)
    | succ kf ih11 =>
      intro i a hkf hi ha H locs hP hD hS ls hl
      refine lv_iload hx hb dX1_countPossible_11 (lv_at hl 0 rfl) ?_
      refine lv_aload_n hx hb dX1_countPossible_13 rfl (lv_at hl 3 rfl) ?_
      refine va_get (D := (dC, dI)) (ci := 1) (v := .ref h1) (C := RX1) (T := TX1) (N := 10) hx hb hts inX1 hown hK hP 0 rfl rfl 0 (by decide) (hts _ q_fl_X1_10) (fun _ h9 => h9) rfl dX1_countPossible_14 ?_
      refine call_Vp (As := []) (rest := [.int (nI i)]) S (m_X0_count h1 h5 c1 hf) g_X1_X0_count hd_X0_count ⟨Nat.le_of_ble_eq_true rfl, Nat.le_of_ble_eq_true rfl⟩ ⟨Nat.zero_le _, Nat.zero_le _⟩ hP hD hK hS hZ [1, 5] rfl (by decide) 0 rfl rfl hl.1 rfl (Nat.le_of_ble_eq_true rfl) dX1_countPossible_17 (fun r H locs hq hP hS => ?_)
      obtain rfl := hq
      refine icN_ge (tgt := 49) hx hb dX1_countPossible_20 (by decide) (by omega) (by omega) (fun c_20 => ?_) (fun c_20 => ?_)
      · refine lv_iload_n hx hb dX1_countPossible_49 rfl (lv_at hl 2 rfl) ?_
        exact ret _ (gW cI h0 h1 h2 h3 h4 h5 h6 h1 p2 n wn t tc sc uw c1 c2 s ow hf tf) _ _ _ _ dX1_countPossible_50 rfl ⟨rfl, by rw [ha, show i = c1 by omega]⟩ (List.Perm.refl _) hP hS
      · refine lv_aload_n hx hb dX1_countPossible_23 rfl (lv_at hl 3 rfl) ?_
        refine lv_aload_n hx hb dX1_countPossible_24 rfl (lv_at hl 3 rfl) ?_
        refine va_get (D := (dC, dI)) (ci := 1) (v := .ref h1) (C := RX1) (T := TX1) (N := 10) hx hb hts inX1 hown hK hP 0 rfl rfl 0 (by decide) (hts _ q_fl_X1_10) (fun _ h9 => h9) rfl dX1_countPossible_25 ?_
        refine lv_iload hx hb dX1_countPossible_28 (lv_at hl 0 rfl) ?_
        refine call_Vp (As := [.int (nI i)]) (rest := [.ref h0]) S (m_X0_at h1 h5 c1 hf i (by omega)) g_X1_X0_at hd_X0_at ⟨Nat.le_of_ble_eq_true rfl, Nat.le_of_ble_eq_true rfl⟩ ⟨Nat.zero_le _, Nat.zero_le _⟩ hP hD hK hS hZ [1, 5] rfl (by decide) 0 rfl rfl hl.1 rfl (Nat.le_of_ble_eq_true rfl) dX1_countPossible_30 (fun r H locs hq hP hS => ?_)
        obtain rfl := hq
        refine lv_iload_n hx hb dX1_countPossible_33 rfl (lv_at hl 1 rfl) ?_
        refine call_Vp (As := [.int (nI (hf i)), .int (nI (s j))]) (rest := []) S (m_X1_agreesWithNow h0 h1 h2 h3 h4 h5 h6 h1 p2 n wn t tc sc uw c1 c2 s ow hf tf (hf i) (s j) (hb1 _ (by omega)) hw) g_X1_X1_agreesWithNow hd_X1_agreesWithNow ⟨Nat.le_of_ble_eq_true rfl, Nat.le_of_ble_eq_true rfl⟩ ⟨Nat.zero_le _, Nat.zero_le _⟩ hP hD hK hS hZ [0, 1, 2, 3, 4, 5, 6] rfl (by decide) 0 rfl rfl hl.1 rfl (Nat.le_of_ble_eq_true rfl) dX1_countPossible_34 (fun r H locs hq hP hS => ?_)
        obtain rfl := hq
        refine ifB_eq (tgt := 43) hx hb dX1_countPossible_37 (by decide) (fun c_37 => ?_) (fun c_37 => ?_)
        · refine lv_iinc (v := nI (i + 1)) (lv' := [(4, .int (nI (i + 1))), (3, .int (nI (s j))), (2, .int (nI a)), (0, .ref h0), (1, .int (nI j))]) hx hb dX1_countPossible_43 hl (k := 0) rfl (nI_add _ _) (by decide) rfl (fun ls hl => ?_)
          refine lv_goto (tgt := 11) hx hb dX1_countPossible_46 (by decide) ?_
          exact ih11 (i + 1) _ (by omega) (by omega) (cnt_f c_37 ha) _ _ hP hD hS _ (lv_sub hl [0, 1, 2, 3, 4] rfl)
        · refine lv_iinc (v := nI (a + 1)) (lv' := [(2, .int (nI (a + 1))), (4, .int (nI i)), (3, .int (nI (s j))), (0, .ref h0), (1, .int (nI j))]) hx hb dX1_countPossible_40 hl (k := 2) rfl (nI_add _ _) (by decide) rfl (fun ls hl => ?_)
          refine lv_iinc (v := nI (i + 1)) (lv' := [(4, .int (nI (i + 1))), (2, .int (nI (a + 1))), (3, .int (nI (s j))), (0, .ref h0), (1, .int (nI j))]) hx hb dX1_countPossible_43 hl (k := 1) rfl (nI_add _ _) (by decide) rfl (fun ls hl => ?_)
          refine lv_goto (tgt := 11) hx hb dX1_countPossible_46 (by decide) ?_
          exact ih11 (i + 1) _ (by omega) (by omega) (cnt_t c_37 ha) _ _ hP hD hS _ (lv_sub hl [0, 2, 1, 3, 4] rfl)
  exact lp11 (c1 + 1) 0 0 (by omega) (by omega) rfl _ _ hP hD hS _ (lv_sub hl [0, 1, 2, 3, 4] rfl)

set_option maxHeartbeats 4000000 in
set_option maxRecDepth 100000 in
theorem m_X1_possibleColours (h0 h1 h2 h3 h4 h5 h6 p1 p2 n wn t tc sc : Nat) (uw : Bool) (c1 c2 : Nat) (s ow hf tf : Nat → Nat) (j k : Nat) (hj : j < 5) (hk : k < 5) (hw : wn < 1024) (hc1 : c1 ≤ 243) (hb1 : ∀ j, j < c1 → hf j < 1024) : Mp l yX1_possibleColours ws_X1_possibleColours 1 22 (dC, dI) (tyL cI cZ cS cW) [.ref h0, .ref h1, .int (nI j), .int (nI k)] (gW cI h0 h1 h2 h3 h4 h5 h6 p1 p2 n wn t tc sc uw c1 c2 s ow hf tf) (fun r => r = nI (pcol wn (s j) k (Lof hf c1))) := by
  refine Mi_of (by decide +kernel) (Nat.le_of_ble_eq_true rfl) ?_
  intro pr ev sx mi ag bl me cd Q ls S hP hK hD hZ hl ret
  obtain ⟨hx, hb, hml, hown, hts⟩ := id S
  have hown : sx.vm.findClass RX1 = some mi.cls := hown
  have hS : va_S (wIn (gW cI h0 h1 h2 h3 h4 h5 h6 p1 p2 n wn t tc sc uw c1 c2 s ow hf tf)) sx.heap sx.heap [] := va_S.rf
  have hl : lv_has ls 8 [(0, .ref h0), (1, .ref h1), (2, .int (nI j)), (3, .int (nI k))] := hl
  refine lv_iconst (v := nI 0) hx hb dX1_possibleColours_0 (by decide) ?_
  refine lv_istore (lv' := [(4, .int (nI 0)), (0, .ref h0), (1, .ref h1), (2, .int (nI j)), (3, .int (nI k))]) hx hb dX1_possibleColours_1 hl (by decide) rfl (fun ls hl => ?_)
  refine lv_aload_n hx hb dX1_possibleColours_3 rfl (lv_at hl 1 rfl) ?_
  refine lv_iload_n hx hb dX1_possibleColours_4 rfl (lv_at hl 3 rfl) ?_
  refine call_Vp (As := [.int (nI j)]) (rest := []) S (m_X1_seenHatsOf h0 h1 h2 h3 h4 h5 h6 p1 p2 n wn t tc sc uw c1 c2 s ow hf tf j (by omega)) g_X1_X1_seenHatsOf hd_X1_seenHatsOf ⟨Nat.le_of_ble_eq_true rfl, Nat.le_of_ble_eq_true rfl⟩ ⟨Nat.zero_le _, Nat.zero_le _⟩ hP hD hK hS hZ [0, 1, 2, 3, 4, 5, 6] rfl (by decide) 0 rfl rfl hl.1 rfl (Nat.le_of_ble_eq_true rfl) dX1_possibleColours_5 (fun r H locs hq hP hS => ?_)
  obtain rfl := hq
  refine lv_istore (lv' := [(5, .int (nI (s j))), (4, .int (nI 0)), (0, .ref h0), (1, .ref h1), (2, .int (nI j)), (3, .int (nI k))]) hx hb dX1_possibleColours_8 hl (by decide) rfl (fun ls hl => ?_)
  refine lv_iconst (v := nI 0) hx hb dX1_possibleColours_10 (by decide) ?_
  refine lv_istore (lv' := [(6, .int (nI 0)), (5, .int (nI (s j))), (4, .int (nI 0)), (0, .ref h0), (1, .ref h1), (2, .int (nI j)), (3, .int (nI k))]) hx hb dX1_possibleColours_11 hl (by decide) rfl (fun ls hl => ?_)
  have lp13 : ∀ (kf : Nat) (i : Nat) (a : Nat), c1 < i + kf → (i ≤ c1) → (a = pcol wn (s j) k (Lof hf i)) → ∀ (H : Heap) (locs : List Loc), va_P (dC, dI) vwCl (gW cI h0 h1 h2 h3 h4 h5 h6 p1 p2 n wn t tc sc uw c1 c2 s ow hf tf) H → va_D (wIn (gW cI h0 h1 h2 h3 h4 h5 h6 p1 p2 n wn t tc sc uw c1 c2 s ow hf tf)) (gW cI h0 h1 h2 h3 h4 h5 h6 p1 p2 n wn t tc sc uw c1 c2 s ow hf tf) → va_S (wIn (gW cI h0 h1 h2 h3 h4 h5 h6 p1 p2 n wn t tc sc uw c1 c2 s ow hf tf)) sx.heap H locs → ∀ ls : Array Slot, lv_has ls 8 [(6, .int (nI i)), (5, .int (nI (s j))), (4, .int (nI a)), (0, .ref h0), (1, .ref h1), (2, .int (nI j)), (3, .int (nI k))] → W pr l ev (rmB 1 22) sx mi ag bl me cd H locs 0 0 Q (F0 mi 13 ls []) := by
    intro kf
    induction kf with
    | zero => intro i a hkf hi ha; exact absurd hkf (by omega)
    | succ kf ih13 =>
      intro i a hkf hi ha H locs hP hD hS ls hl
      refine lv_iload hx hb dX1_possibleColours_13 (lv_at hl 0 rfl) ?_
      refine lv_aload_n hx hb dX1_possibleColours_15 rfl (lv_at hl 4 rfl) ?_
      refine call_Vp (As := []) (rest := [.int (nI i)]) S (m_X0_count h1 h5 c1 hf) g_X1_X0_count hd_X0_count ⟨Nat.le_of_ble_eq_true rfl, Nat.le_of_ble_eq_true rfl⟩ ⟨Nat.zero_le _, Nat.zero_le _⟩ hP hD hK hS hZ [1, 5] rfl (by decide) 0 rfl rfl hl.1 rfl (Nat.le_of_ble_eq_true rfl) dX1_possibleColours_16 (fun r H locs hq hP hS => ?_)
      obtain rfl := hq
      refine icN_ge (tgt := 60) hx hb dX1_possibleColours_19 (by decide) (by omega) (by omega) (fun c_19 => ?_) (fun c_19 => ?_)
      · refine lv_iload hx hb dX1_possibleColours_60 (lv_at hl 2 rfl) ?_
        exact ret _ (gW cI h0 h1 h2 h3 h4 h5 h6 p1 p2 n wn t tc sc uw c1 c2 s ow hf tf) _ _ _ _ dX1_possibleColours_62 rfl ⟨rfl, by rw [ha, show i = c1 by omega]⟩ (List.Perm.refl _) hP hS
      · refine lv_aload_n hx hb dX1_possibleColours_22 rfl (lv_at hl 4 rfl) ?_
        refine lv_iload hx hb dX1_possibleColours_23 (lv_at hl 0 rfl) ?_
        refine call_Vp (As := [.int (nI i)]) (rest := []) S (m_X0_at h1 h5 c1 hf i (by omega)) g_X1_X0_at hd_X0_at ⟨Nat.le_of_ble_eq_true rfl, Nat.le_of_ble_eq_true rfl⟩ ⟨Nat.zero_le _, Nat.zero_le _⟩ hP hD hK hS hZ [1, 5] rfl (by decide) 0 rfl rfl hl.1 rfl (Nat.le_of_ble_eq_true rfl) dX1_possibleColours_25 (fun r H locs hq hP hS => ?_)
        obtain rfl := hq
        refine lv_istore (lv' := [(7, .int (nI (hf i))), (6, .int (nI i)), (5, .int (nI (s j))), (4, .int (nI a)), (0, .ref h0), (1, .ref h1), (2, .int (nI j)), (3, .int (nI k))]) hx hb dX1_possibleColours_28 hl (by decide) rfl (fun ls hl => ?_)
        refine lv_aload_n hx hb dX1_possibleColours_30 rfl (lv_at hl 4 rfl) ?_
        refine lv_iload hx hb dX1_possibleColours_31 (lv_at hl 0 rfl) ?_
        refine lv_iload hx hb dX1_possibleColours_33 (lv_at hl 2 rfl) ?_
        refine call_Vp (As := [.int (nI (hf i)), .int (nI (s j))]) (rest := []) S (m_X1_agreesWithNow h0 h1 h2 h3 h4 h5 h6 p1 p2 n wn t tc sc uw c1 c2 s ow hf tf (hf i) (s j) (hb1 _ (by omega)) hw) g_X1_X1_agreesWithNow hd_X1_agreesWithNow ⟨Nat.le_of_ble_eq_true rfl, Nat.le_of_ble_eq_true rfl⟩ ⟨Nat.zero_le _, Nat.zero_le _⟩ hP hD hK hS hZ [0, 1, 2, 3, 4, 5, 6] rfl (by decide) 0 rfl rfl hl.1 rfl (Nat.le_of_ble_eq_true rfl) dX1_possibleColours_35 (fun r H locs hq hP hS => ?_)
        obtain rfl := hq
        refine ifB_eq (tgt := 54) hx hb dX1_possibleColours_38 (by decide) (fun c_38 => ?_) (fun c_38 => ?_)
        · refine lv_iinc (v := nI (i + 1)) (lv' := [(6, .int (nI (i + 1))), (7, .int (nI (hf i))), (5, .int (nI (s j))), (4, .int (nI a)), (0, .ref h0), (1, .ref h1), (2, .int (nI j)), (3, .int (nI k))]) hx hb dX1_possibleColours_54 hl (k := 1) rfl (nI_add _ _) (by decide) rfl (fun ls hl => ?_)
          refine lv_goto (tgt := 13) hx hb dX1_possibleColours_57 (by decide) ?_
          exact ih13 (i + 1) _ (by omega) (by omega) (pcol_f c_38 ha) _ _ hP hD hS _ (lv_sub hl [0, 2, 3, 4, 5, 6, 7] rfl)
        · refine lv_iload hx hb dX1_possibleColours_41 (lv_at hl 3 rfl) ?_
          refine lv_iconst (v := nI 1) hx hb dX1_possibleColours_43 (by decide) ?_
          refine lv_iload hx hb dX1_possibleColours_44 (lv_at hl 0 rfl) ?_
          refine lv_iload_n hx hb dX1_possibleColours_46 rfl (lv_at hl 7 rfl) ?_
          refine call_Sp (As := [.int (nI (hf i)), .int (nI k)]) (rest := [.int (nI 1), .int (nI a)]) S (m_X1_colourIn (hf i) k (hb1 _ (by omega)) (by omega)) g_X1_X1_colourIn hd_X1_colourIn ⟨Nat.le_of_ble_eq_true rfl, Nat.le_of_ble_eq_true rfl⟩ ⟨Nat.zero_le _, Nat.zero_le _⟩ hP hD hK hS hZ [] rfl (by decide) hl.1 rfl (Nat.le_of_ble_eq_true rfl) dX1_possibleColours_47 (fun r H locs hq hP hS => ?_)
          obtain rfl := hq
          refine lv_ishl hx hb dX1_possibleColours_50 ?_
          refine W_i (y := nI (1 * 2 ^ (qd (hf i) k))) (nI_shl _ (by have := qd_lt (hf i) k; omega)) ?_
          refine lv_ior hx hb dX1_possibleColours_51 ?_
          refine W_i (y := nI (a ||| (1 * 2 ^ (qd (hf i) k)))) (nI_or _ _) ?_
          refine lv_istore (lv' := [(4, .int (nI (a ||| (1 * 2 ^ (qd (hf i) k))))), (7, .int (nI (hf i))), (6, .int (nI i)), (5, .int (nI (s j))), (0, .ref h0), (1, .ref h1), (2, .int (nI j)), (3, .int (nI k))]) hx hb dX1_possibleColours_52 hl (by decide) rfl (fun ls hl => ?_)
          refine lv_iinc (v := nI (i + 1)) (lv' := [(6, .int (nI (i + 1))), (4, .int (nI (a ||| (1 * 2 ^ (qd (hf i) k))))), (7, .int (nI (hf i))), (5, .int (nI (s j))), (0, .ref h0), (1, .ref h1), (2, .int (nI j)), (3, .int (nI k))]) hx hb dX1_possibleColours_54 hl (k := 2) rfl (nI_add _ _) (by decide) rfl (fun ls hl => ?_)
          refine lv_goto (tgt := 13) hx hb dX1_possibleColours_57 (by decide) ?_
          exact ih13 (i + 1) _ (by omega) (by omega) (pcol_t c_38 ha) _ _ hP hD hS _ (lv_sub hl [0, 3, 1, 4, 5, 6, 7] rfl)
  exact lp13 (c1 + 1) 0 0 (by omega) (by omega) rfl _ _ hP hD hS _ (lv_sub hl [0, 1, 2, 3, 4, 5, 6] rfl)

def pop16 (b : Nat) : Nat := (b / 8) % 2 + (b / 4) % 2 + (b / 2) % 2 + b % 2
set_option maxRecDepth 100000 in
theorem bc16 : ∀ b, b < 16 → ((((((((nI b - (((((nI b).toUInt32 >>> ((1 : Int32).toUInt32 &&& Int32.toUInt32 31)).toInt32) &&& (1431655765 : Int32)) : Int32)) &&& (858993459 : Int32)) + ((((((nI b - (((((nI b).toUInt32 >>> ((1 : Int32).toUInt32 &&& Int32.toUInt32 31)).toInt32) &&& (1431655765 : Int32)) : Int32))).toUInt32 >>> ((2 : Int32).toUInt32 &&& Int32.toUInt32 31)).toInt32) &&& (858993459 : Int32)) : Int32)) + (((((((nI b - (((((nI b).toUInt32 >>> ((1 : Int32).toUInt32 &&& Int32.toUInt32 31)).toInt32) &&& (1431655765 : Int32)) : Int32)) &&& (858993459 : Int32)) + ((((((nI b - (((((nI b).toUInt32 >>> ((1 : Int32).toUInt32 &&& Int32.toUInt32 31)).toInt32) &&& (1431655765 : Int32)) : Int32))).toUInt32 >>> ((2 : Int32).toUInt32 &&& Int32.toUInt32 31)).toInt32) &&& (858993459 : Int32)) : Int32))).toUInt32 >>> ((4 : Int32).toUInt32 &&& Int32.toUInt32 31)).toInt32) : Int32)) &&& (252645135 : Int32)) + (((((((((nI b - (((((nI b).toUInt32 >>> ((1 : Int32).toUInt32 &&& Int32.toUInt32 31)).toInt32) &&& (1431655765 : Int32)) : Int32)) &&& (858993459 : Int32)) + ((((((nI b - (((((nI b).toUInt32 >>> ((1 : Int32).toUInt32 &&& Int32.toUInt32 31)).toInt32) &&& (1431655765 : Int32)) : Int32))).toUInt32 >>> ((2 : Int32).toUInt32 &&& Int32.toUInt32 31)).toInt32) &&& (858993459 : Int32)) : Int32)) + (((((((nI b - (((((nI b).toUInt32 >>> ((1 : Int32).toUInt32 &&& Int32.toUInt32 31)).toInt32) &&& (1431655765 : Int32)) : Int32)) &&& (858993459 : Int32)) + ((((((nI b - (((((nI b).toUInt32 >>> ((1 : Int32).toUInt32 &&& Int32.toUInt32 31)).toInt32) &&& (1431655765 : Int32)) : Int32))).toUInt32 >>> ((2 : Int32).toUInt32 &&& Int32.toUInt32 31)).toInt32) &&& (858993459 : Int32)) : Int32))).toUInt32 >>> ((4 : Int32).toUInt32 &&& Int32.toUInt32 31)).toInt32) : Int32)) &&& (252645135 : Int32))).toUInt32 >>> ((8 : Int32).toUInt32 &&& Int32.toUInt32 31)).toInt32) : Int32)) + ((((((((((nI b - (((((nI b).toUInt32 >>> ((1 : Int32).toUInt32 &&& Int32.toUInt32 31)).toInt32) &&& (1431655765 : Int32)) : Int32)) &&& (858993459 : Int32)) + ((((((nI b - (((((nI b).toUInt32 >>> ((1 : Int32).toUInt32 &&& Int32.toUInt32 31)).toInt32) &&& (1431655765 : Int32)) : Int32))).toUInt32 >>> ((2 : Int32).toUInt32 &&& Int32.toUInt32 31)).toInt32) &&& (858993459 : Int32)) : Int32)) + (((((((nI b - (((((nI b).toUInt32 >>> ((1 : Int32).toUInt32 &&& Int32.toUInt32 31)).toInt32) &&& (1431655765 : Int32)) : Int32)) &&& (858993459 : Int32)) + ((((((nI b - (((((nI b).toUInt32 >>> ((1 : Int32).toUInt32 &&& Int32.toUInt32 31)).toInt32) &&& (1431655765 : Int32)) : Int32))).toUInt32 >>> ((2 : Int32).toUInt32 &&& Int32.toUInt32 31)).toInt32) &&& (858993459 : Int32)) : Int32))).toUInt32 >>> ((4 : Int32).toUInt32 &&& Int32.toUInt32 31)).toInt32) : Int32)) &&& (252645135 : Int32)) + (((((((((nI b - (((((nI b).toUInt32 >>> ((1 : Int32).toUInt32 &&& Int32.toUInt32 31)).toInt32) &&& (1431655765 : Int32)) : Int32)) &&& (858993459 : Int32)) + ((((((nI b - (((((nI b).toUInt32 >>> ((1 : Int32).toUInt32 &&& Int32.toUInt32 31)).toInt32) &&& (1431655765 : Int32)) : Int32))).toUInt32 >>> ((2 : Int32).toUInt32 &&& Int32.toUInt32 31)).toInt32) &&& (858993459 : Int32)) : Int32)) + (((((((nI b - (((((nI b).toUInt32 >>> ((1 : Int32).toUInt32 &&& Int32.toUInt32 31)).toInt32) &&& (1431655765 : Int32)) : Int32)) &&& (858993459 : Int32)) + ((((((nI b - (((((nI b).toUInt32 >>> ((1 : Int32).toUInt32 &&& Int32.toUInt32 31)).toInt32) &&& (1431655765 : Int32)) : Int32))).toUInt32 >>> ((2 : Int32).toUInt32 &&& Int32.toUInt32 31)).toInt32) &&& (858993459 : Int32)) : Int32))).toUInt32 >>> ((4 : Int32).toUInt32 &&& Int32.toUInt32 31)).toInt32) : Int32)) &&& (252645135 : Int32))).toUInt32 >>> ((8 : Int32).toUInt32 &&& Int32.toUInt32 31)).toInt32) : Int32))).toUInt32 >>> ((16 : Int32).toUInt32 &&& Int32.toUInt32 31)).toInt32) : Int32)) &&& (63 : Int32)) = nI (pop16 b) := by decide +kernel
theorem pop_1 : ∀ b, b < 16 → (pop16 b = 1 ↔ one1 b = true) := by decide +kernel
theorem pop_lt : ∀ b, b < 16 → pop16 b < 5 := by decide +kernel
set_option maxHeartbeats 4000000 in
set_option maxRecDepth 100000 in
theorem m_J6_bitCount_0f7a4 (b : Nat) (hb16 : b < 16) : Mp l yJ6_bitCount_0f7a4 ws_J6_bitCount_0f7a4 0 0 (dC, dI) (tyL cI cZ cS cW) [.int (nI b)] [] (fun r => r = nI (pop16 b)) := by
  refine Mi_of (by decide +kernel) (Nat.le_of_ble_eq_true rfl) ?_
  intro pr ev sx mi ag bl me cd Q ls S hP hK hD hZ hl ret
  obtain ⟨hx, hb, hml, hown, hts⟩ := id S
  have hown : sx.vm.findClass RJ6 = some mi.cls := hown
  have hS : va_S (wIn []) sx.heap sx.heap [] := va_S.rf
  have hl : lv_has ls 1 [(0, .int (nI b))] := hl
  refine lv_iload_n hx hb dJ6_bitCount_0f7a4_0 rfl (lv_at hl 0 rfl) ?_
  refine lv_iload_n hx hb dJ6_bitCount_0f7a4_1 rfl (lv_at hl 0 rfl) ?_
  refine lv_iconst (v := 1) hx hb dJ6_bitCount_0f7a4_2 (by decide) ?_
  refine lv_iushr hx hb dJ6_bitCount_0f7a4_3 rfl ?_
  refine lv_ldcw hx hb hown (hts _ q_k_J6_265) dJ6_bitCount_0f7a4_4 ?_
  refine lv_iand hx hb dJ6_bitCount_0f7a4_7 ?_
  refine lv_isub hx hb dJ6_bitCount_0f7a4_8 ?_
  refine lv_topi (fun z1 ez1 => ?_)
  refine lv_istore_n (lv' := [(0, .int z1)]) hx hb dJ6_bitCount_0f7a4_9 rfl hl (by decide) rfl (fun ls hl => ?_)
  refine lv_iload_n hx hb dJ6_bitCount_0f7a4_10 rfl (lv_at hl 0 rfl) ?_
  refine lv_ldcw hx hb hown (hts _ q_k_J6_266) dJ6_bitCount_0f7a4_11 ?_
  refine lv_iand hx hb dJ6_bitCount_0f7a4_14 ?_
  refine lv_iload_n hx hb dJ6_bitCount_0f7a4_15 rfl (lv_at hl 0 rfl) ?_
  refine lv_iconst (v := 2) hx hb dJ6_bitCount_0f7a4_16 (by decide) ?_
  refine lv_iushr hx hb dJ6_bitCount_0f7a4_17 rfl ?_
  refine lv_ldcw hx hb hown (hts _ q_k_J6_266) dJ6_bitCount_0f7a4_18 ?_
  refine lv_iand hx hb dJ6_bitCount_0f7a4_21 ?_
  refine lv_iadd hx hb dJ6_bitCount_0f7a4_22 ?_
  refine lv_topi (fun z2 ez2 => ?_)
  refine lv_istore_n (lv' := [(0, .int z2)]) hx hb dJ6_bitCount_0f7a4_23 rfl hl (by decide) rfl (fun ls hl => ?_)
  refine lv_iload_n hx hb dJ6_bitCount_0f7a4_24 rfl (lv_at hl 0 rfl) ?_
  refine lv_iload_n hx hb dJ6_bitCount_0f7a4_25 rfl (lv_at hl 0 rfl) ?_
  refine lv_iconst (v := 4) hx hb dJ6_bitCount_0f7a4_26 (by decide) ?_
  refine lv_iushr hx hb dJ6_bitCount_0f7a4_27 rfl ?_
  refine lv_iadd hx hb dJ6_bitCount_0f7a4_28 ?_
  refine lv_ldcw hx hb hown (hts _ q_k_J6_267) dJ6_bitCount_0f7a4_29 ?_
  refine lv_iand hx hb dJ6_bitCount_0f7a4_32 ?_
  refine lv_topi (fun z3 ez3 => ?_)
  refine lv_istore_n (lv' := [(0, .int z3)]) hx hb dJ6_bitCount_0f7a4_33 rfl hl (by decide) rfl (fun ls hl => ?_)
  refine lv_iload_n hx hb dJ6_bitCount_0f7a4_34 rfl (lv_at hl 0 rfl) ?_
  refine lv_iload_n hx hb dJ6_bitCount_0f7a4_35 rfl (lv_at hl 0 rfl) ?_
  refine lv_bipush (v := 8) hx hb dJ6_bitCount_0f7a4_36 (by decide) ?_
  refine lv_iushr hx hb dJ6_bitCount_0f7a4_38 rfl ?_
  refine lv_iadd hx hb dJ6_bitCount_0f7a4_39 ?_
  refine lv_topi (fun z4 ez4 => ?_)
  refine lv_istore_n (lv' := [(0, .int z4)]) hx hb dJ6_bitCount_0f7a4_40 rfl hl (by decide) rfl (fun ls hl => ?_)
  refine lv_iload_n hx hb dJ6_bitCount_0f7a4_41 rfl (lv_at hl 0 rfl) ?_
  refine lv_iload_n hx hb dJ6_bitCount_0f7a4_42 rfl (lv_at hl 0 rfl) ?_
  refine lv_bipush (v := 16) hx hb dJ6_bitCount_0f7a4_43 (by decide) ?_
  refine lv_iushr hx hb dJ6_bitCount_0f7a4_45 rfl ?_
  refine lv_iadd hx hb dJ6_bitCount_0f7a4_46 ?_
  refine lv_topi (fun z5 ez5 => ?_)
  refine lv_istore_n (lv' := [(0, .int z5)]) hx hb dJ6_bitCount_0f7a4_47 rfl hl (by decide) rfl (fun ls hl => ?_)
  refine lv_iload_n hx hb dJ6_bitCount_0f7a4_48 rfl (lv_at hl 0 rfl) ?_
  refine lv_bipush (v := 63) hx hb dJ6_bitCount_0f7a4_49 (by decide) ?_
  refine lv_iand hx hb dJ6_bitCount_0f7a4_51 ?_
  exact ret _ [] _ _ _ _ dJ6_bitCount_0f7a4_52 rfl ⟨rfl, by subst ez5 ez4 ez3 ez2 ez1; exact bc16 b hb16⟩ (List.Perm.refl _) hP hS
set_option maxHeartbeats 4000000 in
set_option maxRecDepth 100000 in
theorem m_X1_isOneColour (b : Nat) (hb16 : b < 16) : Mp l yX1_isOneColour ws_X1_isOneColour 1 20 (dC, dI) (tyL cI cZ cS cW) [.int (nI b)] ([]) (fun r => r = bI (one1 b)) := by
  refine Mi_of (by decide +kernel) (Nat.le_of_ble_eq_true rfl) ?_
  intro pr ev sx mi ag bl me cd Q ls S hP hK hD hZ hl ret
  obtain ⟨hx, hb, hml, hown, hts⟩ := id S
  have hown : sx.vm.findClass RX1 = some mi.cls := hown
  have hS : va_S (wIn ([])) sx.heap sx.heap [] := va_S.rf
  have hl : lv_has ls 1 [(0, .int (nI b))] := hl
  refine lv_iload_n hx hb dX1_isOneColour_0 rfl (lv_at hl 0 rfl) ?_
  refine call_Sp (As := [.int (nI b)]) (rest := []) S (m_J6_bitCount_0f7a4 b hb16) g_X1_J6_bitCount_0f7a4 hd_J6_bitCount_0f7a4 ⟨Nat.le_of_ble_eq_true rfl, Nat.le_of_ble_eq_true rfl⟩ ⟨Nat.zero_le _, Nat.zero_le _⟩ hP hD hK hS hZ [] rfl (by decide) hl.1 rfl (Nat.le_of_ble_eq_true rfl) dX1_isOneColour_1 (fun r H locs hq hP hS => ?_)
  obtain rfl := hq
  refine lv_iconst (v := nI 1) hx hb dX1_isOneColour_4 (by decide) ?_
  refine icN_ne (tgt := 12) hx hb dX1_isOneColour_5 (by decide) (by have := pop_lt b hb16; omega) (by omega) (fun c_5 => ?_) (fun c_5 => ?_)
  · refine lv_iconst (v := nI 0) hx hb dX1_isOneColour_12 (by decide) ?_
    exact ret _ ([]) _ _ _ _ dX1_isOneColour_13 rfl ⟨rfl, bI_f (by cases ho : one1 b with | false => rfl | true => exact absurd ((pop_1 b hb16).mpr ho) c_5)⟩ (List.Perm.refl _) hP hS
  · refine lv_iconst (v := nI 1) hx hb dX1_isOneColour_8 (by decide) ?_
    refine lv_goto (tgt := 13) hx hb dX1_isOneColour_9 (by decide) ?_
    exact ret _ ([]) _ _ _ _ dX1_isOneColour_13 rfl ⟨rfl, bI_t ((pop_1 b hb16).mp c_5)⟩ (List.Perm.refl _) hP hS

set_option maxHeartbeats 4000000 in
set_option maxRecDepth 100000 in
theorem m_X1_isCertainBy (h0 h1 h2 h3 h4 h5 h6 p1 p2 n wn t tc sc : Nat) (uw : Bool) (c1 c2 : Nat) (s ow hf tf : Nat → Nat) (j : Nat) (hj : j < 5) (hw : wn < 1024) (hc1 : c1 ≤ 243) (hb1 : ∀ j, j < c1 → hf j < 1024) : Mp l yX1_isCertainBy ws_X1_isCertainBy 2 49 (dC, dI) (tyL cI cZ cS cW) [.ref h0, .ref h1, .int (nI j)] (gW cI h0 h1 h2 h3 h4 h5 h6 p1 p2 n wn t tc sc uw c1 c2 s ow hf tf) (fun r => r = bI (cert wn (s j) j (Lof hf c1))) := by
  refine Mi_of (by decide +kernel) (Nat.le_of_ble_eq_true rfl) ?_
  intro pr ev sx mi ag bl me cd Q ls S hP hK hD hZ hl ret
  obtain ⟨hx, hb, hml, hown, hts⟩ := id S
  have hown : sx.vm.findClass RX1 = some mi.cls := hown
  have hS : va_S (wIn (gW cI h0 h1 h2 h3 h4 h5 h6 p1 p2 n wn t tc sc uw c1 c2 s ow hf tf)) sx.heap sx.heap [] := va_S.rf
  have hl : lv_has ls 3 [(0, .ref h0), (1, .ref h1), (2, .int (nI j))] := hl
  refine lv_aload_n hx hb dX1_isCertainBy_0 rfl (lv_at hl 0 rfl) ?_
  refine lv_aload_n hx hb dX1_isCertainBy_1 rfl (lv_at hl 1 rfl) ?_
  refine lv_iload_n hx hb dX1_isCertainBy_2 rfl (lv_at hl 2 rfl) ?_
  refine lv_iload_n hx hb dX1_isCertainBy_3 rfl (lv_at hl 2 rfl) ?_
  refine call_Vp (As := [.ref h1, .int (nI j), .int (nI j)]) (rest := []) S (m_X1_possibleColours h0 h1 h2 h3 h4 h5 h6 p1 p2 n wn t tc sc uw c1 c2 s ow hf tf j j (by omega) (by omega) hw hc1 hb1) g_X1_X1_possibleColours hd_X1_possibleColours ⟨Nat.le_of_ble_eq_true rfl, Nat.le_of_ble_eq_true rfl⟩ ⟨Nat.zero_le _, Nat.zero_le _⟩ hP hD hK hS hZ [0, 1, 2, 3, 4, 5, 6] rfl (by decide) 0 rfl rfl hl.1 rfl (Nat.le_of_ble_eq_true rfl) dX1_isCertainBy_4 (fun r H locs hq hP hS => ?_)
  obtain rfl := hq
  refine call_Sp (As := [.int (nI (pcol wn (s j) j (Lof hf c1)))]) (rest := []) S (m_X1_isOneColour (pcol wn (s j) j (Lof hf c1)) (pcol_lt _ _ _ _)) g_X1_X1_isOneColour hd_X1_isOneColour ⟨Nat.le_of_ble_eq_true rfl, Nat.le_of_ble_eq_true rfl⟩ ⟨Nat.zero_le _, Nat.zero_le _⟩ hP hD hK hS hZ [] rfl (by decide) hl.1 rfl (Nat.le_of_ble_eq_true rfl) dX1_isCertainBy_7 (fun r H locs hq hP hS => ?_)
  obtain rfl := hq
  exact ret _ (gW cI h0 h1 h2 h3 h4 h5 h6 p1 p2 n wn t tc sc uw c1 c2 s ow hf tf) _ _ _ _ dX1_isCertainBy_10 (bI_nar _) ⟨rfl, rfl⟩ (List.Perm.refl _) hP hS

set_option maxHeartbeats 4000000 in
set_option maxRecDepth 100000 in
theorem m_X1_countCertain (h0 h1 h2 h3 h4 h5 h6 p1 p2 n wn t tc sc : Nat) (uw : Bool) (c1 c2 : Nat) (s ow hf tf : Nat → Nat) (hn : n ≤ 5) (hw : wn < 1024) (hc1 : c1 ≤ 243) (hb1 : ∀ j, j < c1 → hf j < 1024) : Mp l yX1_countCertain ws_X1_countCertain 3 71 (dC, dI) (tyL cI cZ cS cW) [.ref h0, .ref h1] (gW cI h0 h1 h2 h3 h4 h5 h6 p1 p2 n wn t tc sc uw c1 c2 s ow hf tf) (fun r => r = nI (certN wn s (Lof hf c1) n)) := by
  refine Mi_of (by decide +kernel) (Nat.le_of_ble_eq_true rfl) ?_
  intro pr ev sx mi ag bl me cd Q ls S hP hK hD hZ hl ret
  obtain ⟨hx, hb, hml, hown, hts⟩ := id S
  have hown : sx.vm.findClass RX1 = some mi.cls := hown
  have hS : va_S (wIn (gW cI h0 h1 h2 h3 h4 h5 h6 p1 p2 n wn t tc sc uw c1 c2 s ow hf tf)) sx.heap sx.heap [] := va_S.rf
  have hl : lv_has ls 4 [(0, .ref h0), (1, .ref h1)] := hl
  refine lv_iconst (v := nI 0) hx hb dX1_countCertain_0 (by decide) ?_
  refine lv_istore_n (lv' := [(2, .int (nI 0)), (0, .ref h0), (1, .ref h1)]) hx hb dX1_countCertain_1 rfl hl (by decide) rfl (fun ls hl => ?_)
  refine lv_iconst (v := nI 0) hx hb dX1_countCertain_2 (by decide) ?_
  refine lv_istore_n (lv' := [(3, .int (nI 0)), (2, .int (nI 0)), (0, .ref h0), (1, .ref h1)]) hx hb dX1_countCertain_3 rfl hl (by decide) rfl (fun ls hl => ?_)
  have lp4 : ∀ (kf : Nat) (i : Nat) (a : Nat), n < i + kf → (i ≤ n) → (a = certN wn s (Lof hf c1) i) → ∀ (H : Heap) (locs : List Loc), va_P (dC, dI) vwCl (gW cI h0 h1 h2 h3 h4 h5 h6 p1 p2 n wn t tc sc uw c1 c2 s ow hf tf) H → va_D (wIn (gW cI h0 h1 h2 h3 h4 h5 h6 p1 p2 n wn t tc sc uw c1 c2 s ow hf tf)) (gW cI h0 h1 h2 h3 h4 h5 h6 p1 p2 n wn t tc sc uw c1 c2 s ow hf tf) → va_S (wIn (gW cI h0 h1 h2 h3 h4 h5 h6 p1 p2 n wn t tc sc uw c1 c2 s ow hf tf)) sx.heap H locs → ∀ ls : Array Slot, lv_has ls 4 [(3, .int (nI i)), (2, .int (nI a)), (0, .ref h0), (1, .ref h1)] → W pr l ev (rmB 3 71) sx mi ag bl me cd H locs 0 0 Q (F0 mi 4 ls []) := by
    intro kf
    induction kf with
    | zero => intro i a hkf hi ha; exact absurd hkf (by omega)
    | succ kf ih4 =>
      intro i a hkf hi ha H locs hP hD hS ls hl
      refine lv_iload_n hx hb dX1_countCertain_4 rfl (lv_at hl 0 rfl) ?_
      refine lv_aload_n hx hb dX1_countCertain_5 rfl (lv_at hl 2 rfl) ?_
      refine va_get (D := (dC, dI)) (ci := 1) (v := .int (nI n)) (C := RX1) (T := TX1) (N := 10) hx hb hts inX1 hown hK hP 0 rfl rfl 4 (by decide) (hts _ q_fl_X1_26) (fun _ h9 => h9) rfl dX1_countCertain_6 ?_
      refine icN_ge (tgt := 30) hx hb dX1_countCertain_9 (by decide) (by omega) (by omega) (fun c_9 => ?_) (fun c_9 => ?_)
      · refine lv_iload_n hx hb dX1_countCertain_30 rfl (lv_at hl 1 rfl) ?_
        exact ret _ (gW cI h0 h1 h2 h3 h4 h5 h6 p1 p2 n wn t tc sc uw c1 c2 s ow hf tf) _ _ _ _ dX1_countCertain_31 rfl ⟨rfl, by rw [ha, show i = n by omega]⟩ (List.Perm.refl _) hP hS
      · refine lv_aload_n hx hb dX1_countCertain_12 rfl (lv_at hl 2 rfl) ?_
        refine lv_aload_n hx hb dX1_countCertain_13 rfl (lv_at hl 3 rfl) ?_
        refine lv_iload_n hx hb dX1_countCertain_14 rfl (lv_at hl 0 rfl) ?_
        refine call_Vp (As := [.ref h1, .int (nI i)]) (rest := []) S (m_X1_isCertainBy h0 h1 h2 h3 h4 h5 h6 p1 p2 n wn t tc sc uw c1 c2 s ow hf tf i (by omega) hw hc1 hb1) g_X1_X1_isCertainBy hd_X1_isCertainBy ⟨Nat.le_of_ble_eq_true rfl, Nat.le_of_ble_eq_true rfl⟩ ⟨Nat.zero_le _, Nat.zero_le _⟩ hP hD hK hS hZ [0, 1, 2, 3, 4, 5, 6] rfl (by decide) 0 rfl rfl hl.1 rfl (Nat.le_of_ble_eq_true rfl) dX1_countCertain_15 (fun r H locs hq hP hS => ?_)
        obtain rfl := hq
        refine ifB_eq (tgt := 24) hx hb dX1_countCertain_18 (by decide) (fun c_18 => ?_) (fun c_18 => ?_)
        · refine lv_iinc (v := nI (i + 1)) (lv' := [(3, .int (nI (i + 1))), (2, .int (nI a)), (0, .ref h0), (1, .ref h1)]) hx hb dX1_countCertain_24 hl (k := 0) rfl (nI_add _ _) (by decide) rfl (fun ls hl => ?_)
          refine lv_goto (tgt := 4) hx hb dX1_countCertain_27 (by decide) ?_
          exact ih4 (i + 1) _ (by omega) (by omega) (by simp [certN, ha, c_18]) _ _ hP hD hS _ (lv_sub hl [0, 1, 2, 3] rfl)
        · refine lv_iinc (v := nI (a + 1)) (lv' := [(2, .int (nI (a + 1))), (3, .int (nI i)), (0, .ref h0), (1, .ref h1)]) hx hb dX1_countCertain_21 hl (k := 1) rfl (nI_add _ _) (by decide) rfl (fun ls hl => ?_)
          refine lv_iinc (v := nI (i + 1)) (lv' := [(3, .int (nI (i + 1))), (2, .int (nI (a + 1))), (0, .ref h0), (1, .ref h1)]) hx hb dX1_countCertain_24 hl (k := 1) rfl (nI_add _ _) (by decide) rfl (fun ls hl => ?_)
          refine lv_goto (tgt := 4) hx hb dX1_countCertain_27 (by decide) ?_
          exact ih4 (i + 1) _ (by omega) (by omega) (by simp [certN, ha, c_18]) _ _ hP hD hS _ (lv_sub hl [0, 1, 2, 3] rfl)
  exact lp4 (n + 1) 0 0 (by omega) (by omega) rfl _ _ hP hD hS _ (lv_sub hl [0, 1, 2, 3] rfl)

theorem note_0 {g f : Nat → Nat} {m i : Nat} (h : ∀ j, j < i → g (vw (f j) m) = 0) : ∀ j, j < i + 1 → upN g (vw (f i) m) 0 (vw (f j) m) = 0 := by
  intro j hj
  by_cases e : vw (f j) m = vw (f i) m
  · rw [e, upN_s]
  · rw [upN_n _ _ e]
    refine h j ?_
    rcases Nat.lt_or_ge j i with q | q
    · exact q
    · exact absurd (by rw [show j = i by omega]) e
theorem note_1 {g f : Nat → Nat} {m p i c : Nat} (hi : i < c) (h : ∀ j, j < c → g (vw (f j) m) = ocol m p (Lof f i) (vw (f j) m)) : ∀ j, j < c → upN g (vw (f i) m) (g (vw (f i) m) ||| 1 * 2 ^ qd (f i) p) (vw (f j) m) = ocol m p (Lof f (i + 1)) (vw (f j) m) := by
  intro j hj
  by_cases e : vw (f j) m = vw (f i) m
  · rw [e, upN_s, h i hi]
    exact ocol_t rfl
  · rw [upN_n _ _ e, h j hj]
    exact ocol_f (fun q => e q.symm)
set_option maxHeartbeats 4000000 in
set_option maxRecDepth 100000 in
theorem m_X1_noteOwnColours (h0 h1 h2 h3 h4 h5 h6 p1 p2 n wn t tc sc : Nat) (uw : Bool) (c1 c2 : Nat) (s ow hf tf : Nat → Nat) (j : Nat) (hj : j < 5) (hc1 : c1 ≤ 243) (hb1 : ∀ j, j < c1 → hf j < 1024) : Mv l yX1_noteOwnColours ws_X1_noteOwnColours 2 43 (dC, dI) (tyL cI cZ cS cW) [.ref h0, .ref h1, .int (nI j)] (gW cI h0 h1 h2 h3 h4 h5 h6 p1 p2 n wn t tc sc uw c1 c2 s ow hf tf) (fun u => ∃ g : Nat → Nat, u = gW cI h0 h1 h2 h3 h4 h5 h6 p1 p2 n wn t tc sc uw c1 c2 s g hf tf ∧ ∀ k, k < c1 → g (vw (hf k) (s j)) = ocol (s j) j (Lof hf c1) (vw (hf k) (s j))) := by
  refine Mv_of (by decide +kernel) (Nat.le_of_ble_eq_true rfl) ?_
  intro pr ev sx mi ag bl me cd Q ls S hP hK hD hZ hl ret
  obtain ⟨hx, hb, hml, hown, hts⟩ := id S
  have hown : sx.vm.findClass RX1 = some mi.cls := hown
  have hS : va_S (wIn (gW cI h0 h1 h2 h3 h4 h5 h6 p1 p2 n wn t tc sc uw c1 c2 s ow hf tf)) sx.heap sx.heap [] := va_S.rf
  have hl : lv_has ls 6 [(0, .ref h0), (1, .ref h1), (2, .int (nI j))] := hl
  refine lv_iconst (v := nI 0) hx hb dX1_noteOwnColours_0 (by decide) ?_
  refine lv_istore_n (lv' := [(3, .int (nI 0)), (0, .ref h0), (1, .ref h1), (2, .int (nI j))]) hx hb dX1_noteOwnColours_1 rfl hl (by decide) rfl (fun ls hl => ?_)
  have lp2 : ∀ (kf : Nat) (i : Nat) (g : Nat → Nat), c1 < i + kf → (i ≤ c1) → (∀ k, k < i → g (vw (hf k) (s j)) = 0) → ∀ (H : Heap) (locs : List Loc), va_P (dC, dI) vwCl (gW cI h0 h1 h2 h3 h4 h5 h6 p1 p2 n wn t tc sc uw c1 c2 s g hf tf) H → va_D (wIn (gW cI h0 h1 h2 h3 h4 h5 h6 p1 p2 n wn t tc sc uw c1 c2 s ow hf tf)) (gW cI h0 h1 h2 h3 h4 h5 h6 p1 p2 n wn t tc sc uw c1 c2 s g hf tf) → va_S (wIn (gW cI h0 h1 h2 h3 h4 h5 h6 p1 p2 n wn t tc sc uw c1 c2 s ow hf tf)) sx.heap H locs → ∀ ls : Array Slot, lv_has ls 6 [(3, .int (nI i)), (0, .ref h0), (1, .ref h1), (2, .int (nI j))] → W pr l ev (rmB 2 43) sx mi ag bl me cd H locs 0 0 Q (F0 mi 2 ls []) := by
    intro kf
    induction kf with
    | zero => intro i g hkf hi hg; exact absurd hkf (by omega)
    | succ kf ih2 =>
      intro i g hkf hi hg H locs hP hD hS ls hl
      refine lv_iload_n hx hb dX1_noteOwnColours_2 rfl (lv_at hl 0 rfl) ?_
      refine lv_aload_n hx hb dX1_noteOwnColours_3 rfl (lv_at hl 2 rfl) ?_
      refine call_Vp (As := []) (rest := [.int (nI i)]) S (m_X0_count h1 h5 c1 hf) g_X1_X0_count hd_X0_count ⟨Nat.le_of_ble_eq_true rfl, Nat.le_of_ble_eq_true rfl⟩ ⟨Nat.zero_le _, Nat.zero_le _⟩ hP hD hK hS hZ [1, 5] rfl (by decide) 0 rfl rfl hl.1 rfl (Nat.le_of_ble_eq_true rfl) dX1_noteOwnColours_4 (fun r H locs hq hP hS => ?_)
      obtain rfl := hq
      refine icN_ge (tgt := 31) hx hb dX1_noteOwnColours_7 (by decide) (by omega) (by omega) (fun c_7 => ?_) (fun c_7 => ?_)
      · refine lv_iconst (v := nI 0) hx hb dX1_noteOwnColours_31 (by decide) ?_
        refine lv_istore_n (lv' := [(3, .int (nI 0)), (0, .ref h0), (1, .ref h1), (2, .int (nI j))]) hx hb dX1_noteOwnColours_32 rfl hl (by decide) rfl (fun ls hl => ?_)
        have lp33 : ∀ (kf : Nat) (i2 : Nat) (g2 : Nat → Nat), c1 < i2 + kf → (i2 ≤ c1) → (∀ k, k < c1 → g2 (vw (hf k) (s j)) = ocol (s j) j (Lof hf i2) (vw (hf k) (s j))) → ∀ (H : Heap) (locs : List Loc), va_P (dC, dI) vwCl (gW cI h0 h1 h2 h3 h4 h5 h6 p1 p2 n wn t tc sc uw c1 c2 s g2 hf tf) H → va_D (wIn (gW cI h0 h1 h2 h3 h4 h5 h6 p1 p2 n wn t tc sc uw c1 c2 s ow hf tf)) (gW cI h0 h1 h2 h3 h4 h5 h6 p1 p2 n wn t tc sc uw c1 c2 s g2 hf tf) → va_S (wIn (gW cI h0 h1 h2 h3 h4 h5 h6 p1 p2 n wn t tc sc uw c1 c2 s ow hf tf)) sx.heap H locs → ∀ ls : Array Slot, lv_has ls 6 [(3, .int (nI i2)), (0, .ref h0), (1, .ref h1), (2, .int (nI j))] → W pr l ev (rmB 2 43) sx mi ag bl me cd H locs 0 0 Q (F0 mi 33 ls []) := by
          intro kf
          induction kf with
          | zero => intro i2 g2 hkf hi2 hg2; exact absurd hkf (by omega)
          | succ kf ih33 =>
            intro i2 g2 hkf hi2 hg2 H locs hP hD hS ls hl
            refine lv_iload_n hx hb dX1_noteOwnColours_33 rfl (lv_at hl 0 rfl) ?_
            refine lv_aload_n hx hb dX1_noteOwnColours_34 rfl (lv_at hl 2 rfl) ?_
            refine call_Vp (As := []) (rest := [.int (nI i2)]) S (m_X0_count h1 h5 c1 hf) g_X1_X0_count hd_X0_count ⟨Nat.le_of_ble_eq_true rfl, Nat.le_of_ble_eq_true rfl⟩ ⟨Nat.zero_le _, Nat.zero_le _⟩ hP hD hK hS hZ [1, 5] rfl (by decide) 0 rfl rfl hl.1 rfl (Nat.le_of_ble_eq_true rfl) dX1_noteOwnColours_35 (fun r H locs hq hP hS => ?_)
            obtain rfl := hq
            refine icN_ge (tgt := 84) hx hb dX1_noteOwnColours_38 (by decide) (by omega) (by omega) (fun c_38 => ?_) (fun c_38 => ?_)
            · exact ret (gW cI h0 h1 h2 h3 h4 h5 h6 p1 p2 n wn t tc sc uw c1 c2 s g2 hf tf) _ _ _ _ dX1_noteOwnColours_84 ⟨g2, rfl, fun k hk => by rw [hg2 k hk, show i2 = c1 by omega]⟩ (List.Perm.refl _) hP hS
            · refine lv_aload_n hx hb dX1_noteOwnColours_41 rfl (lv_at hl 2 rfl) ?_
              refine lv_iload_n hx hb dX1_noteOwnColours_42 rfl (lv_at hl 0 rfl) ?_
              refine call_Vp (As := [.int (nI i2)]) (rest := []) S (m_X0_at h1 h5 c1 hf i2 (by omega)) g_X1_X0_at hd_X0_at ⟨Nat.le_of_ble_eq_true rfl, Nat.le_of_ble_eq_true rfl⟩ ⟨Nat.zero_le _, Nat.zero_le _⟩ hP hD hK hS hZ [1, 5] rfl (by decide) 0 rfl rfl hl.1 rfl (Nat.le_of_ble_eq_true rfl) dX1_noteOwnColours_43 (fun r H locs hq hP hS => ?_)
              obtain rfl := hq
              refine lv_istore (lv' := [(4, .int (nI (hf i2))), (3, .int (nI i2)), (0, .ref h0), (1, .ref h1), (2, .int (nI j))]) hx hb dX1_noteOwnColours_46 hl (by decide) rfl (fun ls hl => ?_)
              refine lv_aload_n hx hb dX1_noteOwnColours_48 rfl (lv_at hl 2 rfl) ?_
              refine lv_iload hx hb dX1_noteOwnColours_49 (lv_at hl 0 rfl) ?_
              refine lv_iload_n hx hb dX1_noteOwnColours_51 rfl (lv_at hl 4 rfl) ?_
              refine call_Vp (As := [.int (nI (hf i2)), .int (nI j)]) (rest := []) S (m_X1_viewOf h0 h1 h2 h3 h4 h5 h6 p1 p2 n wn t tc sc uw c1 c2 s g2 hf tf (hf i2) j (by omega)) g_X1_X1_viewOf hd_X1_viewOf ⟨Nat.le_of_ble_eq_true rfl, Nat.le_of_ble_eq_true rfl⟩ ⟨Nat.zero_le _, Nat.zero_le _⟩ hP hD hK hS hZ [0, 1, 2, 3, 4, 5, 6] rfl (by decide) 0 rfl rfl hl.1 rfl (Nat.le_of_ble_eq_true rfl) dX1_noteOwnColours_52 (fun r H locs hq hP hS => ?_)
              obtain rfl := hq
              refine lv_istore (lv' := [(5, .int (nI (vw (hf i2) (s j)))), (4, .int (nI (hf i2))), (3, .int (nI i2)), (0, .ref h0), (1, .ref h1), (2, .int (nI j))]) hx hb dX1_noteOwnColours_55 hl (by decide) rfl (fun ls hl => ?_)
              refine lv_aload_n hx hb dX1_noteOwnColours_57 rfl (lv_at hl 3 rfl) ?_
              refine lv_iload hx hb dX1_noteOwnColours_58 (lv_at hl 0 rfl) ?_
              refine lv_aload_n hx hb dX1_noteOwnColours_60 rfl (lv_at hl 3 rfl) ?_
              refine lv_iload hx hb dX1_noteOwnColours_61 (lv_at hl 0 rfl) ?_
              refine call_Vp (As := [.int (nI (vw (hf i2) (s j)))]) (rest := [.int (nI (vw (hf i2) (s j))), .ref h0]) S (m_X1_ownColours h0 h1 h2 h3 h4 h5 h6 p1 p2 n wn t tc sc uw c1 c2 s g2 hf tf (vw (hf i2) (s j)) (vw_lt _ _)) g_X1_X1_ownColours hd_X1_ownColours ⟨Nat.le_of_ble_eq_true rfl, Nat.le_of_ble_eq_true rfl⟩ ⟨Nat.zero_le _, Nat.zero_le _⟩ hP hD hK hS hZ [0, 1, 2, 3, 4, 5, 6] rfl (by decide) 0 rfl rfl hl.1 rfl (Nat.le_of_ble_eq_true rfl) dX1_noteOwnColours_63 (fun r H locs hq hP hS => ?_)
              obtain rfl := hq
              refine lv_iconst (v := nI 1) hx hb dX1_noteOwnColours_66 (by decide) ?_
              refine lv_iload hx hb dX1_noteOwnColours_67 (lv_at hl 1 rfl) ?_
              refine lv_iload_n hx hb dX1_noteOwnColours_69 rfl (lv_at hl 5 rfl) ?_
              refine call_Sp (As := [.int (nI (hf i2)), .int (nI j)]) (rest := [.int (nI 1), .int (nI (g2 (vw (hf i2) (s j)))), .int (nI (vw (hf i2) (s j))), .ref h0]) S (m_X1_colourIn (hf i2) j (hb1 _ (by omega)) (by omega)) g_X1_X1_colourIn hd_X1_colourIn ⟨Nat.le_of_ble_eq_true rfl, Nat.le_of_ble_eq_true rfl⟩ ⟨Nat.zero_le _, Nat.zero_le _⟩ hP hD hK hS hZ [] rfl (by decide) hl.1 rfl (Nat.le_of_ble_eq_true rfl) dX1_noteOwnColours_70 (fun r H locs hq hP hS => ?_)
              obtain rfl := hq
              refine lv_ishl hx hb dX1_noteOwnColours_73 ?_
              refine W_i (y := nI (1 * 2 ^ (qd (hf i2) j))) (nI_shl _ (by have := qd_lt (hf i2) j; omega)) ?_
              refine lv_ior hx hb dX1_noteOwnColours_74 ?_
              refine W_i (y := nI ((g2 (vw (hf i2) (s j))) ||| (1 * 2 ^ (qd (hf i2) j)))) (nI_or _ _) ?_
              refine call_Vv (As := [.int (nI (vw (hf i2) (s j))), .int (nI ((g2 (vw (hf i2) (s j))) ||| (1 * 2 ^ (qd (hf i2) j))))]) (wr := []) (rest := []) S (m_X1_setOwnColours h0 h1 h2 h3 h4 h5 h6 p1 p2 n wn t tc sc uw c1 c2 s g2 hf tf (vw (hf i2) (s j)) ((g2 (vw (hf i2) (s j))) ||| (1 * 2 ^ (qd (hf i2) j))) (vw_lt _ _)) g_X1_X1_setOwnColours hd_X1_setOwnColours ⟨Nat.le_of_ble_eq_true rfl, Nat.le_of_ble_eq_true rfl⟩ ⟨Nat.zero_le _, Nat.zero_le _⟩ hP hD hK hS hZ [0, 1, 2, 3, 4, 5, 6] [] rfl rfl (by decide) 0 rfl rfl hl.1 rfl (Nat.le_of_ble_eq_true rfl) dX1_noteOwnColours_75 (fun u H locs hq hP hD hS => ?_)
              obtain rfl := hq
              have hP : va_P (dC, dI) vwCl (gW cI h0 h1 h2 h3 h4 h5 h6 p1 p2 n wn t tc sc uw c1 c2 s (upN g2 (vw (hf i2) (s j)) ((g2 (vw (hf i2) (s j))) ||| (1 * 2 ^ (qd (hf i2) j)))) hf tf) H := hP
              have hD : va_D (wIn (gW cI h0 h1 h2 h3 h4 h5 h6 p1 p2 n wn t tc sc uw c1 c2 s ow hf tf)) (gW cI h0 h1 h2 h3 h4 h5 h6 p1 p2 n wn t tc sc uw c1 c2 s (upN g2 (vw (hf i2) (s j)) ((g2 (vw (hf i2) (s j))) ||| (1 * 2 ^ (qd (hf i2) j)))) hf tf) := hD
              refine lv_iinc (v := nI (i2 + 1)) (lv' := [(3, .int (nI (i2 + 1))), (5, .int (nI (vw (hf i2) (s j)))), (4, .int (nI (hf i2))), (0, .ref h0), (1, .ref h1), (2, .int (nI j))]) hx hb dX1_noteOwnColours_78 hl (k := 2) rfl (nI_add _ _) (by decide) rfl (fun ls hl => ?_)
              refine lv_goto (tgt := 33) hx hb dX1_noteOwnColours_81 (by decide) ?_
              exact ih33 (i2 + 1) _ (by omega) (by omega) (note_1 (by omega) hg2) _ _ hP hD hS _ (lv_sub hl [0, 3, 4, 5] rfl)
        exact lp33 (c1 + 1) 0 g (by omega) (by omega) (fun k hk => hg k (by omega)) _ _ hP hD hS _ (lv_sub hl [0, 1, 2, 3] rfl)
      · refine lv_aload_n hx hb dX1_noteOwnColours_10 rfl (lv_at hl 1 rfl) ?_
        refine lv_aload_n hx hb dX1_noteOwnColours_11 rfl (lv_at hl 1 rfl) ?_
        refine lv_aload_n hx hb dX1_noteOwnColours_12 rfl (lv_at hl 2 rfl) ?_
        refine lv_iload_n hx hb dX1_noteOwnColours_13 rfl (lv_at hl 0 rfl) ?_
        refine call_Vp (As := [.int (nI i)]) (rest := [.ref h0, .ref h0]) S (m_X0_at h1 h5 c1 hf i (by omega)) g_X1_X0_at hd_X0_at ⟨Nat.le_of_ble_eq_true rfl, Nat.le_of_ble_eq_true rfl⟩ ⟨Nat.zero_le _, Nat.zero_le _⟩ hP hD hK hS hZ [1, 5] rfl (by decide) 0 rfl rfl hl.1 rfl (Nat.le_of_ble_eq_true rfl) dX1_noteOwnColours_14 (fun r H locs hq hP hS => ?_)
        obtain rfl := hq
        refine lv_iload_n hx hb dX1_noteOwnColours_17 rfl (lv_at hl 3 rfl) ?_
        refine call_Vp (As := [.int (nI (hf i)), .int (nI j)]) (rest := [.ref h0]) S (m_X1_viewOf h0 h1 h2 h3 h4 h5 h6 p1 p2 n wn t tc sc uw c1 c2 s g hf tf (hf i) j (by omega)) g_X1_X1_viewOf hd_X1_viewOf ⟨Nat.le_of_ble_eq_true rfl, Nat.le_of_ble_eq_true rfl⟩ ⟨Nat.zero_le _, Nat.zero_le _⟩ hP hD hK hS hZ [0, 1, 2, 3, 4, 5, 6] rfl (by decide) 0 rfl rfl hl.1 rfl (Nat.le_of_ble_eq_true rfl) dX1_noteOwnColours_18 (fun r H locs hq hP hS => ?_)
        obtain rfl := hq
        refine lv_iconst (v := nI 0) hx hb dX1_noteOwnColours_21 (by decide) ?_
        refine call_Vv (As := [.int (nI (vw (hf i) (s j))), .int (nI 0)]) (wr := []) (rest := []) S (m_X1_setOwnColours h0 h1 h2 h3 h4 h5 h6 p1 p2 n wn t tc sc uw c1 c2 s g hf tf (vw (hf i) (s j)) 0 (vw_lt _ _)) g_X1_X1_setOwnColours hd_X1_setOwnColours ⟨Nat.le_of_ble_eq_true rfl, Nat.le_of_ble_eq_true rfl⟩ ⟨Nat.zero_le _, Nat.zero_le _⟩ hP hD hK hS hZ [0, 1, 2, 3, 4, 5, 6] [] rfl rfl (by decide) 0 rfl rfl hl.1 rfl (Nat.le_of_ble_eq_true rfl) dX1_noteOwnColours_22 (fun u H locs hq hP hD hS => ?_)
        obtain rfl := hq
        have hP : va_P (dC, dI) vwCl (gW cI h0 h1 h2 h3 h4 h5 h6 p1 p2 n wn t tc sc uw c1 c2 s (upN g (vw (hf i) (s j)) 0) hf tf) H := hP
        have hD : va_D (wIn (gW cI h0 h1 h2 h3 h4 h5 h6 p1 p2 n wn t tc sc uw c1 c2 s ow hf tf)) (gW cI h0 h1 h2 h3 h4 h5 h6 p1 p2 n wn t tc sc uw c1 c2 s (upN g (vw (hf i) (s j)) 0) hf tf) := hD
        refine lv_iinc (v := nI (i + 1)) (lv' := [(3, .int (nI (i + 1))), (0, .ref h0), (1, .ref h1), (2, .int (nI j))]) hx hb dX1_noteOwnColours_25 hl (k := 0) rfl (nI_add _ _) (by decide) rfl (fun ls hl => ?_)
        refine lv_goto (tgt := 2) hx hb dX1_noteOwnColours_28 (by decide) ?_
        exact ih2 (i + 1) _ (by omega) (by omega) (note_0 hg) _ _ hP hD hS _ (lv_sub hl [0, 1, 2, 3] rfl)
  exact lp2 (c1 + 1) 0 ow (by omega) (by omega) (fun k hk => absurd hk (by omega)) _ _ hP hD hS _ (lv_sub hl [0, 1, 2, 3] rfl)

set_option maxHeartbeats 4000000 in
set_option maxRecDepth 100000 in
theorem m_X1_wouldBeCertain (h0 h1 h2 h3 h4 h5 h6 p1 p2 n wn t tc sc : Nat) (uw : Bool) (c1 c2 : Nat) (s ow hf tf : Nat → Nat) (x j : Nat) (hj : j < 5) (ho : ow (vw x (s j)) < 16) : Mp l yX1_wouldBeCertain ws_X1_wouldBeCertain 2 43 (dC, dI) (tyL cI cZ cS cW) [.ref h0, .int (nI x), .int (nI j)] (gW cI h0 h1 h2 h3 h4 h5 h6 p1 p2 n wn t tc sc uw c1 c2 s ow hf tf) (fun r => r = bI (one1 (ow (vw x (s j))))) := by
  refine Mi_of (by decide +kernel) (Nat.le_of_ble_eq_true rfl) ?_
  intro pr ev sx mi ag bl me cd Q ls S hP hK hD hZ hl ret
  obtain ⟨hx, hb, hml, hown, hts⟩ := id S
  have hown : sx.vm.findClass RX1 = some mi.cls := hown
  have hS : va_S (wIn (gW cI h0 h1 h2 h3 h4 h5 h6 p1 p2 n wn t tc sc uw c1 c2 s ow hf tf)) sx.heap sx.heap [] := va_S.rf
  have hl : lv_has ls 3 [(0, .ref h0), (1, .int (nI x)), (2, .int (nI j))] := hl
  refine lv_aload_n hx hb dX1_wouldBeCertain_0 rfl (lv_at hl 0 rfl) ?_
  refine lv_aload_n hx hb dX1_wouldBeCertain_1 rfl (lv_at hl 0 rfl) ?_
  refine lv_iload_n hx hb dX1_wouldBeCertain_2 rfl (lv_at hl 1 rfl) ?_
  refine lv_iload_n hx hb dX1_wouldBeCertain_3 rfl (lv_at hl 2 rfl) ?_
  refine call_Vp (As := [.int (nI x), .int (nI j)]) (rest := [.ref h0]) S (m_X1_viewOf h0 h1 h2 h3 h4 h5 h6 p1 p2 n wn t tc sc uw c1 c2 s ow hf tf x j (by omega)) g_X1_X1_viewOf hd_X1_viewOf ⟨Nat.le_of_ble_eq_true rfl, Nat.le_of_ble_eq_true rfl⟩ ⟨Nat.zero_le _, Nat.zero_le _⟩ hP hD hK hS hZ [0, 1, 2, 3, 4, 5, 6] rfl (by decide) 0 rfl rfl hl.1 rfl (Nat.le_of_ble_eq_true rfl) dX1_wouldBeCertain_4 (fun r H locs hq hP hS => ?_)
  obtain rfl := hq
  refine call_Vp (As := [.int (nI (vw x (s j)))]) (rest := []) S (m_X1_ownColours h0 h1 h2 h3 h4 h5 h6 p1 p2 n wn t tc sc uw c1 c2 s ow hf tf (vw x (s j)) (vw_lt _ _)) g_X1_X1_ownColours hd_X1_ownColours ⟨Nat.le_of_ble_eq_true rfl, Nat.le_of_ble_eq_true rfl⟩ ⟨Nat.zero_le _, Nat.zero_le _⟩ hP hD hK hS hZ [0, 1, 2, 3, 4, 5, 6] rfl (by decide) 0 rfl rfl hl.1 rfl (Nat.le_of_ble_eq_true rfl) dX1_wouldBeCertain_7 (fun r H locs hq hP hS => ?_)
  obtain rfl := hq
  refine call_Sp (As := [.int (nI (ow (vw x (s j))))]) (rest := []) S (m_X1_isOneColour (ow (vw x (s j))) ho) g_X1_X1_isOneColour hd_X1_isOneColour ⟨Nat.le_of_ble_eq_true rfl, Nat.le_of_ble_eq_true rfl⟩ ⟨Nat.zero_le _, Nat.zero_le _⟩ hP hD hK hS hZ [] rfl (by decide) hl.1 rfl (Nat.le_of_ble_eq_true rfl) dX1_wouldBeCertain_10 (fun r H locs hq hP hS => ?_)
  obtain rfl := hq
  exact ret _ (gW cI h0 h1 h2 h3 h4 h5 h6 p1 p2 n wn t tc sc uw c1 c2 s ow hf tf) _ _ _ _ dX1_wouldBeCertain_13 (bI_nar _) ⟨rfl, rfl⟩ (List.Perm.refl _) hP hS

set_option maxHeartbeats 4000000 in
set_option maxRecDepth 100000 in
theorem m_X1_playerAfter (h0 h1 h2 h3 h4 h5 h6 p1 p2 n wn t tc sc : Nat) (uw : Bool) (c1 c2 : Nat) (s ow hf tf : Nat → Nat) (j : Nat) (hn : n ≤ 5) (hj : j < 5) : Mp l yX1_playerAfter ws_X1_playerAfter 0 0 (dC, dI) (tyL cI cZ cS cW) [.ref h0, .int (nI j)] (gW cI h0 h1 h2 h3 h4 h5 h6 p1 p2 n wn t tc sc uw c1 c2 s ow hf tf) (fun r => r = nI (aftN n j)) := by
  refine Mi_of (by decide +kernel) (Nat.le_of_ble_eq_true rfl) ?_
  intro pr ev sx mi ag bl me cd Q ls S hP hK hD hZ hl ret
  obtain ⟨hx, hb, hml, hown, hts⟩ := id S
  have hown : sx.vm.findClass RX1 = some mi.cls := hown
  have hS : va_S (wIn (gW cI h0 h1 h2 h3 h4 h5 h6 p1 p2 n wn t tc sc uw c1 c2 s ow hf tf)) sx.heap sx.heap [] := va_S.rf
  have hl : lv_has ls 2 [(0, .ref h0), (1, .int (nI j))] := hl
  refine lv_iload_n hx hb dX1_playerAfter_0 rfl (lv_at hl 1 rfl) ?_
  refine lv_iconst (v := nI 1) hx hb dX1_playerAfter_1 (by decide) ?_
  refine lv_iadd hx hb dX1_playerAfter_2 ?_
  refine W_i (y := nI (j + 1)) (nI_add _ _) ?_
  refine lv_aload_n hx hb dX1_playerAfter_3 rfl (lv_at hl 0 rfl) ?_
  refine va_get (D := (dC, dI)) (ci := 1) (v := .int (nI n)) (C := RX1) (T := TX1) (N := 10) hx hb hts inX1 hown hK hP 0 rfl rfl 4 (by decide) (hts _ q_fl_X1_26) (fun _ h9 => h9) rfl dX1_playerAfter_4 ?_
  refine icN_ge (tgt := 16) hx hb dX1_playerAfter_7 (by decide) (by omega) (by omega) (fun c_7 => ?_) (fun c_7 => ?_)
  · refine lv_iconst (v := nI 0) hx hb dX1_playerAfter_16 (by decide) ?_
    exact ret _ (gW cI h0 h1 h2 h3 h4 h5 h6 p1 p2 n wn t tc sc uw c1 c2 s ow hf tf) _ _ _ _ dX1_playerAfter_17 rfl ⟨rfl, by rw [aftN, if_neg (by omega)]⟩ (List.Perm.refl _) hP hS
  · refine lv_iload_n hx hb dX1_playerAfter_10 rfl (lv_at hl 1 rfl) ?_
    refine lv_iconst (v := nI 1) hx hb dX1_playerAfter_11 (by decide) ?_
    refine lv_iadd hx hb dX1_playerAfter_12 ?_
    refine W_i (y := nI (j + 1)) (nI_add _ _) ?_
    refine lv_goto (tgt := 17) hx hb dX1_playerAfter_13 (by decide) ?_
    exact ret _ (gW cI h0 h1 h2 h3 h4 h5 h6 p1 p2 n wn t tc sc uw c1 c2 s ow hf tf) _ _ _ _ dX1_playerAfter_17 rfl ⟨rfl, by rw [aftN, if_pos (by omega)]⟩ (List.Perm.refl _) hP hS

set_option maxHeartbeats 4000000 in
set_option maxRecDepth 100000 in
theorem m_X1_keepWithHats (h0 h1 h2 h3 h4 h5 h6 p1 p2 n wn t tc sc : Nat) (uw : Bool) (c1 c2 : Nat) (s ow hf tf : Nat → Nat) (co lo hi2 : Nat) (hn : n ≤ 5) (hco : co < 3) (hlo : lo < 6) (hhi : hi2 < 6) (hc1 : c1 ≤ 243) (hb1 : ∀ j, j < c1 → hf j < 1024) : Mv l yX1_keepWithHats ws_X1_keepWithHats 2 45 (dC, dI) (tyL cI cZ cS cW) [.ref h0, .ref h1, .int (nI co), .int (nI lo), .int (nI hi2)] (gW cI h0 h1 h2 h3 h4 h5 h6 p1 p2 n wn t tc sc uw c1 c2 s ow hf tf) (fun u => ∃ (k : Nat) (g : Nat → Nat), u = gW cI h0 h1 h2 h3 h4 h5 h6 p1 p2 n wn t tc sc uw k c2 s ow g tf ∧ Lof g k = (Lof hf c1).filter (fun x => decide (lo ≤ hatsN n x co) && decide (hatsN n x co ≤ hi2))) := by
  refine Mv_of (by decide +kernel) (Nat.le_of_ble_eq_true rfl) ?_
  intro pr ev sx mi ag bl me cd Q ls S hP hK hD hZ hl ret
  obtain ⟨hx, hb, hml, hown, hts⟩ := id S
  have hown : sx.vm.findClass RX1 = some mi.cls := hown
  have hS : va_S (wIn (gW cI h0 h1 h2 h3 h4 h5 h6 p1 p2 n wn t tc sc uw c1 c2 s ow hf tf)) sx.heap sx.heap [] := va_S.rf
  have hl : lv_has ls 9 [(0, .ref h0), (1, .ref h1), (2, .int (nI co)), (3, .int (nI lo)), (4, .int (nI hi2))] := hl
  refine lv_aload_n hx hb dX1_keepWithHats_0 rfl (lv_at hl 1 rfl) ?_
  refine call_Vp (As := []) (rest := []) S (m_X0_count h1 h5 c1 hf) g_X1_X0_count hd_X0_count ⟨Nat.le_of_ble_eq_true rfl, Nat.le_of_ble_eq_true rfl⟩ ⟨Nat.zero_le _, Nat.zero_le _⟩ hP hD hK hS hZ [1, 5] rfl (by decide) 0 rfl rfl hl.1 rfl (Nat.le_of_ble_eq_true rfl) dX1_keepWithHats_1 (fun r H locs hq hP hS => ?_)
  obtain rfl := hq
  refine lv_istore (lv' := [(5, .int (nI c1)), (0, .ref h0), (1, .ref h1), (2, .int (nI co)), (3, .int (nI lo)), (4, .int (nI hi2))]) hx hb dX1_keepWithHats_4 hl (by decide) rfl (fun ls hl => ?_)
  refine lv_aload_n hx hb dX1_keepWithHats_6 rfl (lv_at hl 2 rfl) ?_
  refine call_Vv (As := []) (wr := [(h0, .inr (1, [.ref p1, .ref p2, .ref h3, .ref h4, .int (nI n), .int (nI wn), .int (nI t), .int (nI tc), .int (nI sc), .int (bI uw)])), (h2, .inr (0, [.ref h6, .int (nI c2)])), (h3, .inl (cI, 5, .inl (fun k => nI (s k)))), (h4, .inl (cI, 1024, .inl (fun k => nI (ow k)))), (h6, .inl (cI, 243, .inl (fun k => nI (tf k))))]) (rest := []) S (m_X0_clear h1 h5 c1 hf) g_X1_X0_clear hd_X0_clear ⟨Nat.le_of_ble_eq_true rfl, Nat.le_of_ble_eq_true rfl⟩ ⟨Nat.zero_le _, Nat.zero_le _⟩ hP hD hK hS hZ [1, 5] [0, 2, 3, 4, 6] rfl rfl (by decide) 0 rfl rfl hl.1 rfl (Nat.le_of_ble_eq_true rfl) dX1_keepWithHats_7 (fun u H locs hq hP hD hS => ?_)
  obtain rfl := hq
  have hP := hP.sub (ws' := gW cI h0 h1 h2 h3 h4 h5 h6 p1 p2 n wn t tc sc uw 0 c2 s ow hf tf) [0, 5, 1, 2, 3, 6, 4] rfl
  have hD := hD.sub (ws' := gW cI h0 h1 h2 h3 h4 h5 h6 p1 p2 n wn t tc sc uw 0 c2 s ow hf tf) [0, 5, 1, 2, 3, 6, 4] (by decide) rfl
  refine lv_iconst (v := nI 0) hx hb dX1_keepWithHats_10 (by decide) ?_
  refine lv_istore (lv' := [(6, .int (nI 0)), (5, .int (nI c1)), (0, .ref h0), (1, .ref h1), (2, .int (nI co)), (3, .int (nI lo)), (4, .int (nI hi2))]) hx hb dX1_keepWithHats_11 hl (by decide) rfl (fun ls hl => ?_)
  have lp13 : ∀ (kf : Nat) (i : Nat) (k : Nat) (g : Nat → Nat), c1 < i + kf → (i ≤ c1) → (k ≤ i) → (∀ j, k ≤ j → g j = hf j) → (Lof g k = (Lof hf i).filter (fun x => decide (lo ≤ hatsN n x co) && decide (hatsN n x co ≤ hi2))) → ∀ (H : Heap) (locs : List Loc), va_P (dC, dI) vwCl (gW cI h0 h1 h2 h3 h4 h5 h6 p1 p2 n wn t tc sc uw k c2 s ow g tf) H → va_D (wIn (gW cI h0 h1 h2 h3 h4 h5 h6 p1 p2 n wn t tc sc uw c1 c2 s ow hf tf)) (gW cI h0 h1 h2 h3 h4 h5 h6 p1 p2 n wn t tc sc uw k c2 s ow g tf) → va_S (wIn (gW cI h0 h1 h2 h3 h4 h5 h6 p1 p2 n wn t tc sc uw c1 c2 s ow hf tf)) sx.heap H locs → ∀ ls : Array Slot, lv_has ls 9 [(6, .int (nI i)), (5, .int (nI c1)), (0, .ref h0), (1, .ref h1), (2, .int (nI co)), (3, .int (nI lo)), (4, .int (nI hi2))] → W pr l ev (rmB 2 45) sx mi ag bl me cd H locs 0 0 Q (F0 mi 13 ls []) := by
    intro kf
    induction kf with
    | zero => intro i k g hkf hi hk hg hL; exact absurd hkf (by omega)
    | succ kf ih13 =>
      intro i k g hkf hi hk hg hL H locs hP hD hS ls hl
      refine lv_iload hx hb dX1_keepWithHats_13 (lv_at hl 0 rfl) ?_
      refine lv_iload hx hb dX1_keepWithHats_15 (lv_at hl 1 rfl) ?_
      refine icN_ge (tgt := 62) hx hb dX1_keepWithHats_17 (by decide) (by omega) (by omega) (fun c_17 => ?_) (fun c_17 => ?_)
      · exact ret (gW cI h0 h1 h2 h3 h4 h5 h6 p1 p2 n wn t tc sc uw k c2 s ow g tf) _ _ _ _ dX1_keepWithHats_62 ⟨k, g, rfl, by rw [hL, show i = c1 by omega]⟩ (List.Perm.refl _) hP hS
      · refine lv_aload_n hx hb dX1_keepWithHats_20 rfl (lv_at hl 3 rfl) ?_
        refine lv_iload hx hb dX1_keepWithHats_21 (lv_at hl 0 rfl) ?_
        refine call_Vp (As := [.int (nI i)]) (rest := []) S (m_X0_at h1 h5 k g i (by omega)) g_X1_X0_at hd_X0_at ⟨Nat.le_of_ble_eq_true rfl, Nat.le_of_ble_eq_true rfl⟩ ⟨Nat.zero_le _, Nat.zero_le _⟩ hP hD hK hS hZ [1, 5] rfl (by decide) 0 rfl rfl hl.1 rfl (Nat.le_of_ble_eq_true rfl) dX1_keepWithHats_23 (fun r H locs hq hP hS => ?_)
        obtain rfl := hq
        refine lv_istore (lv' := [(7, .int (nI (g i))), (6, .int (nI i)), (5, .int (nI c1)), (0, .ref h0), (1, .ref h1), (2, .int (nI co)), (3, .int (nI lo)), (4, .int (nI hi2))]) hx hb dX1_keepWithHats_26 hl (by decide) rfl (fun ls hl => ?_)
        refine lv_aload_n hx hb dX1_keepWithHats_28 rfl (lv_at hl 3 rfl) ?_
        refine lv_iload hx hb dX1_keepWithHats_29 (lv_at hl 0 rfl) ?_
        refine lv_iload_n hx hb dX1_keepWithHats_31 rfl (lv_at hl 5 rfl) ?_
        refine call_Vp (As := [.int (nI (g i)), .int (nI co)]) (rest := []) S (m_X1_hatsIn h0 h1 h2 h3 h4 h5 h6 p1 p2 n wn t tc sc uw k c2 s ow g tf (g i) co hn (by rw [hg i (by omega)]; exact hb1 _ (by omega)) (by omega)) g_X1_X1_hatsIn hd_X1_hatsIn ⟨Nat.le_of_ble_eq_true rfl, Nat.le_of_ble_eq_true rfl⟩ ⟨Nat.zero_le _, Nat.zero_le _⟩ hP hD hK hS hZ [0, 1, 2, 3, 4, 5, 6] rfl (by decide) 0 rfl rfl hl.1 rfl (Nat.le_of_ble_eq_true rfl) dX1_keepWithHats_32 (fun r H locs hq hP hS => ?_)
        obtain rfl := hq
        refine lv_istore (lv' := [(8, .int (nI (hatsN n (g i) co))), (7, .int (nI (g i))), (6, .int (nI i)), (5, .int (nI c1)), (0, .ref h0), (1, .ref h1), (2, .int (nI co)), (3, .int (nI lo)), (4, .int (nI hi2))]) hx hb dX1_keepWithHats_35 hl (by decide) rfl (fun ls hl => ?_)
        refine lv_iload hx hb dX1_keepWithHats_37 (lv_at hl 0 rfl) ?_
        refine lv_iload_n hx hb dX1_keepWithHats_39 rfl (lv_at hl 7 rfl) ?_
        refine icN_lt (tgt := 56) hx hb dX1_keepWithHats_40 (by decide) (by have := hatsN_le n (g i) co; omega) (by omega) (fun c_40 => ?_) (fun c_40 => ?_)
        · refine lv_iinc (v := nI (i + 1)) (lv' := [(6, .int (nI (i + 1))), (8, .int (nI (hatsN n (g i) co))), (7, .int (nI (g i))), (5, .int (nI c1)), (0, .ref h0), (1, .ref h1), (2, .int (nI co)), (3, .int (nI lo)), (4, .int (nI hi2))]) hx hb dX1_keepWithHats_56 hl (k := 2) rfl (nI_add _ _) (by decide) rfl (fun ls hl => ?_)
          refine lv_goto (tgt := 13) hx hb dX1_keepWithHats_59 (by decide) ?_
          exact ih13 (i + 1) _ _ (by omega) (by omega) (by omega) (fun j hj => hg j (by omega)) (flt_f (hg _ (by omega)) (by simp; omega) hL) _ _ hP hD hS _ (lv_sub hl [0, 3, 4, 5, 6, 7, 8] rfl)
        · refine lv_iload hx hb dX1_keepWithHats_43 (lv_at hl 0 rfl) ?_
          refine lv_iload hx hb dX1_keepWithHats_45 (lv_at hl 8 rfl) ?_
          refine icN_gt (tgt := 56) hx hb dX1_keepWithHats_47 (by decide) (by have := hatsN_le n (g i) co; omega) (by omega) (fun c_47 => ?_) (fun c_47 => ?_)
          · refine lv_iinc (v := nI (i + 1)) (lv' := [(6, .int (nI (i + 1))), (8, .int (nI (hatsN n (g i) co))), (7, .int (nI (g i))), (5, .int (nI c1)), (0, .ref h0), (1, .ref h1), (2, .int (nI co)), (3, .int (nI lo)), (4, .int (nI hi2))]) hx hb dX1_keepWithHats_56 hl (k := 2) rfl (nI_add _ _) (by decide) rfl (fun ls hl => ?_)
            refine lv_goto (tgt := 13) hx hb dX1_keepWithHats_59 (by decide) ?_
            exact ih13 (i + 1) _ _ (by omega) (by omega) (by omega) (fun j hj => hg j (by omega)) (flt_f (hg _ (by omega)) (by simp; omega) hL) _ _ hP hD hS _ (lv_sub hl [0, 3, 4, 5, 6, 7, 8] rfl)
          · refine lv_aload_n hx hb dX1_keepWithHats_50 rfl (lv_at hl 5 rfl) ?_
            refine lv_iload hx hb dX1_keepWithHats_51 (lv_at hl 1 rfl) ?_
            refine call_Vv (As := [.int (nI (g i))]) (wr := [(h0, .inr (1, [.ref p1, .ref p2, .ref h3, .ref h4, .int (nI n), .int (nI wn), .int (nI t), .int (nI tc), .int (nI sc), .int (bI uw)])), (h2, .inr (0, [.ref h6, .int (nI c2)])), (h3, .inl (cI, 5, .inl (fun k => nI (s k)))), (h4, .inl (cI, 1024, .inl (fun k => nI (ow k)))), (h6, .inl (cI, 243, .inl (fun k => nI (tf k))))]) (rest := []) S (m_X0_add h1 h5 k g (g i) (by omega)) g_X1_X0_add hd_X0_add ⟨Nat.le_of_ble_eq_true rfl, Nat.le_of_ble_eq_true rfl⟩ ⟨Nat.zero_le _, Nat.zero_le _⟩ hP hD hK hS hZ [1, 5] [0, 2, 3, 4, 6] rfl rfl (by decide) 0 rfl rfl hl.1 rfl (Nat.le_of_ble_eq_true rfl) dX1_keepWithHats_53 (fun u H locs hq hP hD hS => ?_)
            obtain rfl := hq
            have hP := hP.sub (ws' := gW cI h0 h1 h2 h3 h4 h5 h6 p1 p2 n wn t tc sc uw (k + 1) c2 s ow (upN g k (g i)) tf) [0, 5, 1, 2, 3, 6, 4] rfl
            have hD := hD.sub (ws' := gW cI h0 h1 h2 h3 h4 h5 h6 p1 p2 n wn t tc sc uw (k + 1) c2 s ow (upN g k (g i)) tf) [0, 5, 1, 2, 3, 6, 4] (by decide) rfl
            refine lv_iinc (v := nI (i + 1)) (lv' := [(6, .int (nI (i + 1))), (8, .int (nI (hatsN n (g i) co))), (7, .int (nI (g i))), (5, .int (nI c1)), (0, .ref h0), (1, .ref h1), (2, .int (nI co)), (3, .int (nI lo)), (4, .int (nI hi2))]) hx hb dX1_keepWithHats_56 hl (k := 2) rfl (nI_add _ _) (by decide) rfl (fun ls hl => ?_)
            refine lv_goto (tgt := 13) hx hb dX1_keepWithHats_59 (by decide) ?_
            exact ih13 (i + 1) _ _ (by omega) (by omega) (by omega) (fun j hj => by rw [upN_n _ _ (by omega)]; exact hg j (by omega)) (flt_t (hg _ (by omega)) (by simp; omega) hL) _ _ hP hD hS _ (lv_sub hl [0, 3, 4, 5, 6, 7, 8] rfl)
  exact lp13 (c1 + 1) 0 0 hf (by omega) (by omega) (by omega) (fun _ _ => rfl) rfl _ _ hP hD hS _ (lv_sub hl [0, 1, 2, 3, 4, 5, 6] rfl)

set_option maxHeartbeats 4000000 in
set_option maxRecDepth 100000 in
theorem m_X1_keepWithHat (h1 h5 c1 : Nat) (hf : Nat → Nat) (j co : Nat) (hj : j < 5) (hco : co < 4) (hc1 : c1 ≤ 243) (hb1 : ∀ j, j < c1 → hf j < 1024) : Mv l yX1_keepWithHat ws_X1_keepWithHat 1 21 (dC, dI) (tyL cI cZ cS cW) [.ref h1, .int (nI j), .int (nI co)] (waW cI h1 h5 c1 hf) (fun u => ∃ (k : Nat) (g : Nat → Nat), u = waW cI h1 h5 k g ∧ Lof g k = (Lof hf c1).filter (fun x => qd x j == co)) := by
  refine Mv_of (by decide +kernel) (Nat.le_of_ble_eq_true rfl) ?_
  intro pr ev sx mi ag bl me cd Q ls S hP hK hD hZ hl ret
  obtain ⟨hx, hb, hml, hown, hts⟩ := id S
  have hown : sx.vm.findClass RX1 = some mi.cls := hown
  have hS : va_S (wIn (waW cI h1 h5 c1 hf)) sx.heap sx.heap [] := va_S.rf
  have hl : lv_has ls 6 [(0, .ref h1), (1, .int (nI j)), (2, .int (nI co))] := hl
  refine lv_aload_n hx hb dX1_keepWithHat_0 rfl (lv_at hl 0 rfl) ?_
  refine call_Vp (As := []) (rest := []) S (m_X0_count h1 h5 c1 hf) g_X1_X0_count hd_X0_count ⟨Nat.le_of_ble_eq_true rfl, Nat.le_of_ble_eq_true rfl⟩ ⟨Nat.zero_le _, Nat.zero_le _⟩ hP hD hK hS hZ [0, 1] rfl (by decide) 0 rfl rfl hl.1 rfl (Nat.le_of_ble_eq_true rfl) dX1_keepWithHat_1 (fun r H locs hq hP hS => ?_)
  obtain rfl := hq
  refine lv_istore_n (lv' := [(3, .int (nI c1)), (0, .ref h1), (1, .int (nI j)), (2, .int (nI co))]) hx hb dX1_keepWithHat_4 rfl hl (by decide) rfl (fun ls hl => ?_)
  refine lv_aload_n hx hb dX1_keepWithHat_5 rfl (lv_at hl 1 rfl) ?_
  refine call_Vv (As := []) (wr := []) (rest := []) S (m_X0_clear h1 h5 c1 hf) g_X1_X0_clear hd_X0_clear ⟨Nat.le_of_ble_eq_true rfl, Nat.le_of_ble_eq_true rfl⟩ ⟨Nat.zero_le _, Nat.zero_le _⟩ hP hD hK hS hZ [0, 1] [] rfl rfl (by decide) 0 rfl rfl hl.1 rfl (Nat.le_of_ble_eq_true rfl) dX1_keepWithHat_6 (fun u H locs hq hP hD hS => ?_)
  obtain rfl := hq
  have hP : va_P (dC, dI) vwCl (waW cI h1 h5 0 hf) H := hP
  have hD : va_D (wIn (waW cI h1 h5 c1 hf)) (waW cI h1 h5 0 hf) := hD
  refine lv_iconst (v := nI 0) hx hb dX1_keepWithHat_9 (by decide) ?_
  refine lv_istore (lv' := [(4, .int (nI 0)), (3, .int (nI c1)), (0, .ref h1), (1, .int (nI j)), (2, .int (nI co))]) hx hb dX1_keepWithHat_10 hl (by decide) rfl (fun ls hl => ?_)
  have lp12 : ∀ (kf : Nat) (i : Nat) (k : Nat) (g : Nat → Nat), c1 < i + kf → (i ≤ c1) → (k ≤ i) → (∀ j, k ≤ j → g j = hf j) → (Lof g k = (Lof hf i).filter (fun x => qd x j == co)) → ∀ (H : Heap) (locs : List Loc), va_P (dC, dI) vwCl (waW cI h1 h5 k g) H → va_D (wIn (waW cI h1 h5 c1 hf)) (waW cI h1 h5 k g) → va_S (wIn (waW cI h1 h5 c1 hf)) sx.heap H locs → ∀ ls : Array Slot, lv_has ls 6 [(4, .int (nI i)), (3, .int (nI c1)), (0, .ref h1), (1, .int (nI j)), (2, .int (nI co))] → W pr l ev (rmB 1 21) sx mi ag bl me cd H locs 0 0 Q (F0 mi 12 ls []) := by
    intro kf
    induction kf with
    | zero => intro i k g hkf hi hk hg hL; exact absurd hkf (by omega)
    | succ kf ih12 =>
      intro i k g hkf hi hk hg hL H locs hP hD hS ls hl
      refine lv_iload hx hb dX1_keepWithHat_12 (lv_at hl 0 rfl) ?_
      refine lv_iload_n hx hb dX1_keepWithHat_14 rfl (lv_at hl 1 rfl) ?_
      refine icN_ge (tgt := 48) hx hb dX1_keepWithHat_15 (by decide) (by omega) (by omega) (fun c_15 => ?_) (fun c_15 => ?_)
      · exact ret (waW cI h1 h5 k g) _ _ _ _ dX1_keepWithHat_48 ⟨k, g, rfl, by rw [hL, show i = c1 by omega]⟩ (List.Perm.refl _) hP hS
      · refine lv_aload_n hx hb dX1_keepWithHat_18 rfl (lv_at hl 2 rfl) ?_
        refine lv_iload hx hb dX1_keepWithHat_19 (lv_at hl 0 rfl) ?_
        refine call_Vp (As := [.int (nI i)]) (rest := []) S (m_X0_at h1 h5 k g i (by omega)) g_X1_X0_at hd_X0_at ⟨Nat.le_of_ble_eq_true rfl, Nat.le_of_ble_eq_true rfl⟩ ⟨Nat.zero_le _, Nat.zero_le _⟩ hP hD hK hS hZ [0, 1] rfl (by decide) 0 rfl rfl hl.1 rfl (Nat.le_of_ble_eq_true rfl) dX1_keepWithHat_21 (fun r H locs hq hP hS => ?_)
        obtain rfl := hq
        refine lv_istore (lv' := [(5, .int (nI (g i))), (4, .int (nI i)), (3, .int (nI c1)), (0, .ref h1), (1, .int (nI j)), (2, .int (nI co))]) hx hb dX1_keepWithHat_24 hl (by decide) rfl (fun ls hl => ?_)
        refine lv_iload hx hb dX1_keepWithHat_26 (lv_at hl 0 rfl) ?_
        refine lv_iload_n hx hb dX1_keepWithHat_28 rfl (lv_at hl 4 rfl) ?_
        refine call_Sp (As := [.int (nI (g i)), .int (nI j)]) (rest := []) S (m_X1_colourIn (g i) j (by rw [hg i (by omega)]; exact hb1 _ (by omega)) (by omega)) g_X1_X1_colourIn hd_X1_colourIn ⟨Nat.le_of_ble_eq_true rfl, Nat.le_of_ble_eq_true rfl⟩ ⟨Nat.zero_le _, Nat.zero_le _⟩ hP hD hK hS hZ [] rfl (by decide) hl.1 rfl (Nat.le_of_ble_eq_true rfl) dX1_keepWithHat_29 (fun r H locs hq hP hS => ?_)
        obtain rfl := hq
        refine lv_iload_n hx hb dX1_keepWithHat_32 rfl (lv_at hl 5 rfl) ?_
        refine icN_ne (tgt := 42) hx hb dX1_keepWithHat_33 (by decide) (by have := qd_lt (g i) j; omega) (by omega) (fun c_33 => ?_) (fun c_33 => ?_)
        · refine lv_iinc (v := nI (i + 1)) (lv' := [(4, .int (nI (i + 1))), (5, .int (nI (g i))), (3, .int (nI c1)), (0, .ref h1), (1, .int (nI j)), (2, .int (nI co))]) hx hb dX1_keepWithHat_42 hl (k := 1) rfl (nI_add _ _) (by decide) rfl (fun ls hl => ?_)
          refine lv_goto (tgt := 12) hx hb dX1_keepWithHat_45 (by decide) ?_
          exact ih12 (i + 1) _ _ (by omega) (by omega) (by omega) (fun j hj => hg j (by omega)) (flt_f (hg _ (by omega)) (by simp [c_33]) hL) _ _ hP hD hS _ (lv_sub hl [0, 2, 3, 4, 5] rfl)
        · refine lv_aload_n hx hb dX1_keepWithHat_36 rfl (lv_at hl 3 rfl) ?_
          refine lv_iload hx hb dX1_keepWithHat_37 (lv_at hl 0 rfl) ?_
          refine call_Vv (As := [.int (nI (g i))]) (wr := []) (rest := []) S (m_X0_add h1 h5 k g (g i) (by omega)) g_X1_X0_add hd_X0_add ⟨Nat.le_of_ble_eq_true rfl, Nat.le_of_ble_eq_true rfl⟩ ⟨Nat.zero_le _, Nat.zero_le _⟩ hP hD hK hS hZ [0, 1] [] rfl rfl (by decide) 0 rfl rfl hl.1 rfl (Nat.le_of_ble_eq_true rfl) dX1_keepWithHat_39 (fun u H locs hq hP hD hS => ?_)
          obtain rfl := hq
          have hP : va_P (dC, dI) vwCl (waW cI h1 h5 (k + 1) (upN g k (g i))) H := hP
          have hD : va_D (wIn (waW cI h1 h5 c1 hf)) (waW cI h1 h5 (k + 1) (upN g k (g i))) := hD
          refine lv_iinc (v := nI (i + 1)) (lv' := [(4, .int (nI (i + 1))), (5, .int (nI (g i))), (3, .int (nI c1)), (0, .ref h1), (1, .int (nI j)), (2, .int (nI co))]) hx hb dX1_keepWithHat_42 hl (k := 1) rfl (nI_add _ _) (by decide) rfl (fun ls hl => ?_)
          refine lv_goto (tgt := 12) hx hb dX1_keepWithHat_45 (by decide) ?_
          exact ih12 (i + 1) _ _ (by omega) (by omega) (by omega) (fun j hj => by rw [upN_n _ _ (by omega)]; exact hg j (by omega)) (flt_t (hg _ (by omega)) (by simp [c_33]) hL) _ _ hP hD hS _ (lv_sub hl [0, 2, 3, 4, 5] rfl)
  exact lp12 (c1 + 1) 0 0 hf (by omega) (by omega) (by omega) (fun _ _ => rfl) rfl _ _ hP hD hS _ (lv_sub hl [0, 1, 2, 3, 4] rfl)

set_option maxHeartbeats 4000000 in
set_option maxRecDepth 100000 in
theorem m_X1_keepByCertainty (h0 h1 h2 h3 h4 h5 h6 p1 p2 n wn t tc sc : Nat) (uw : Bool) (c1 c2 : Nat) (s ow hf tf : Nat → Nat) (j : Nat) (b : Bool) (hj : j < 5) (hc1 : c1 ≤ 243) (hb1 : ∀ j, j < c1 → hf j < 1024) : Mv l yX1_keepByCertainty ws_X1_keepByCertainty 3 68 (dC, dI) (tyL cI cZ cS cW) [.ref h0, .ref h1, .int (nI j), .int (bI b)] (gW cI h0 h1 h2 h3 h4 h5 h6 p1 p2 n wn t tc sc uw c1 c2 s ow hf tf) (fun u => ∃ (k : Nat) (og g : Nat → Nat), u = gW cI h0 h1 h2 h3 h4 h5 h6 p1 p2 n wn t tc sc uw k c2 s og g tf ∧ Lof g k = (Lof hf c1).filter (fun x => wbc (s j) j (Lof hf c1) x == b)) := by
  refine Mv_of (by decide +kernel) (Nat.le_of_ble_eq_true rfl) ?_
  intro pr ev sx mi ag bl me cd Q ls S hP hK hD hZ hl ret
  obtain ⟨hx, hb, hml, hown, hts⟩ := id S
  have hown : sx.vm.findClass RX1 = some mi.cls := hown
  have hS : va_S (wIn (gW cI h0 h1 h2 h3 h4 h5 h6 p1 p2 n wn t tc sc uw c1 c2 s ow hf tf)) sx.heap sx.heap [] := va_S.rf
  have hl : lv_has ls 7 [(0, .ref h0), (1, .ref h1), (2, .int (nI j)), (3, .int (bI b))] := hl
  refine lv_aload_n hx hb dX1_keepByCertainty_0 rfl (lv_at hl 0 rfl) ?_
  refine lv_aload_n hx hb dX1_keepByCertainty_1 rfl (lv_at hl 1 rfl) ?_
  refine lv_iload_n hx hb dX1_keepByCertainty_2 rfl (lv_at hl 2 rfl) ?_
  refine call_Vv (As := [.ref h1, .int (nI j)]) (wr := []) (rest := []) S (m_X1_noteOwnColours h0 h1 h2 h3 h4 h5 h6 p1 p2 n wn t tc sc uw c1 c2 s ow hf tf j (by omega) hc1 hb1) g_X1_X1_noteOwnColours hd_X1_noteOwnColours ⟨Nat.le_of_ble_eq_true rfl, Nat.le_of_ble_eq_true rfl⟩ ⟨Nat.zero_le _, Nat.zero_le _⟩ hP hD hK hS hZ [0, 1, 2, 3, 4, 5, 6] [] rfl rfl (by decide) 0 rfl rfl hl.1 rfl (Nat.le_of_ble_eq_true rfl) dX1_keepByCertainty_3 (fun u H locs hq hP hD hS => ?_)
  obtain ⟨og, rfl, hog⟩ := hq
  have hP : va_P (dC, dI) vwCl (gW cI h0 h1 h2 h3 h4 h5 h6 p1 p2 n wn t tc sc uw c1 c2 s og hf tf) H := hP
  have hD : va_D (wIn (gW cI h0 h1 h2 h3 h4 h5 h6 p1 p2 n wn t tc sc uw c1 c2 s ow hf tf)) (gW cI h0 h1 h2 h3 h4 h5 h6 p1 p2 n wn t tc sc uw c1 c2 s og hf tf) := hD
  refine lv_aload_n hx hb dX1_keepByCertainty_6 rfl (lv_at hl 1 rfl) ?_
  refine call_Vp (As := []) (rest := []) S (m_X0_count h1 h5 c1 hf) g_X1_X0_count hd_X0_count ⟨Nat.le_of_ble_eq_true rfl, Nat.le_of_ble_eq_true rfl⟩ ⟨Nat.zero_le _, Nat.zero_le _⟩ hP hD hK hS hZ [1, 5] rfl (by decide) 0 rfl rfl hl.1 rfl (Nat.le_of_ble_eq_true rfl) dX1_keepByCertainty_7 (fun r H locs hq hP hS => ?_)
  obtain rfl := hq
  refine lv_istore (lv' := [(4, .int (nI c1)), (0, .ref h0), (1, .ref h1), (2, .int (nI j)), (3, .int (bI b))]) hx hb dX1_keepByCertainty_10 hl (by decide) rfl (fun ls hl => ?_)
  refine lv_aload_n hx hb dX1_keepByCertainty_12 rfl (lv_at hl 2 rfl) ?_
  refine call_Vv (As := []) (wr := [(h0, .inr (1, [.ref p1, .ref p2, .ref h3, .ref h4, .int (nI n), .int (nI wn), .int (nI t), .int (nI tc), .int (nI sc), .int (bI uw)])), (h2, .inr (0, [.ref h6, .int (nI c2)])), (h3, .inl (cI, 5, .inl (fun k => nI (s k)))), (h4, .inl (cI, 1024, .inl (fun k => nI (og k)))), (h6, .inl (cI, 243, .inl (fun k => nI (tf k))))]) (rest := []) S (m_X0_clear h1 h5 c1 hf) g_X1_X0_clear hd_X0_clear ⟨Nat.le_of_ble_eq_true rfl, Nat.le_of_ble_eq_true rfl⟩ ⟨Nat.zero_le _, Nat.zero_le _⟩ hP hD hK hS hZ [1, 5] [0, 2, 3, 4, 6] rfl rfl (by decide) 0 rfl rfl hl.1 rfl (Nat.le_of_ble_eq_true rfl) dX1_keepByCertainty_13 (fun u H locs hq hP hD hS => ?_)
  obtain rfl := hq
  have hP := hP.sub (ws' := gW cI h0 h1 h2 h3 h4 h5 h6 p1 p2 n wn t tc sc uw 0 c2 s og hf tf) [0, 5, 1, 2, 3, 6, 4] rfl
  have hD := hD.sub (ws' := gW cI h0 h1 h2 h3 h4 h5 h6 p1 p2 n wn t tc sc uw 0 c2 s og hf tf) [0, 5, 1, 2, 3, 6, 4] (by decide) rfl
  refine lv_iconst (v := nI 0) hx hb dX1_keepByCertainty_16 (by decide) ?_
  refine lv_istore (lv' := [(5, .int (nI 0)), (4, .int (nI c1)), (0, .ref h0), (1, .ref h1), (2, .int (nI j)), (3, .int (bI b))]) hx hb dX1_keepByCertainty_17 hl (by decide) rfl (fun ls hl => ?_)
  have lp19 : ∀ (kf : Nat) (i : Nat) (k : Nat) (g : Nat → Nat), c1 < i + kf → (i ≤ c1) → (k ≤ i) → (∀ j, k ≤ j → g j = hf j) → (Lof g k = (Lof hf i).filter (fun x => wbc (s j) j (Lof hf c1) x == b)) → ∀ (H : Heap) (locs : List Loc), va_P (dC, dI) vwCl (gW cI h0 h1 h2 h3 h4 h5 h6 p1 p2 n wn t tc sc uw k c2 s og g tf) H → va_D (wIn (gW cI h0 h1 h2 h3 h4 h5 h6 p1 p2 n wn t tc sc uw c1 c2 s ow hf tf)) (gW cI h0 h1 h2 h3 h4 h5 h6 p1 p2 n wn t tc sc uw k c2 s og g tf) → va_S (wIn (gW cI h0 h1 h2 h3 h4 h5 h6 p1 p2 n wn t tc sc uw c1 c2 s ow hf tf)) sx.heap H locs → ∀ ls : Array Slot, lv_has ls 7 [(5, .int (nI i)), (4, .int (nI c1)), (0, .ref h0), (1, .ref h1), (2, .int (nI j)), (3, .int (bI b))] → W pr l ev (rmB 3 68) sx mi ag bl me cd H locs 0 0 Q (F0 mi 19 ls []) := by
    intro kf
    induction kf with
    | zero => intro i k g hkf hi hk hg hL; exact absurd hkf (by omega)
    | succ kf ih19 =>
      intro i k g hkf hi hk hg hL H locs hP hD hS ls hl
      refine lv_iload hx hb dX1_keepByCertainty_19 (lv_at hl 0 rfl) ?_
      refine lv_iload hx hb dX1_keepByCertainty_21 (lv_at hl 1 rfl) ?_
      refine icN_ge (tgt := 57) hx hb dX1_keepByCertainty_23 (by decide) (by omega) (by omega) (fun c_23 => ?_) (fun c_23 => ?_)
      · exact ret (gW cI h0 h1 h2 h3 h4 h5 h6 p1 p2 n wn t tc sc uw k c2 s og g tf) _ _ _ _ dX1_keepByCertainty_57 ⟨k, og, g, rfl, by rw [hL, show i = c1 by omega]⟩ (List.Perm.refl _) hP hS
      · refine lv_aload_n hx hb dX1_keepByCertainty_26 rfl (lv_at hl 3 rfl) ?_
        refine lv_iload hx hb dX1_keepByCertainty_27 (lv_at hl 0 rfl) ?_
        refine call_Vp (As := [.int (nI i)]) (rest := []) S (m_X0_at h1 h5 k g i (by omega)) g_X1_X0_at hd_X0_at ⟨Nat.le_of_ble_eq_true rfl, Nat.le_of_ble_eq_true rfl⟩ ⟨Nat.zero_le _, Nat.zero_le _⟩ hP hD hK hS hZ [1, 5] rfl (by decide) 0 rfl rfl hl.1 rfl (Nat.le_of_ble_eq_true rfl) dX1_keepByCertainty_29 (fun r H locs hq hP hS => ?_)
        obtain rfl := hq
        refine lv_istore (lv' := [(6, .int (nI (g i))), (5, .int (nI i)), (4, .int (nI c1)), (0, .ref h0), (1, .ref h1), (2, .int (nI j)), (3, .int (bI b))]) hx hb dX1_keepByCertainty_32 hl (by decide) rfl (fun ls hl => ?_)
        refine lv_aload_n hx hb dX1_keepByCertainty_34 rfl (lv_at hl 3 rfl) ?_
        refine lv_iload hx hb dX1_keepByCertainty_35 (lv_at hl 0 rfl) ?_
        refine lv_iload_n hx hb dX1_keepByCertainty_37 rfl (lv_at hl 5 rfl) ?_
        refine call_Vp (As := [.int (nI (g i)), .int (nI j)]) (rest := []) S (m_X1_wouldBeCertain h0 h1 h2 h3 h4 h5 h6 p1 p2 n wn t tc sc uw k c2 s og g tf (g i) j (by omega) (by rw [hg i (by omega), hog i (by omega)]; exact ocol_lt _ _ _ _)) g_X1_X1_wouldBeCertain hd_X1_wouldBeCertain ⟨Nat.le_of_ble_eq_true rfl, Nat.le_of_ble_eq_true rfl⟩ ⟨Nat.zero_le _, Nat.zero_le _⟩ hP hD hK hS hZ [0, 1, 2, 3, 4, 5, 6] rfl (by decide) 0 rfl rfl hl.1 rfl (Nat.le_of_ble_eq_true rfl) dX1_keepByCertainty_38 (fun r H locs hq hP hS => ?_)
        obtain rfl : r = bI (wbc (s j) j (Lof hf c1) (g i)) := by rw [hq, wbc, hg i (by omega), hog i (by omega)]
        refine lv_iload_n hx hb dX1_keepByCertainty_41 rfl (lv_at hl 6 rfl) ?_
        refine icB_ne (tgt := 51) hx hb dX1_keepByCertainty_42 (by decide) (fun c_42 => ?_) (fun c_42 => ?_)
        · refine lv_iinc (v := nI (i + 1)) (lv' := [(5, .int (nI (i + 1))), (6, .int (nI (g i))), (4, .int (nI c1)), (0, .ref h0), (1, .ref h1), (2, .int (nI j)), (3, .int (bI b))]) hx hb dX1_keepByCertainty_51 hl (k := 1) rfl (nI_add _ _) (by decide) rfl (fun ls hl => ?_)
          refine lv_goto (tgt := 19) hx hb dX1_keepByCertainty_54 (by decide) ?_
          exact ih19 (i + 1) _ _ (by omega) (by omega) (by omega) (fun j hj => hg j (by omega)) (flt_f (hg _ (by omega)) (by simp [c_42]) hL) _ _ hP hD hS _ (lv_sub hl [0, 2, 3, 4, 5, 6] rfl)
        · refine lv_aload_n hx hb dX1_keepByCertainty_45 rfl (lv_at hl 4 rfl) ?_
          refine lv_iload hx hb dX1_keepByCertainty_46 (lv_at hl 0 rfl) ?_
          refine call_Vv (As := [.int (nI (g i))]) (wr := [(h0, .inr (1, [.ref p1, .ref p2, .ref h3, .ref h4, .int (nI n), .int (nI wn), .int (nI t), .int (nI tc), .int (nI sc), .int (bI uw)])), (h2, .inr (0, [.ref h6, .int (nI c2)])), (h3, .inl (cI, 5, .inl (fun k => nI (s k)))), (h4, .inl (cI, 1024, .inl (fun k => nI (og k)))), (h6, .inl (cI, 243, .inl (fun k => nI (tf k))))]) (rest := []) S (m_X0_add h1 h5 k g (g i) (by omega)) g_X1_X0_add hd_X0_add ⟨Nat.le_of_ble_eq_true rfl, Nat.le_of_ble_eq_true rfl⟩ ⟨Nat.zero_le _, Nat.zero_le _⟩ hP hD hK hS hZ [1, 5] [0, 2, 3, 4, 6] rfl rfl (by decide) 0 rfl rfl hl.1 rfl (Nat.le_of_ble_eq_true rfl) dX1_keepByCertainty_48 (fun u H locs hq hP hD hS => ?_)
          obtain rfl := hq
          have hP := hP.sub (ws' := gW cI h0 h1 h2 h3 h4 h5 h6 p1 p2 n wn t tc sc uw (k + 1) c2 s og (upN g k (g i)) tf) [0, 5, 1, 2, 3, 6, 4] rfl
          have hD := hD.sub (ws' := gW cI h0 h1 h2 h3 h4 h5 h6 p1 p2 n wn t tc sc uw (k + 1) c2 s og (upN g k (g i)) tf) [0, 5, 1, 2, 3, 6, 4] (by decide) rfl
          refine lv_iinc (v := nI (i + 1)) (lv' := [(5, .int (nI (i + 1))), (6, .int (nI (g i))), (4, .int (nI c1)), (0, .ref h0), (1, .ref h1), (2, .int (nI j)), (3, .int (bI b))]) hx hb dX1_keepByCertainty_51 hl (k := 1) rfl (nI_add _ _) (by decide) rfl (fun ls hl => ?_)
          refine lv_goto (tgt := 19) hx hb dX1_keepByCertainty_54 (by decide) ?_
          exact ih19 (i + 1) _ _ (by omega) (by omega) (by omega) (fun j hj => by rw [upN_n _ _ (by omega)]; exact hg j (by omega)) (flt_t (hg _ (by omega)) (by simp [c_42]) hL) _ _ hP hD hS _ (lv_sub hl [0, 2, 3, 4, 5, 6] rfl)
  exact lp19 (c1 + 1) 0 0 hf (by omega) (by omega) (by omega) (fun _ _ => rfl) rfl _ _ hP hD hS _ (lv_sub hl [0, 1, 2, 3, 4, 5] rfl)

set_option maxHeartbeats 4000000 in
set_option maxRecDepth 100000 in
theorem m_X1_passTurn (h0 h1 h2 h3 h4 h5 h6 p1 p2 n wn t tc sc : Nat) (uw : Bool) (c1 c2 : Nat) (s ow hf tf : Nat → Nat) (j : Nat) (hj : j < 5) (hw : wn < 1024) (hc1 : c1 ≤ 243) (hb1 : ∀ j, j < c1 → hf j < 1024) : Mi l yX1_passTurn ws_X1_passTurn 4 94 (dC, dI) (tyL cI cZ cS cW) [.ref h0, .ref h1, .int (nI j)] (gW cI h0 h1 h2 h3 h4 h5 h6 p1 p2 n wn t tc sc uw c1 c2 s ow hf tf) (fun r u => r = bI (cert wn (s j) j (Lof hf c1)) ∧ ∃ (k : Nat) (og g : Nat → Nat), u = gW cI h0 h1 h2 h3 h4 h5 h6 p1 p2 n wn t tc sc uw k c2 s og g tf ∧ Lof g k = turnL wn (s j) j (Lof hf c1)) := by
  refine Mi_of (by decide +kernel) (Nat.le_of_ble_eq_true rfl) ?_
  intro pr ev sx mi ag bl me cd Q ls S hP hK hD hZ hl ret
  obtain ⟨hx, hb, hml, hown, hts⟩ := id S
  have hown : sx.vm.findClass RX1 = some mi.cls := hown
  have hS : va_S (wIn (gW cI h0 h1 h2 h3 h4 h5 h6 p1 p2 n wn t tc sc uw c1 c2 s ow hf tf)) sx.heap sx.heap [] := va_S.rf
  have hl : lv_has ls 4 [(0, .ref h0), (1, .ref h1), (2, .int (nI j))] := hl
  refine lv_aload_n hx hb dX1_passTurn_0 rfl (lv_at hl 0 rfl) ?_
  refine lv_aload_n hx hb dX1_passTurn_1 rfl (lv_at hl 1 rfl) ?_
  refine lv_iload_n hx hb dX1_passTurn_2 rfl (lv_at hl 2 rfl) ?_
  refine call_Vp (As := [.ref h1, .int (nI j)]) (rest := []) S (m_X1_isCertainBy h0 h1 h2 h3 h4 h5 h6 p1 p2 n wn t tc sc uw c1 c2 s ow hf tf j (by omega) hw hc1 hb1) g_X1_X1_isCertainBy hd_X1_isCertainBy ⟨Nat.le_of_ble_eq_true rfl, Nat.le_of_ble_eq_true rfl⟩ ⟨Nat.zero_le _, Nat.zero_le _⟩ hP hD hK hS hZ [0, 1, 2, 3, 4, 5, 6] rfl (by decide) 0 rfl rfl hl.1 rfl (Nat.le_of_ble_eq_true rfl) dX1_passTurn_3 (fun r H locs hq hP hS => ?_)
  obtain rfl := hq
  refine lv_istore_n (lv' := [(3, .int (bI (cert wn (s j) j (Lof hf c1)))), (0, .ref h0), (1, .ref h1), (2, .int (nI j))]) hx hb dX1_passTurn_6 rfl hl (by decide) rfl (fun ls hl => ?_)
  refine lv_aload_n hx hb dX1_passTurn_7 rfl (lv_at hl 1 rfl) ?_
  refine lv_aload_n hx hb dX1_passTurn_8 rfl (lv_at hl 2 rfl) ?_
  refine lv_iload_n hx hb dX1_passTurn_9 rfl (lv_at hl 3 rfl) ?_
  refine lv_iload_n hx hb dX1_passTurn_10 rfl (lv_at hl 0 rfl) ?_
  refine call_Vv (As := [.ref h1, .int (nI j), .int (bI (cert wn (s j) j (Lof hf c1)))]) (wr := []) (rest := []) S (m_X1_keepByCertainty h0 h1 h2 h3 h4 h5 h6 p1 p2 n wn t tc sc uw c1 c2 s ow hf tf j (cert wn (s j) j (Lof hf c1)) (by omega) hc1 hb1) g_X1_X1_keepByCertainty hd_X1_keepByCertainty ⟨Nat.le_of_ble_eq_true rfl, Nat.le_of_ble_eq_true rfl⟩ ⟨Nat.zero_le _, Nat.zero_le _⟩ hP hD hK hS hZ [0, 1, 2, 3, 4, 5, 6] [] rfl rfl (by decide) 0 rfl rfl hl.1 rfl (Nat.le_of_ble_eq_true rfl) dX1_passTurn_11 (fun u H locs hq hP hD hS => ?_)
  obtain ⟨k8, og8, g8, rfl, hL8⟩ := hq
  have hP : va_P (dC, dI) vwCl (gW cI h0 h1 h2 h3 h4 h5 h6 p1 p2 n wn t tc sc uw k8 c2 s og8 g8 tf) H := hP
  have hD : va_D (wIn (gW cI h0 h1 h2 h3 h4 h5 h6 p1 p2 n wn t tc sc uw c1 c2 s ow hf tf)) (gW cI h0 h1 h2 h3 h4 h5 h6 p1 p2 n wn t tc sc uw k8 c2 s og8 g8 tf) := hD
  refine lv_iload_n hx hb dX1_passTurn_14 rfl (lv_at hl 0 rfl) ?_
  refine ifB_eq (tgt := 31) hx hb dX1_passTurn_15 (by decide) (fun c_15 => ?_) (fun c_15 => ?_)
  · refine lv_iload_n hx hb dX1_passTurn_31 rfl (lv_at hl 0 rfl) ?_
    exact ret _ (gW cI h0 h1 h2 h3 h4 h5 h6 p1 p2 n wn t tc sc uw k8 c2 s og8 g8 tf) _ _ _ _ dX1_passTurn_32 (bI_nar _) ⟨rfl, k8, og8, g8, rfl, by rw [hL8, turnL, c_15]; rfl⟩ (List.Perm.refl _) hP hS
  · refine lv_aload_n hx hb dX1_passTurn_18 rfl (lv_at hl 2 rfl) ?_
    refine lv_iload_n hx hb dX1_passTurn_19 rfl (lv_at hl 3 rfl) ?_
    refine lv_aload_n hx hb dX1_passTurn_20 rfl (lv_at hl 1 rfl) ?_
    refine va_get (D := (dC, dI)) (ci := 1) (v := .int (nI wn)) (C := RX1) (T := TX1) (N := 10) hx hb hts inX1 hown hK hP 0 rfl rfl 5 (by decide) (hts _ q_fl_X1_30) (fun _ h9 => h9) rfl dX1_passTurn_21 ?_
    refine lv_iload_n hx hb dX1_passTurn_24 rfl (lv_at hl 3 rfl) ?_
    refine call_Sp (As := [.int (nI wn), .int (nI j)]) (rest := [.int (nI j), .ref h1]) S (m_X1_colourIn wn j hw (by omega)) g_X1_X1_colourIn hd_X1_colourIn ⟨Nat.le_of_ble_eq_true rfl, Nat.le_of_ble_eq_true rfl⟩ ⟨Nat.zero_le _, Nat.zero_le _⟩ hP hD hK hS hZ [] rfl (by decide) hl.1 rfl (Nat.le_of_ble_eq_true rfl) dX1_passTurn_25 (fun r H locs hq hP hS => ?_)
    obtain rfl := hq
    refine call_Sv (As := [.ref h1, .int (nI j), .int (nI (qd wn j))]) (wr := [(h0, .inr (1, [.ref p1, .ref p2, .ref h3, .ref h4, .int (nI n), .int (nI wn), .int (nI t), .int (nI tc), .int (nI sc), .int (bI uw)])), (h2, .inr (0, [.ref h6, .int (nI c2)])), (h3, .inl (cI, 5, .inl (fun k => nI (s k)))), (h4, .inl (cI, 1024, .inl (fun k => nI (og8 k)))), (h6, .inl (cI, 243, .inl (fun k => nI (tf k))))]) (rest := []) S (m_X1_keepWithHat h1 h5 k8 g8 j (qd wn j) (by omega) (qd_lt _ _) (by have := Lof_le hL8; omega) (Lof_bd hL8 hb1)) g_X1_X1_keepWithHat hd_X1_keepWithHat ⟨Nat.le_of_ble_eq_true rfl, Nat.le_of_ble_eq_true rfl⟩ ⟨Nat.zero_le _, Nat.zero_le _⟩ hP hD hK hS hZ [1, 5] [0, 2, 3, 4, 6] rfl rfl (by decide) hl.1 rfl (Nat.le_of_ble_eq_true rfl) dX1_passTurn_28 (fun u H locs hq hP hD hS => ?_)
    obtain ⟨k7, g7, rfl, hL7⟩ := hq
    have hP := hP.sub (ws' := gW cI h0 h1 h2 h3 h4 h5 h6 p1 p2 n wn t tc sc uw k7 c2 s og8 g7 tf) [0, 5, 1, 2, 3, 6, 4] rfl
    have hD := hD.sub (ws' := gW cI h0 h1 h2 h3 h4 h5 h6 p1 p2 n wn t tc sc uw k7 c2 s og8 g7 tf) [0, 5, 1, 2, 3, 6, 4] (by decide) rfl
    refine lv_iload_n hx hb dX1_passTurn_31 rfl (lv_at hl 0 rfl) ?_
    exact ret _ (gW cI h0 h1 h2 h3 h4 h5 h6 p1 p2 n wn t tc sc uw k7 c2 s og8 g7 tf) _ _ _ _ dX1_passTurn_32 (bI_nar _) ⟨rfl, k7, og8, g7, rfl, by rw [hL7, hL8, turnL, c_15]; rfl⟩ (List.Perm.refl _) hP hS


theorem until_s {n wn lo hi k p : Nat} {s : Nat → Nat} {L : List Nat} {v0 : Option Nat} {i : Nat} (h : v0 = (untilL n wn s lo hi (k + 1) L p).map (· + i)) (hc : allC wn s lo hi L = false) : v0 = (untilL n wn s lo hi k (turnL wn (s p) p L) (aftN n p)).map (· + (i + 1)) := by
  rw [h, untilL, hc]
  simp only [Bool.false_eq_true, if_false, Option.map_map]
  congr 1
  funext x
  simp only [Function.comp]
  omega
theorem until_e {n wn lo hi k p : Nat} {s : Nat → Nat} {L : List Nat} {v0 : Option Nat} {i : Nat} (h : v0 = (untilL n wn s lo hi k L p).map (· + i)) (hc : allC wn s lo hi L = true) : v0 = some i := by
  rw [h]
  cases k <;> simp [untilL, hc]
theorem until_n {n wn lo hi k p : Nat} {s : Nat → Nat} {L : List Nat} {v0 : Option Nat} {i : Nat} (h : v0 = (untilL n wn s lo hi k L p).map (· + i)) (hk : k = 0) (hc : allC wn s lo hi L = false) : v0 = none := by
  subst hk
  rw [h]
  simp [untilL, hc]
theorem turn_bd {wn m p c k : Nat} {f g : Nat → Nat} (h : Lof g k = turnL wn m p (Lof f c)) (hb : ∀ j, j < c → f j < 1024) : k ≤ c ∧ ∀ j, j < k → g j < 1024 := by
  have hs : ∀ x, x ∈ Lof g k → x ∈ Lof f c := by
    intro x hx
    rw [h, turnL] at hx
    split at hx
    · exact (List.mem_filter.mp (List.mem_filter.mp hx).1).1
    · exact (List.mem_filter.mp hx).1
  constructor
  · have : (Lof g k).length ≤ (Lof f c).length := by
      rw [h, turnL]
      split
      · exact Nat.le_trans (List.length_filter_le _ _) (List.length_filter_le _ _)
      · exact List.length_filter_le _ _
    rw [Lof_len, Lof_len] at this
    exact this
  · intro j hj
    obtain ⟨i, hi, e⟩ := Lof_mem.mp (hs _ (Lof_mem.mpr ⟨j, hj, rfl⟩))
    rw [← e]; exact hb i hi
theorem aft_lt {n p : Nat} (h : p < 5) (hn : n ≤ 5) : aftN n p < 5 := by
  unfold aftN
  split <;> omega

theorem oc_s {f g : Nat → Nat} {p cl i k b v : Nat} (h : Lof g k = ocL p (Lof f b) cl ++ addL p (cl + 1) (Lof f i)) (hv : v = f i ||| (cl + 1) * 2 ^ (p * 2)) : Lof (upN g k v) (k + 1) = ocL p (Lof f b) cl ++ addL p (cl + 1) (Lof f (i + 1)) := by
  rw [Lof_s, Lof_up, upN_s, h, Lof_s, addL, addL, List.map_append, hv]; simp
theorem oc_0 {f g : Nat → Nat} {p cl k b : Nat} (h : Lof g k = ocL p (Lof f b) cl) : Lof g k = ocL p (Lof f b) cl ++ addL p (cl + 1) (Lof f 0) := by
  rw [h]; simp [addL, Lof]
set_option maxHeartbeats 4000000 in
set_option maxRecDepth 100000 in
theorem m_X1_openColoursOf (h0 h1 h2 h3 h4 h5 h6 p2 n wn t tc sc : Nat) (uw : Bool) (c1 c2 : Nat) (s ow hf tf : Nat → Nat) (j : Nat) (hj : j < 5) (hc1 : c1 ≤ 81) : Mv l yX1_openColoursOf ws_X1_openColoursOf 1 21 (dC, dI) (tyL cI cZ cS cW) [.ref h0, .int (nI j)] (gW cI h0 h1 h2 h3 h4 h5 h6 h1 p2 n wn t tc sc uw c1 c2 s ow hf tf) (fun u => ∃ g : Nat → Nat, u = gW cI h0 h1 h2 h3 h4 h5 h6 h1 p2 n wn t tc sc uw (3 * c1) c2 s ow g tf ∧ Lof g (3 * c1) = ocL j (Lof hf c1) 2) := by
  refine Mv_of (by decide +kernel) (Nat.le_of_ble_eq_true rfl) ?_
  intro pr ev sx mi ag bl me cd Q ls S hP hK hD hZ hl ret
  obtain ⟨hx, hb, hml, hown, hts⟩ := id S
  have hown : sx.vm.findClass RX1 = some mi.cls := hown
  have hS : va_S (wIn (gW cI h0 h1 h2 h3 h4 h5 h6 h1 p2 n wn t tc sc uw c1 c2 s ow hf tf)) sx.heap sx.heap [] := va_S.rf
  have hl : lv_has ls 5 [(0, .ref h0), (1, .int (nI j))] := hl
  refine lv_aload_n hx hb dX1_openColoursOf_0 rfl (lv_at hl 0 rfl) ?_
  refine va_get (D := (dC, dI)) (ci := 1) (v := .ref h1) (C := RX1) (T := TX1) (N := 10) hx hb hts inX1 hown hK hP 0 rfl rfl 0 (by decide) (hts _ q_fl_X1_10) (fun _ h9 => h9) rfl dX1_openColoursOf_1 ?_
  refine call_Vp (As := []) (rest := []) S (m_X0_count h1 h5 c1 hf) g_X1_X0_count hd_X0_count ⟨Nat.le_of_ble_eq_true rfl, Nat.le_of_ble_eq_true rfl⟩ ⟨Nat.zero_le _, Nat.zero_le _⟩ hP hD hK hS hZ [1, 5] rfl (by decide) 0 rfl rfl hl.1 rfl (Nat.le_of_ble_eq_true rfl) dX1_openColoursOf_4 (fun r H locs hq hP hS => ?_)
  obtain rfl := hq
  refine lv_istore_n (lv' := [(2, .int (nI c1)), (0, .ref h0), (1, .int (nI j))]) hx hb dX1_openColoursOf_7 rfl hl (by decide) rfl (fun ls hl => ?_)
  refine lv_iconst (v := nI 1) hx hb dX1_openColoursOf_8 (by decide) ?_
  refine lv_istore_n (lv' := [(3, .int (nI 1)), (2, .int (nI c1)), (0, .ref h0), (1, .int (nI j))]) hx hb dX1_openColoursOf_9 rfl hl (by decide) rfl (fun ls hl => ?_)
  have lp10 : ∀ (kf : Nat) (cl : Nat) (k : Nat) (g : Nat → Nat), 3 < cl + kf → (cl ≤ 2) → ((cl = 0 ∧ k = c1) ∨ (cl = 1 ∧ k = 2 * c1) ∨ (cl = 2 ∧ k = 3 * c1)) → (∀ j, j < c1 → g j = hf j) → (Lof g k = ocL j (Lof hf c1) cl) → ∀ (H : Heap) (locs : List Loc), va_P (dC, dI) vwCl (gW cI h0 h1 h2 h3 h4 h5 h6 h1 p2 n wn t tc sc uw k c2 s ow g tf) H → va_D (wIn (gW cI h0 h1 h2 h3 h4 h5 h6 h1 p2 n wn t tc sc uw c1 c2 s ow hf tf)) (gW cI h0 h1 h2 h3 h4 h5 h6 h1 p2 n wn t tc sc uw k c2 s ow g tf) → va_S (wIn (gW cI h0 h1 h2 h3 h4 h5 h6 h1 p2 n wn t tc sc uw c1 c2 s ow hf tf)) sx.heap H locs → ∀ ls : Array Slot, lv_has ls 5 [(3, .int (nI (cl + 1))), (2, .int (nI c1)), (0, .ref h0), (1, .int (nI j))] → W pr l ev (rmB 1 21) sx mi ag bl me cd H locs 0 0 Q (F0 mi 10 ls []) := by
    intro kf
    induction kf with
    | zero => intro cl k g hkf hcl hk hg hL; exact absurd hkf (by omega)
    | succ kf ih10 =>
      intro cl k g hkf hcl hk hg hL H locs hP hD hS ls hl
      refine lv_iload_n hx hb dX1_openColoursOf_10 rfl (lv_at hl 0 rfl) ?_
      refine lv_iconst (v := nI 3) hx hb dX1_openColoursOf_11 (by decide) ?_
      refine icN_ge (tgt := 59) hx hb dX1_openColoursOf_12 (by decide) (by omega) (by omega) (fun c_12 => ?_) (fun c_12 => ?_)
      · exact ret (gW cI h0 h1 h2 h3 h4 h5 h6 h1 p2 n wn t tc sc uw k c2 s ow g tf) _ _ _ _ dX1_openColoursOf_59 ⟨g, by rw [show k = 3 * c1 by omega], by rw [← show k = 3 * c1 by omega, hL, show cl = 2 by omega]⟩ (List.Perm.refl _) hP hS
      · refine lv_iconst (v := nI 0) hx hb dX1_openColoursOf_15 (by decide) ?_
        refine lv_istore (lv' := [(4, .int (nI 0)), (3, .int (nI (cl + 1))), (2, .int (nI c1)), (0, .ref h0), (1, .int (nI j))]) hx hb dX1_openColoursOf_16 hl (by decide) rfl (fun ls hl => ?_)
        have lp18 : ∀ (kf : Nat) (i : Nat) (k2 : Nat) (g2 : Nat → Nat), c1 < i + kf → (i ≤ c1) → (k2 = k + i) → (∀ j, j < c1 → g2 j = hf j) → (Lof g2 k2 = ocL j (Lof hf c1) cl ++ addL j (cl + 1) (Lof hf i)) → ∀ (H : Heap) (locs : List Loc), va_P (dC, dI) vwCl (gW cI h0 h1 h2 h3 h4 h5 h6 h1 p2 n wn t tc sc uw k2 c2 s ow g2 tf) H → va_D (wIn (gW cI h0 h1 h2 h3 h4 h5 h6 h1 p2 n wn t tc sc uw c1 c2 s ow hf tf)) (gW cI h0 h1 h2 h3 h4 h5 h6 h1 p2 n wn t tc sc uw k2 c2 s ow g2 tf) → va_S (wIn (gW cI h0 h1 h2 h3 h4 h5 h6 h1 p2 n wn t tc sc uw c1 c2 s ow hf tf)) sx.heap H locs → ∀ ls : Array Slot, lv_has ls 5 [(4, .int (nI i)), (3, .int (nI (cl + 1))), (2, .int (nI c1)), (0, .ref h0), (1, .int (nI j))] → W pr l ev (rmB 1 21) sx mi ag bl me cd H locs 0 0 Q (F0 mi 18 ls []) := by
          intro kf
          induction kf with
          | zero => intro i k2 g2 hkf hi hk2 hg2 hL2; exact absurd hkf (by omega)
          | succ kf ih18 =>
            intro i k2 g2 hkf hi hk2 hg2 hL2 H locs hP hD hS ls hl
            refine lv_iload hx hb dX1_openColoursOf_18 (lv_at hl 0 rfl) ?_
            refine lv_iload_n hx hb dX1_openColoursOf_20 rfl (lv_at hl 2 rfl) ?_
            refine icN_ge (tgt := 53) hx hb dX1_openColoursOf_21 (by decide) (by omega) (by omega) (fun c_21 => ?_) (fun c_21 => ?_)
            · refine lv_iinc (v := nI (cl + 1 + 1)) (lv' := [(3, .int (nI (cl + 1 + 1))), (4, .int (nI i)), (2, .int (nI c1)), (0, .ref h0), (1, .int (nI j))]) hx hb dX1_openColoursOf_53 hl (k := 1) rfl (nI_add _ _) (by decide) rfl (fun ls hl => ?_)
              refine lv_goto (tgt := 10) hx hb dX1_openColoursOf_56 (by decide) ?_
              exact ih10 (cl + 1) _ _ (by omega) (by omega) (by omega) hg2 (by rw [hL2, show i = c1 by omega]; rfl) _ _ hP hD hS _ (lv_sub hl [0, 2, 3, 4] rfl)
            · refine lv_aload_n hx hb dX1_openColoursOf_24 rfl (lv_at hl 3 rfl) ?_
              refine va_get (D := (dC, dI)) (ci := 1) (v := .ref h1) (C := RX1) (T := TX1) (N := 10) hx hb hts inX1 hown hK hP 0 rfl rfl 0 (by decide) (hts _ q_fl_X1_10) (fun _ h9 => h9) rfl dX1_openColoursOf_25 ?_
              refine lv_aload_n hx hb dX1_openColoursOf_28 rfl (lv_at hl 3 rfl) ?_
              refine va_get (D := (dC, dI)) (ci := 1) (v := .ref h1) (C := RX1) (T := TX1) (N := 10) hx hb hts inX1 hown hK hP 0 rfl rfl 0 (by decide) (hts _ q_fl_X1_10) (fun _ h9 => h9) rfl dX1_openColoursOf_29 ?_
              refine lv_iload hx hb dX1_openColoursOf_32 (lv_at hl 0 rfl) ?_
              refine call_Vp (As := [.int (nI i)]) (rest := [.ref h1]) S (m_X0_at h1 h5 k2 g2 i (by omega)) g_X1_X0_at hd_X0_at ⟨Nat.le_of_ble_eq_true rfl, Nat.le_of_ble_eq_true rfl⟩ ⟨Nat.zero_le _, Nat.zero_le _⟩ hP hD hK hS hZ [1, 5] rfl (by decide) 0 rfl rfl hl.1 rfl (Nat.le_of_ble_eq_true rfl) dX1_openColoursOf_34 (fun r H locs hq hP hS => ?_)
              obtain rfl := hq
              refine lv_iload_n hx hb dX1_openColoursOf_37 rfl (lv_at hl 1 rfl) ?_
              refine lv_iload_n hx hb dX1_openColoursOf_38 rfl (lv_at hl 4 rfl) ?_
              refine call_Sp (As := [.int (nI j)]) (rest := [.int (nI (cl + 1)), .int (nI (g2 i)), .ref h1]) S (m_X1_shiftOf j ) g_X1_X1_shiftOf hd_X1_shiftOf ⟨Nat.le_of_ble_eq_true rfl, Nat.le_of_ble_eq_true rfl⟩ ⟨Nat.zero_le _, Nat.zero_le _⟩ hP hD hK hS hZ [] rfl (by decide) hl.1 rfl (Nat.le_of_ble_eq_true rfl) dX1_openColoursOf_39 (fun r H locs hq hP hS => ?_)
              obtain rfl := hq
              refine lv_ishl hx hb dX1_openColoursOf_42 ?_
              refine W_i (y := nI ((cl + 1) * 2 ^ (j * 2))) (nI_shl _ (by omega)) ?_
              refine lv_ior hx hb dX1_openColoursOf_43 ?_
              refine W_i (y := nI ((g2 i) ||| ((cl + 1) * 2 ^ (j * 2)))) (nI_or _ _) ?_
              refine call_Vv (As := [.int (nI ((g2 i) ||| ((cl + 1) * 2 ^ (j * 2))))]) (wr := [(h0, .inr (1, [.ref h1, .ref p2, .ref h3, .ref h4, .int (nI n), .int (nI wn), .int (nI t), .int (nI tc), .int (nI sc), .int (bI uw)])), (h2, .inr (0, [.ref h6, .int (nI c2)])), (h3, .inl (cI, 5, .inl (fun k => nI (s k)))), (h4, .inl (cI, 1024, .inl (fun k => nI (ow k)))), (h6, .inl (cI, 243, .inl (fun k => nI (tf k))))]) (rest := []) S (m_X0_add h1 h5 k2 g2 ((g2 i) ||| ((cl + 1) * 2 ^ (j * 2))) (by omega)) g_X1_X0_add hd_X0_add ⟨Nat.le_of_ble_eq_true rfl, Nat.le_of_ble_eq_true rfl⟩ ⟨Nat.zero_le _, Nat.zero_le _⟩ hP hD hK hS hZ [1, 5] [0, 2, 3, 4, 6] rfl rfl (by decide) 0 rfl rfl hl.1 rfl (Nat.le_of_ble_eq_true rfl) dX1_openColoursOf_44 (fun u H locs hq hP hD hS => ?_)
              obtain rfl := hq
              have hP := hP.sub (ws' := gW cI h0 h1 h2 h3 h4 h5 h6 h1 p2 n wn t tc sc uw (k2 + 1) c2 s ow (upN g2 k2 ((g2 i) ||| ((cl + 1) * 2 ^ (j * 2)))) tf) [0, 5, 1, 2, 3, 6, 4] rfl
              have hD := hD.sub (ws' := gW cI h0 h1 h2 h3 h4 h5 h6 h1 p2 n wn t tc sc uw (k2 + 1) c2 s ow (upN g2 k2 ((g2 i) ||| ((cl + 1) * 2 ^ (j * 2)))) tf) [0, 5, 1, 2, 3, 6, 4] (by decide) rfl
              refine lv_iinc (v := nI (i + 1)) (lv' := [(4, .int (nI (i + 1))), (3, .int (nI (cl + 1))), (2, .int (nI c1)), (0, .ref h0), (1, .int (nI j))]) hx hb dX1_openColoursOf_47 hl (k := 0) rfl (nI_add _ _) (by decide) rfl (fun ls hl => ?_)
              refine lv_goto (tgt := 18) hx hb dX1_openColoursOf_50 (by decide) ?_
              exact ih18 (i + 1) _ _ (by omega) (by omega) (by omega) (fun j hj => by rw [upN_n _ _ (by omega)]; exact hg2 j hj) (oc_s hL2 (by rw [hg2 i (by omega)])) _ _ hP hD hS _ (lv_sub hl [0, 1, 2, 3, 4] rfl)
        exact lp18 (c1 + 1) 0 k g (by omega) (by omega) (by omega) hg (oc_0 hL) _ _ hP hD hS _ (lv_sub hl [0, 1, 2, 3, 4] rfl)
  exact lp10 4 0 c1 hf (by omega) (by omega) (by omega) (fun _ _ => rfl) rfl _ _ hP hD hS _ (lv_sub hl [0, 1, 2, 3] rfl)

end
