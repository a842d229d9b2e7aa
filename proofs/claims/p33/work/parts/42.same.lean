/-! at the end all is as by hand -/
theorem ds1 : ∀ a, a < 1216 → Op.cmpValue (FP.dcmp (FP.ddiv (FP.i2d (nI a)) (FP.i2d (nI 1))) (FP.ddiv (FP.i2d (nI a)) (FP.i2d (nI 1)))) .l = nI 0 := by decide +kernel
theorem ds2 : ∀ a, a < 1216 → Op.cmpValue (FP.dcmp (FP.ddiv (FP.i2d (nI a)) (FP.i2d (nI 2))) (FP.ddiv (FP.i2d (nI a)) (FP.i2d (nI 2)))) .l = nI 0 := by decide +kernel
theorem ds3 : ∀ a, a < 1216 → Op.cmpValue (FP.dcmp (FP.ddiv (FP.i2d (nI a)) (FP.i2d (nI 3))) (FP.ddiv (FP.i2d (nI a)) (FP.i2d (nI 3)))) .l = nI 0 := by decide +kernel
theorem ds4 : ∀ a, a < 1216 → Op.cmpValue (FP.dcmp (FP.ddiv (FP.i2d (nI a)) (FP.i2d (nI 4))) (FP.ddiv (FP.i2d (nI a)) (FP.i2d (nI 4)))) .l = nI 0 := by decide +kernel
theorem ds5 : ∀ a, a < 1216 → Op.cmpValue (FP.dcmp (FP.ddiv (FP.i2d (nI a)) (FP.i2d (nI 5))) (FP.ddiv (FP.i2d (nI a)) (FP.i2d (nI 5)))) .l = nI 0 := by decide +kernel
theorem dself {a n : Nat} (h1 : 0 < n) (h2 : n ≤ 5) (ha : a ≤ n * 243) : Op.cmpValue (FP.dcmp (FP.ddiv (FP.i2d (nI a)) (FP.i2d (nI n))) (FP.ddiv (FP.i2d (nI a)) (FP.i2d (nI n)))) .l = nI 0 := by
  rcases (show n = 1 ∨ n = 2 ∨ n = 3 ∨ n = 4 ∨ n = 5 by omega) with rfl | rfl | rfl | rfl | rfl
  · exact ds1 a (by omega)
  · exact ds2 a (by omega)
  · exact ds3 a (by omega)
  · exact ds4 a (by omega)
  · exact ds5 a (by omega)
theorem hold_st {n k8 w : Nat} {wy : Nat → Nat → Nat} {h3 : Nat → Bool} {P : Nat → Nat → Bool} (hk : k8 < n) (hy : wy w k8 < 3) (h : ∀ k, k < n → ∀ c, c < 3 → h3 (3 * k + c) = (P k c || (decide (k < k8) && wy w k == c))) : ∀ k, k < n → ∀ c, c < 3 → upN h3 (3 * k8 + wy w k8) true (3 * k + c) = (P k c || (decide (k < k8 + 1) && wy w k == c)) := by
  intro k hkn c hc
  by_cases he : 3 * k + c = 3 * k8 + wy w k8
  · obtain ⟨h1, h2⟩ : k = k8 ∧ c = wy w k8 := by omega
    rw [he, upN_s, h1, h2]; simp
  · rw [upN_n _ _ he, h k hkn c hc]
    by_cases h1 : k = k8
    · subst h1
      have h2 : wy w k ≠ c := by omega
      simp [h2]
    · have h2 : (decide (k < k8)) = (decide (k < k8 + 1)) := by
        by_cases h3 : k < k8
        · simp [h3, show k < k8 + 1 by omega]
        · simp [h3, show ¬ k < k8 + 1 by omega]
      rw [h2]
theorem cnt_up {P : Nat → Nat → Bool} {f : Nat → Nat} {w j : Nat} (hj : j < 3) (hP : ∀ c, c < 3 → P c w = (j == c)) (h : ∀ c, c < 3 → f c = cntP (P c) w) : ∀ c, c < 3 → upN f j (f j + 1) c = cntP (P c) (w + 1) := by
  intro c hc
  by_cases he : c = j
  · rw [he, upN_s, h j hj, cntP, hP j hj]; simp
  · have e0 : (j == c) = false := by simp; omega
    rw [upN_n _ _ he, h c hc, cntP, hP c hc, e0]; simp
section
variable {l : Launch} {dC : Nat → ClassId} {dI : Nat → Nat → Nat} {cI cZ cS cW : ClassId}

set_option maxHeartbeats 40000000 in
set_option maxRecDepth 100000 in
theorem m_X2_isSame (h0 h1 h2 h3 h4 h5 h6 n wn t tc sc : Nat) (uw : Bool) (c1 c2 : Nat) (s ow hf tf : Nat → Nat) (b0 b1 b2 b3 b4 m tn sl : Nat) (bg : Bool) (ht rs : Nat → Nat) (sn : Nat → Nat → Bool) (rw : Nat → Nat) (wy : Nat → Nat → Nat) (o : Nat → Bool) (R : Rl n m wn t tc sc uw c1 s hf tn sl bg ht sn wy o) (h0n : 0 < n) (htn : tn < 2 ^ 19) (sz : Nat) : Gi l yX2_isSame ws_X2_isSame 5 114 10 90 sz (dC, dI) (tyL cI cZ cS cW) [.ref b0, .ref h0] (gW cI h0 h1 h2 h3 h4 h5 h6 h1 h2 n wn t tc sc uw c1 c2 s ow hf tf ++ (sW cI cZ cS cW b0 b1 b2 b3 b4 n m tn sl bg ht rs sn rw wy o)) (fun r u => r = nI 1 ∧ u = gW cI h0 h1 h2 h3 h4 h5 h6 h1 h2 n wn t tc sc uw c1 c2 s ow hf tf ++ (sW cI cZ cS cW b0 b1 b2 b3 b4 n m tn sl bg ht rs sn rw wy o)) := by
  refine Gi_of (by decide +kernel) (Nat.le_of_ble_eq_true rfl) ?_
  intro pr ev sx mi ag bl me cd Q ls A S hP hK hD hA hZ hl hin ret
  obtain ⟨hx, hb, hml, hown, hts⟩ := id S
  have hown : sx.vm.findClass RX2 = some mi.cls := hown
  have hS : va_S A sx.heap sx.heap [] := va_S.rf
  have hl : lv_has ls 9 [(0, .ref b0), (1, .ref h0)] := hl
  obtain ⟨hn, hw, hs, hc1, hb1⟩ := R.inv
  have hm : m ≤ 243 := R.m243
  have hht := R.gx.h4
  have hwy := R.wy4
  have ht5 := R.t5
  refine lv_aload_n hx hb dX2_isSame_0 rfl (lv_at hl 1 rfl) ?_
  refine call_VpS (As := []) (rest := []) S (m_X1_players h0 h1 h2 h3 h4 h5 h6 n wn t tc sc uw c1 c2 s ow hf tf   hn hw hs hc1 hb1) g_X2_X1_players hd_X1_players ⟨Nat.le_of_ble_eq_true rfl, Nat.le_of_ble_eq_true rfl⟩ ⟨by show _ ≤ 10; omega, by show _ ≤ 90; omega⟩ hP hD hK hS hZ (List.sublist_append_left _ _) 0 rfl rfl hl.1 rfl (Nat.le_of_ble_eq_true rfl) dX2_isSame_1 (fun r H locs hq hP hS => ?_)
  obtain rfl := hq
  refine lv_aload_n hx hb dX2_isSame_4 rfl (lv_at hl 0 rfl) ?_
  refine va_get (D := (dC, dI)) (ci := 2) (v := .int (nI n)) (C := RX2) (T := TX2) (N := 8) hx hb hts inX2 hown hK hP 7 rfl rfl 0 (by decide) (hts _ q_fl_X2_27) (fun _ h9 => h9) rfl dX2_isSame_5 ?_
  refine icN_ne (tgt := 82) hx hb dX2_isSame_8 (by decide) (by omega) (by omega) (fun c_8 => absurd c_8 (fun e9 => e9 rfl)) (fun c_8 => ?_)
  refine lv_aload_n hx hb dX2_isSame_11 rfl (lv_at hl 1 rfl) ?_
  refine call_VpS (As := []) (rest := []) S (m_X1_turnsTaken h0 h1 h2 h3 h4 h5 h6 n wn t tc sc uw c1 c2 s ow hf tf   hn hw hs hc1 hb1) g_X2_X1_turnsTaken hd_X1_turnsTaken ⟨Nat.le_of_ble_eq_true rfl, Nat.le_of_ble_eq_true rfl⟩ ⟨by show _ ≤ 10; omega, by show _ ≤ 90; omega⟩ hP hD hK hS hZ (List.sublist_append_left _ _) 0 rfl rfl hl.1 rfl (Nat.le_of_ble_eq_true rfl) dX2_isSame_12 (fun r H locs hq hP hS => ?_)
  obtain rfl := hq
  refine lv_aload_n hx hb dX2_isSame_15 rfl (lv_at hl 0 rfl) ?_
  refine va_get (D := (dC, dI)) (ci := 2) (v := .int (nI tn)) (C := RX2) (T := TX2) (N := 8) hx hb hts inX2 hown hK hP 7 rfl rfl 1 (by decide) (hts _ q_fl_X2_40) (fun _ h9 => h9) rfl dX2_isSame_16 ?_
  refine icN_ne (tgt := 82) hx hb dX2_isSame_19 (by decide) (by have := R.tt; omega) (by omega) (fun c_19 => absurd c_19 (fun e9 => e9 R.tt)) (fun c_19 => ?_)
  refine lv_aload_n hx hb dX2_isSame_22 rfl (lv_at hl 1 rfl) ?_
  refine call_VpS (As := []) (rest := []) S (m_X1_silentTurns h0 h1 h2 h3 h4 h5 h6 n wn t tc sc uw c1 c2 s ow hf tf   hn hw hs hc1 hb1) g_X2_X1_silentTurns hd_X1_silentTurns ⟨Nat.le_of_ble_eq_true rfl, Nat.le_of_ble_eq_true rfl⟩ ⟨by show _ ≤ 10; omega, by show _ ≤ 90; omega⟩ hP hD hK hS hZ (List.sublist_append_left _ _) 0 rfl rfl hl.1 rfl (Nat.le_of_ble_eq_true rfl) dX2_isSame_23 (fun r H locs hq hP hS => ?_)
  obtain rfl := hq
  refine lv_aload_n hx hb dX2_isSame_26 rfl (lv_at hl 0 rfl) ?_
  refine va_get (D := (dC, dI)) (ci := 2) (v := .int (nI sl)) (C := RX2) (T := TX2) (N := 8) hx hb hts inX2 hown hK hP 7 rfl rfl 2 (by decide) (hts _ q_fl_X2_47) (fun _ h9 => h9) rfl dX2_isSame_27 ?_
  refine icN_ne (tgt := 82) hx hb dX2_isSame_30 (by decide) (by have := R.ss; have := R.sb; omega) (by have := R.sb; omega) (fun c_30 => absurd c_30 (fun e9 => e9 R.ss)) (fun c_30 => ?_)
  refine lv_aload_n hx hb dX2_isSame_33 rfl (lv_at hl 1 rfl) ?_
  refine call_VpS (As := []) (rest := []) S (m_X1_playerInTurn h0 h1 h2 h3 h4 h5 h6 n wn t tc sc uw c1 c2 s ow hf tf   hn hw hs hc1 hb1) g_X2_X1_playerInTurn hd_X1_playerInTurn ⟨Nat.le_of_ble_eq_true rfl, Nat.le_of_ble_eq_true rfl⟩ ⟨by show _ ≤ 10; omega, by show _ ≤ 90; omega⟩ hP hD hK hS hZ (List.sublist_append_left _ _) 0 rfl rfl hl.1 rfl (Nat.le_of_ble_eq_true rfl) dX2_isSame_34 (fun r H locs hq hP hS => ?_)
  obtain rfl := hq
  refine lv_aload_n hx hb dX2_isSame_37 rfl (lv_at hl 0 rfl) ?_
  refine va_get (D := (dC, dI)) (ci := 2) (v := .int (nI n)) (C := RX2) (T := TX2) (N := 8) hx hb hts inX2 hown hK hP 7 rfl rfl 0 (by decide) (hts _ q_fl_X2_27) (fun _ h9 => h9) rfl dX2_isSame_38 ?_
  refine ifN_ne (tgt := 48) hx hb dX2_isSame_41 (by decide) (by omega) (fun c_41 => ?_) (fun c_41 => absurd c_41 (by omega))
  refine lv_aload_n hx hb dX2_isSame_48 rfl (lv_at hl 0 rfl) ?_
  refine va_get (D := (dC, dI)) (ci := 2) (v := .int (nI tn)) (C := RX2) (T := TX2) (N := 8) hx hb hts inX2 hown hK hP 7 rfl rfl 1 (by decide) (hts _ q_fl_X2_40) (fun _ h9 => h9) rfl dX2_isSame_49 ?_
  refine lv_aload_n hx hb dX2_isSame_52 rfl (lv_at hl 0 rfl) ?_
  refine va_get (D := (dC, dI)) (ci := 2) (v := .int (nI n)) (C := RX2) (T := TX2) (N := 8) hx hb hts inX2 hown hK hP 7 rfl rfl 0 (by decide) (hts _ q_fl_X2_27) (fun _ h9 => h9) rfl dX2_isSame_53 ?_
  refine lv_irem hx hb dX2_isSame_56 (nI_ne0 (by omega) (by omega)) ?_
  refine W_i (y := nI (tn % n)) (pk_rem (by omega) h0n (by omega)) ?_
  refine lv_icmp_ne (tgt := 82) hx hb dX2_isSame_57 (by decide) (fun c_57 => absurd c_57 (fun e9 => e9 (by rw [whoI, if_neg (by omega), R.tm h0n]))) (fun c_57 => ?_)
  refine lv_aload_n hx hb dX2_isSame_60 rfl (lv_at hl 1 rfl) ?_
  refine call_VpS (As := []) (rest := []) S (m_X1_openWays h0 h1 h2 h3 h4 h5 h6 n wn t tc sc uw c1 c2 s ow hf tf   hn hw hs hc1 hb1) g_X2_X1_openWays hd_X1_openWays ⟨Nat.le_of_ble_eq_true rfl, Nat.le_of_ble_eq_true rfl⟩ ⟨by show _ ≤ 10; omega, by show _ ≤ 90; omega⟩ hP hD hK hS hZ (List.sublist_append_left _ _) 0 rfl rfl hl.1 rfl (Nat.le_of_ble_eq_true rfl) dX2_isSame_61 (fun r H locs hq hP hS => ?_)
  obtain rfl := hq
  refine lv_aload_n hx hb dX2_isSame_64 rfl (lv_at hl 0 rfl) ?_
  refine call_VpS (As := []) (rest := [.int (nI c1)]) S (m_X2_many b0 b1 b2 b3 b4 n m tn sl bg ht rs sn rw wy o (by omega)) g_X2_X2_many hd_X2_many ⟨Nat.le_of_ble_eq_true rfl, Nat.le_of_ble_eq_true rfl⟩ ⟨by show _ ≤ 10; omega, by show _ ≤ 90; omega⟩ hP hD hK hS hZ (List.sublist_append_right _ _) 0 rfl rfl hl.1 rfl (Nat.le_of_ble_eq_true rfl) dX2_isSame_65 (fun r H locs hq hP hS => ?_)
  obtain rfl := hq
  refine icN_ne (tgt := 82) hx hb dX2_isSame_68 (by decide) (by omega) (by have := cntP_le o m; omega) (fun c_68 => absurd c_68 (fun e9 => e9 R.c1e)) (fun c_68 => ?_)
  refine lv_aload_n hx hb dX2_isSame_71 rfl (lv_at hl 1 rfl) ?_
  refine call_VpS (As := []) (rest := []) S (m_X1_certainPlayers h0 h1 h2 h3 h4 h5 h6 n wn t tc sc uw c1 c2 s ow hf tf   hn hw hs hc1 hb1) g_X2_X1_certainPlayers hd_X1_certainPlayers ⟨Nat.le_of_ble_eq_true rfl, Nat.le_of_ble_eq_true rfl⟩ ⟨by show _ ≤ 10; omega, by show _ ≤ 90; omega⟩ hP hD hK hS hZ (List.sublist_append_left _ _) 0 rfl rfl hl.1 rfl (Nat.le_of_ble_eq_true rfl) dX2_isSame_72 (fun r H locs hq hP hS => ?_)
  obtain rfl := hq
  refine lv_aload_n hx hb dX2_isSame_75 rfl (lv_at hl 0 rfl) ?_
  refine call_VpS (As := []) (rest := [.int (nI (certN wn s (Lof hf c1) n))]) S (m_X2_certain b0 b1 b2 b3 b4 n m tn sl bg ht rs sn rw wy o hn (by omega) hht hwy) g_X2_X2_certain hd_X2_certain ⟨Nat.le_of_ble_eq_true rfl, Nat.le_of_ble_eq_true rfl⟩ ⟨by show _ ≤ 10; omega, by show _ ≤ 90; omega⟩ hP hD hK hS hZ (List.sublist_append_right _ _) 0 rfl rfl hl.1 rfl (Nat.le_of_ble_eq_true rfl) dX2_isSame_76 (fun r H locs hq hP hS => ?_)
  obtain rfl := hq
  refine icN_eq (tgt := 84) hx hb dX2_isSame_79 (by decide) (by have := certN_le wn s (Lof hf c1) n; omega) (by have := cerS_le n m sn ht wy o n; omega) (fun c_79 => ?_) (fun c_79 => absurd c_79 (fun e9 => e9 (R.certs n (Nat.le_refl n)).symm))
  refine lv_iconst (v := nI 0) hx hb dX2_isSame_84 (by decide) ?_
  refine lv_istore_n (lv' := [(2, .int (nI 0)), (0, .ref b0), (1, .ref h0)]) hx hb dX2_isSame_85 rfl hl (by decide) rfl (fun ls hl => ?_)
  refine lv_iconst (v := nI 0) hx hb dX2_isSame_86 (by decide) ?_
  refine lv_istore_n (lv' := [(3, .int (nI 0)), (2, .int (nI 0)), (0, .ref b0), (1, .ref h0)]) hx hb dX2_isSame_87 rfl hl (by decide) rfl (fun ls hl => ?_)
  have lp88 : ∀ (kf : Nat) (p : Nat) (a : Nat), n < p + kf → (p ≤ n) → (a = sumP wn s (Lof hf c1) p) → ∀ (H : Heap) (locs : List Loc), va_P (dC, dI) vwCl (gW cI h0 h1 h2 h3 h4 h5 h6 h1 h2 n wn t tc sc uw c1 c2 s ow hf tf ++ (sW cI cZ cS cW b0 b1 b2 b3 b4 n m tn sl bg ht rs sn rw wy o)) H → va_D A (gW cI h0 h1 h2 h3 h4 h5 h6 h1 h2 n wn t tc sc uw c1 c2 s ow hf tf ++ (sW cI cZ cS cW b0 b1 b2 b3 b4 n m tn sl bg ht rs sn rw wy o)) → va_S A sx.heap H locs → ∀ ls : Array Slot, lv_has ls 9 [(3, .int (nI p)), (2, .int (nI a)), (0, .ref b0), (1, .ref h0)] → W pr l ev (rmG 5 114 10 90) sx mi ag bl me cd H locs (p * 2) (p * 18) Q (F0 mi 88 ls []) := by
    intro kf
    induction kf with
    | zero => intro p a hkf hp ha; exact absurd hkf (by omega)
    | succ kf ih88 =>
      intro p a hkf hp ha H locs hP hD hS ls hl
      refine lv_iload_n hx hb dX2_isSame_88 rfl (lv_at hl 0 rfl) ?_
      refine lv_aload_n hx hb dX2_isSame_89 rfl (lv_at hl 2 rfl) ?_
      refine va_get (D := (dC, dI)) (ci := 2) (v := .int (nI n)) (C := RX2) (T := TX2) (N := 8) hx hb hts inX2 hown hK hP 7 rfl rfl 0 (by decide) (hts _ q_fl_X2_27) (fun _ h9 => h9) rfl dX2_isSame_90 ?_
      refine icN_ge (tgt := 439) hx hb dX2_isSame_93 (by decide) (by omega) (by omega) (fun c_93 => ?_) (fun c_93 => ?_)
      · refine lv_iconst (v := nI 0) hx hb dX2_isSame_439 (by decide) ?_
        refine lv_istore_n (lv' := [(3, .int (nI 0)), (2, .int (nI a)), (0, .ref b0), (1, .ref h0)]) hx hb dX2_isSame_440 rfl hl (by decide) rfl (fun ls hl => ?_)
        have lp441 : ∀ (kf : Nat) (co : Nat), 3 < co + kf → (co ≤ 3) → ∀ (H : Heap) (locs : List Loc), va_P (dC, dI) vwCl (gW cI h0 h1 h2 h3 h4 h5 h6 h1 h2 n wn t tc sc uw c1 c2 s ow hf tf ++ (sW cI cZ cS cW b0 b1 b2 b3 b4 n m tn sl bg ht rs sn rw wy o)) H → va_D A (gW cI h0 h1 h2 h3 h4 h5 h6 h1 h2 n wn t tc sc uw c1 c2 s ow hf tf ++ (sW cI cZ cS cW b0 b1 b2 b3 b4 n m tn sl bg ht rs sn rw wy o)) → va_S A sx.heap H locs → ∀ ls : Array Slot, lv_has ls 9 [(3, .int (nI co)), (2, .int (nI a)), (0, .ref b0), (1, .ref h0)] → W pr l ev (rmG 5 114 10 90) sx mi ag bl me cd H locs (p * 2) (p * 18) Q (F0 mi 441 ls []) := by
          intro kf
          induction kf with
          | zero => intro co hkf hco; exact absurd hkf (by omega)
          | succ kf ih441 =>
            intro co hkf hco H locs hP hD hS ls hl
            refine lv_iload_n hx hb dX2_isSame_441 rfl (lv_at hl 0 rfl) ?_
            refine lv_iconst (v := nI 3) hx hb dX2_isSame_442 (by decide) ?_
            refine icN_ge (tgt := 471) hx hb dX2_isSame_443 (by decide) (by omega) (by omega) (fun c_443 => ?_) (fun c_443 => ?_)
            · refine lv_aload_n hx hb dX2_isSame_471 rfl (lv_at hl 3 rfl) ?_
              refine call_VdS (As := []) (rest := []) S (m_X1_meanPossible h0 h1 h2 h3 h4 h5 h6 n wn t tc sc uw c1 c2 s ow hf tf hn hw hs hc1 hb1) g_X2_X1_meanPossible hd_X1_meanPossible ⟨Nat.le_of_ble_eq_true rfl, Nat.le_of_ble_eq_true rfl⟩ ⟨by show _ ≤ 10; omega, by show _ ≤ 90; omega⟩ hP hD hK hS hZ (List.sublist_append_left _ _) (fun r u h9 => h9.2) 0 rfl rfl hl.1 rfl (Nat.le_of_ble_eq_true rfl) dX2_isSame_472 (fun r H locs hq hP hS => ?_)
              obtain ⟨rfl, -⟩ := hq
              refine lv_aload_n hx hb dX2_isSame_475 rfl (lv_at hl 2 rfl) ?_
              refine va_get (D := (dC, dI)) (ci := 2) (v := .int (nI n)) (C := RX2) (T := TX2) (N := 8) hx hb hts inX2 hown hK hP 7 rfl rfl 0 (by decide) (hts _ q_fl_X2_27) (fun _ h9 => h9) rfl dX2_isSame_476 ?_
              refine ifN_ne (tgt := 486) hx hb dX2_isSame_479 (by decide) (by omega) (fun c_479 => ?_) (fun c_479 => absurd c_479 (by omega))
              refine lv_iload_n hx hb dX2_isSame_486 rfl (lv_at hl 1 rfl) ?_
              refine lv_i2d hx hb dX2_isSame_487 ?_
              refine lv_aload_n hx hb dX2_isSame_488 rfl (lv_at hl 2 rfl) ?_
              refine va_get (D := (dC, dI)) (ci := 2) (v := .int (nI n)) (C := RX2) (T := TX2) (N := 8) hx hb hts inX2 hown hK hP 7 rfl rfl 0 (by decide) (hts _ q_fl_X2_27) (fun _ h9 => h9) rfl dX2_isSame_489 ?_
              refine lv_i2d hx hb dX2_isSame_492 ?_
              refine lv_ddiv hx hb dX2_isSame_493 (ddiv_ok h0n hn (by rw [ha, show p = n by omega]; exact R.sumB (Nat.le_refl n))) ?_
              refine lv_dcmp hx hb dX2_isSame_494 ?_
              refine W_i (y := nI 0) (by rw [meanN, if_neg (by omega), ha, show p = n by omega]; exact dself h0n hn (R.sumB (Nat.le_refl n))) ?_
              refine ifN_ne (tgt := 502) hx hb dX2_isSame_495 (by decide) (by omega) (fun c_495 => absurd c_495 (by decide)) (fun c_495 => ?_)
              refine lv_iconst (v := nI 1) hx hb dX2_isSame_498 (by decide) ?_
              refine lv_goto (tgt := 503) hx hb dX2_isSame_499 (by decide) ?_
              refine W.widen (k := 10) (n := 90) (by omega) (by omega) ?_
              exact ret _ (gW cI h0 h1 h2 h3 h4 h5 h6 h1 h2 n wn t tc sc uw c1 c2 s ow hf tf ++ (sW cI cZ cS cW b0 b1 b2 b3 b4 n m tn sl bg ht rs sn rw wy o)) _ _ _ _ dX2_isSame_503 rfl ⟨rfl, rfl⟩ hP hD hS
            · refine lv_aload_n hx hb dX2_isSame_446 rfl (lv_at hl 3 rfl) ?_
              refine lv_iload_n hx hb dX2_isSame_447 rfl (lv_at hl 0 rfl) ?_
              refine call_VpS (As := [.int (nI co)]) (rest := []) S (m_X1_hatsOf h0 h1 h2 h3 h4 h5 h6 n wn t tc sc uw c1 c2 s ow hf tf co (by omega) hn hw hs hc1 hb1) g_X2_X1_hatsOf hd_X1_hatsOf ⟨Nat.le_of_ble_eq_true rfl, Nat.le_of_ble_eq_true rfl⟩ ⟨by show _ ≤ 10; omega, by show _ ≤ 90; omega⟩ hP hD hK hS hZ (List.sublist_append_left _ _) 0 rfl rfl hl.1 rfl (Nat.le_of_ble_eq_true rfl) dX2_isSame_448 (fun r H locs hq hP hS => ?_)
              obtain rfl := hq
              refine lv_aload_n hx hb dX2_isSame_451 rfl (lv_at hl 2 rfl) ?_
              refine lv_aload_n hx hb dX2_isSame_452 rfl (lv_at hl 2 rfl) ?_
              refine va_get (D := (dC, dI)) (ci := 2) (v := .ref b1) (C := RX2) (T := TX2) (N := 8) hx hb hts inX2 hown hK hP 7 rfl rfl 4 (by decide) (hts _ q_fl_X2_7) (fun _ h9 => h9) rfl dX2_isSame_453 ?_
              refine lv_iload_n hx hb dX2_isSame_456 rfl (lv_at hl 0 rfl) ?_
              refine call_VpS (As := [.ref b1, .int (nI co)]) (rest := [.int (nI (hatsN n wn co))]) S (m_X2_have b0 b1 b2 b3 b4 n m tn sl bg ht rs sn rw wy o b1 co ht hn (List.mem_append_left _ (List.mem_cons_of_mem _ List.mem_cons_self)) hht (by omega)) g_X2_X2_have hd_X2_have ⟨Nat.le_of_ble_eq_true rfl, Nat.le_of_ble_eq_true rfl⟩ ⟨by show _ ≤ 10; omega, by show _ ≤ 90; omega⟩ hP hD hK hS hZ (List.sublist_append_right _ _) 0 rfl rfl hl.1 rfl (Nat.le_of_ble_eq_true rfl) dX2_isSame_457 (fun r H locs hq hP hS => ?_)
              obtain rfl := hq
              refine icN_eq (tgt := 465) hx hb dX2_isSame_460 (by decide) (by have := hatsN_le n wn co; omega) (by have := havS_le ht co n; omega) (fun c_460 => ?_) (fun c_460 => absurd c_460 (fun e9 => e9 (R.hat co)))
              refine lv_iinc (v := nI (co + 1)) (lv' := [(3, .int (nI (co + 1))), (2, .int (nI a)), (0, .ref b0), (1, .ref h0)]) hx hb dX2_isSame_465 hl (k := 0) rfl (nI_add _ _) (by decide) rfl (fun ls hl => ?_)
              refine lv_goto (tgt := 441) hx hb dX2_isSame_468 (by decide) ?_
              exact ih441 (co + 1) (by omega) (by omega) _ _ hP hD hS _ (lv_sub hl [0, 1, 2, 3] rfl)
        exact lp441 4 0 (by omega) (by omega) _ _ hP hD hS _ (lv_sub hl [0, 1, 2, 3] rfl)
      · refine lv_iconst (v := nI 0) hx hb dX2_isSame_96 (by decide) ?_
        refine lv_istore (lv' := [(4, .int (nI 0)), (3, .int (nI p)), (2, .int (nI a)), (0, .ref b0), (1, .ref h0)]) hx hb dX2_isSame_97 hl (by decide) rfl (fun ls hl => ?_)
        refine lv_iconst (v := nI 3) hx hb dX2_isSame_99 (by decide) ?_
        refine my_newa (atype := .int) (ty := .int) (cI := cI) (a0 := (3, .inl (fun k => nI ((fun _ => 0) k)))) (N' := 3) hx hb (hts _ q_ac_int) rfl hK 0 rfl (gW cI h0 h1 h2 h3 h4 h5 h6 h1 h2 n wn t tc sc uw c1 c2 s ow hf tf) (sW cI cZ cS cW b0 b1 b2 b3 b4 n m tn sl bg ht rs sn rw wy o) hP hD hS hA (fun _ => rfl) (nI_pos (by omega)) (nI_clamp (by omega)) (Nat.le_of_ble_eq_true rfl) (by show _ ≤ 10; omega) (by show _ ≤ 90; omega) dX2_isSame_100 (by simp) (fun q100 H hP hD hS => ?_)
        have hP : va_P (dC, dI) vwCl (gW cI h0 h1 h2 h3 h4 h5 h6 h1 h2 n wn t tc sc uw c1 c2 s ow hf tf ++ ([(q100, .inl (cI, 3, .inl (fun k => nI ((fun _ => 0) k))))] ++ (sW cI cZ cS cW b0 b1 b2 b3 b4 n m tn sl bg ht rs sn rw wy o))) H := hP
        have hD : va_D A (gW cI h0 h1 h2 h3 h4 h5 h6 h1 h2 n wn t tc sc uw c1 c2 s ow hf tf ++ ([(q100, .inl (cI, 3, .inl (fun k => nI ((fun _ => 0) k))))] ++ (sW cI cZ cS cW b0 b1 b2 b3 b4 n m tn sl bg ht rs sn rw wy o))) := hD
        refine lv_astore (lv' := [(5, .ref q100), (4, .int (nI 0)), (3, .int (nI p)), (2, .int (nI a)), (0, .ref b0), (1, .ref h0)]) hx hb dX2_isSame_102 hl (by decide) rfl (fun ls hl => ?_)
        refine lv_iconst (v := nI 3) hx hb dX2_isSame_104 (by decide) ?_
        refine lv_aload_n hx hb dX2_isSame_105 rfl (lv_at hl 4 rfl) ?_
        refine va_get (D := (dC, dI)) (ci := 2) (v := .int (nI n)) (C := RX2) (T := TX2) (N := 8) hx hb hts inX2 hown hK hP 8 rfl rfl 0 (by decide) (hts _ q_fl_X2_27) (fun _ h9 => h9) rfl dX2_isSame_106 ?_
        refine lv_imul hx hb dX2_isSame_109 ?_
        refine W_i (y := nI (3 * n)) (pk_mul _ _) ?_
        refine my_newa (atype := .boolean) (ty := .boolean) (cI := cZ) (a0 := ((3 * n), .inl (fun k => bI ((fun _ => false) k)))) (N' := (3 * n)) hx hb (hts _ q_ac_boolean) rfl hK 1 rfl (gW cI h0 h1 h2 h3 h4 h5 h6 h1 h2 n wn t tc sc uw c1 c2 s ow hf tf) ([(q100, .inl (cI, 3, .inl (fun k => nI ((fun _ => 0) k))))] ++ (sW cI cZ cS cW b0 b1 b2 b3 b4 n m tn sl bg ht rs sn rw wy o)) hP hD hS hA (fun _ => rfl) (nI_pos (by omega)) (nI_clamp (by omega)) (by show _ * 1 ≤ _; omega) (by show _ ≤ 10; omega) (by show _ ≤ 90; omega) dX2_isSame_110 (by simp) (fun q110 H hP hD hS => ?_)
        have hP : va_P (dC, dI) vwCl (gW cI h0 h1 h2 h3 h4 h5 h6 h1 h2 n wn t tc sc uw c1 c2 s ow hf tf ++ ([(q110, .inl (cZ, 3 * n, .inl (fun k => bI ((fun _ => false) k)))), (q100, .inl (cI, 3, .inl (fun k => nI ((fun _ => 0) k))))] ++ (sW cI cZ cS cW b0 b1 b2 b3 b4 n m tn sl bg ht rs sn rw wy o))) H := hP
        have hD : va_D A (gW cI h0 h1 h2 h3 h4 h5 h6 h1 h2 n wn t tc sc uw c1 c2 s ow hf tf ++ ([(q110, .inl (cZ, 3 * n, .inl (fun k => bI ((fun _ => false) k)))), (q100, .inl (cI, 3, .inl (fun k => nI ((fun _ => 0) k))))] ++ (sW cI cZ cS cW b0 b1 b2 b3 b4 n m tn sl bg ht rs sn rw wy o))) := hD
        refine lv_astore (lv' := [(6, .ref q110), (5, .ref q100), (4, .int (nI 0)), (3, .int (nI p)), (2, .int (nI a)), (0, .ref b0), (1, .ref h0)]) hx hb dX2_isSame_112 hl (by decide) rfl (fun ls hl => ?_)
        refine lv_iconst (v := nI 0) hx hb dX2_isSame_114 (by decide) ?_
        refine lv_istore (lv' := [(7, .int (nI 0)), (6, .ref q110), (5, .ref q100), (4, .int (nI 0)), (3, .int (nI p)), (2, .int (nI a)), (0, .ref b0), (1, .ref h0)]) hx hb dX2_isSame_115 hl (by decide) rfl (fun ls hl => ?_)
        have lp117 : ∀ (kf : Nat) (w : Nat) (pos : Nat) (f : Nat → Nat) (x2 : Nat → Bool), m < w + kf → (w ≤ m) → (pos = cntP (okS n sn wy o p ht) w) → (∀ c, c < 3 → f c = cntP (fun v => o v && wy v p == c) w) → (∀ k, k < n → ∀ c, c < 3 → x2 (3 * k + c) = (List.range w).any (fun v => okS n sn wy o p ht v && wy v k == c)) → ∀ (H : Heap) (locs : List Loc), va_P (dC, dI) vwCl (gW cI h0 h1 h2 h3 h4 h5 h6 h1 h2 n wn t tc sc uw c1 c2 s ow hf tf ++ ([(q110, .inl (cZ, 3 * n, .inl (fun k => bI (x2 k)))), (q100, .inl (cI, 3, .inl (fun k => nI (f k))))] ++ (sW cI cZ cS cW b0 b1 b2 b3 b4 n m tn sl bg ht rs sn rw wy o))) H → va_D A (gW cI h0 h1 h2 h3 h4 h5 h6 h1 h2 n wn t tc sc uw c1 c2 s ow hf tf ++ ([(q110, .inl (cZ, 3 * n, .inl (fun k => bI (x2 k)))), (q100, .inl (cI, 3, .inl (fun k => nI (f k))))] ++ (sW cI cZ cS cW b0 b1 b2 b3 b4 n m tn sl bg ht rs sn rw wy o))) → va_S A sx.heap H locs → ∀ ls : Array Slot, lv_has ls 9 [(7, .int (nI w)), (6, .ref q110), (5, .ref q100), (4, .int (nI pos)), (3, .int (nI p)), (2, .int (nI a)), (0, .ref b0), (1, .ref h0)] → W pr l ev (rmG 5 114 10 90) sx mi ag bl me cd H locs (p * 2 + 1 + 1) (p * 18 + 3 + (3 * n)) Q (F0 mi 117 ls []) := by
          intro kf
          induction kf with
          | zero => intro w pos f x2 hkf hw9 hpos hf9 hh9; exact absurd hkf (by omega)
          | succ kf ih117 =>
            intro w pos f x2 hkf hw9 hpos hf9 hh9 H locs hP hD hS ls hl
            refine lv_iload hx hb dX2_isSame_117 (lv_at hl 0 rfl) ?_
            refine lv_aload_n hx hb dX2_isSame_119 rfl (lv_at hl 6 rfl) ?_
            refine va_get (D := (dC, dI)) (ci := 2) (v := .ref b3) (C := RX2) (T := TX2) (N := 8) hx hb hts inX2 hown hK hP 9 rfl rfl 6 (by decide) (hts _ q_fl_X2_20) (fun _ h9 => h9) rfl dX2_isSame_120 ?_
            refine va_alen (v := nI m) hx hb hK hP 12 3 rfl rfl rfl dX2_isSame_123 ?_
            refine icN_ge (tgt := 224) hx hb dX2_isSame_124 (by decide) (by omega) (by omega) (fun c_124 => ?_) (fun c_124 => ?_)
            · refine lv_iload_n hx hb dX2_isSame_224 rfl (lv_at hl 5 rfl) ?_
              refine lv_iload hx hb dX2_isSame_225 (lv_at hl 3 rfl) ?_
              refine lv_iadd hx hb dX2_isSame_227 ?_
              refine W_i (y := nI (a + pos)) (nI_add _ _) ?_
              refine lv_istore_n (lv' := [(2, .int (nI (a + pos))), (7, .int (nI w)), (6, .ref q110), (5, .ref q100), (4, .int (nI pos)), (3, .int (nI p)), (0, .ref b0), (1, .ref h0)]) hx hb dX2_isSame_228 rfl hl (by decide) rfl (fun ls hl => ?_)
              refine lv_aload_n hx hb dX2_isSame_229 rfl (lv_at hl 7 rfl) ?_
              refine lv_iload_n hx hb dX2_isSame_230 rfl (lv_at hl 5 rfl) ?_
              refine call_VpS (As := [.int (nI p)]) (rest := []) S (m_X1_hatOf h0 h1 h2 h3 h4 h5 h6 n wn t tc sc uw c1 c2 s ow hf tf p (by omega) hn hw hs hc1 hb1) g_X2_X1_hatOf hd_X1_hatOf ⟨Nat.le_of_ble_eq_true rfl, Nat.le_of_ble_eq_true rfl⟩ ⟨by show _ ≤ 10; omega, by show _ ≤ 90; omega⟩ hP hD hK hS hZ (List.sublist_append_left _ _) 0 rfl rfl hl.1 rfl (Nat.le_of_ble_eq_true rfl) dX2_isSame_231 (fun r H locs hq hP hS => ?_)
              obtain rfl := hq
              refine lv_aload_n hx hb dX2_isSame_234 rfl (lv_at hl 6 rfl) ?_
              refine va_get (D := (dC, dI)) (ci := 2) (v := .ref b1) (C := RX2) (T := TX2) (N := 8) hx hb hts inX2 hown hK hP 9 rfl rfl 4 (by decide) (hts _ q_fl_X2_7) (fun _ h9 => h9) rfl dX2_isSame_235 ?_
              refine lv_iload_n hx hb dX2_isSame_238 rfl (lv_at hl 5 rfl) ?_
              refine ia_ld hx hb hK hP 10 0 rfl rfl (j := p) (by omega) (by omega) dX2_isSame_239 ?_
              refine icN_ne (tgt := 300) hx hb dX2_isSame_240 (by decide) (lt_31 (Nat.lt_trans (qd_lt _ _) (by omega))) (by have := hht p (by omega); omega) (fun c_240 => absurd c_240 (fun e9 => e9 (R.gx.qdh (by omega)))) (fun c_240 => ?_)
              refine lv_aload_n hx hb dX2_isSame_243 rfl (lv_at hl 7 rfl) ?_
              refine lv_iload_n hx hb dX2_isSame_244 rfl (lv_at hl 5 rfl) ?_
              refine call_VpS (As := [.int (nI p)]) (rest := []) S (m_X1_possibleWays h0 h1 h2 h3 h4 h5 h6 n wn t tc sc uw c1 c2 s ow hf tf p (by omega) hn hw hs hc1 hb1) g_X2_X1_possibleWays hd_X1_possibleWays ⟨Nat.le_of_ble_eq_true rfl, Nat.le_of_ble_eq_true rfl⟩ ⟨by show _ ≤ 10; omega, by show _ ≤ 90; omega⟩ hP hD hK hS hZ (List.sublist_append_left _ _) 0 rfl rfl hl.1 rfl (Nat.le_of_ble_eq_true rfl) dX2_isSame_245 (fun r H locs hq hP hS => ?_)
              obtain rfl := hq
              refine lv_iload hx hb dX2_isSame_248 (lv_at hl 4 rfl) ?_
              refine icN_ne (tgt := 300) hx hb dX2_isSame_250 (by decide) (by have := possN_le wn (s p) hf c1; omega) (by have := cntP_le (okS n sn wy o p ht) w; omega) (fun c_250 => absurd c_250 (fun e9 => e9 (by rw [R.poss (by omega), hpos, show w = m by omega]))) (fun c_250 => ?_)
              refine lv_aload_n hx hb dX2_isSame_253 rfl (lv_at hl 7 rfl) ?_
              refine lv_iload_n hx hb dX2_isSame_254 rfl (lv_at hl 5 rfl) ?_
              refine call_VpS (As := [.int (nI p)]) (rest := []) S (m_X1_isCertain h0 h1 h2 h3 h4 h5 h6 n wn t tc sc uw c1 c2 s ow hf tf p (by omega) hn hw hs hc1 hb1) g_X2_X1_isCertain hd_X1_isCertain ⟨Nat.le_of_ble_eq_true rfl, Nat.le_of_ble_eq_true rfl⟩ ⟨by show _ ≤ 10; omega, by show _ ≤ 90; omega⟩ hP hD hK hS hZ (List.sublist_append_left _ _) 0 rfl rfl hl.1 rfl (Nat.le_of_ble_eq_true rfl) dX2_isSame_255 (fun r H locs hq hP hS => ?_)
              obtain rfl := hq
              refine lv_aload_n hx hb dX2_isSame_258 rfl (lv_at hl 6 rfl) ?_
              refine lv_iload_n hx hb dX2_isSame_259 rfl (lv_at hl 5 rfl) ?_
              refine lv_iload_n hx hb dX2_isSame_260 rfl (lv_at hl 5 rfl) ?_
              refine lv_aload_n hx hb dX2_isSame_261 rfl (lv_at hl 6 rfl) ?_
              refine va_get (D := (dC, dI)) (ci := 2) (v := .ref b1) (C := RX2) (T := TX2) (N := 8) hx hb hts inX2 hown hK hP 9 rfl rfl 4 (by decide) (hts _ q_fl_X2_7) (fun _ h9 => h9) rfl dX2_isSame_262 ?_
              refine call_VpS (As := [.int (nI p), .int (nI p), .ref b1]) (rest := [.int (bI (cert wn (s p) p (Lof hf c1)))]) S (m_X2_isSure b0 b1 b2 b3 b4 n m tn sl bg ht rs sn rw wy o p p b1 ht hn (by omega) (by omega) (by omega) (List.mem_append_left _ (List.mem_cons_of_mem _ List.mem_cons_self)) hht hwy) g_X2_X2_isSure hd_X2_isSure ⟨Nat.le_of_ble_eq_true rfl, Nat.le_of_ble_eq_true rfl⟩ ⟨by show _ ≤ 10; omega, by show _ ≤ 90; omega⟩ hP hD hK hS hZ ((List.sublist_append_right _ _).trans (List.sublist_append_right _ _)) 0 rfl rfl hl.1 rfl (Nat.le_of_ble_eq_true rfl) dX2_isSame_265 (fun r H locs hq hP hS => ?_)
              obtain rfl := hq
              refine icB_ne (tgt := 300) hx hb dX2_isSame_268 (by decide) (fun c_268 => absurd c_268 (fun e9 => e9 (R.certS (by omega)).symm)) (fun c_268 => ?_)
              refine lv_aload_n hx hb dX2_isSame_271 rfl (lv_at hl 7 rfl) ?_
              refine lv_iload_n hx hb dX2_isSame_272 rfl (lv_at hl 5 rfl) ?_
              refine call_VpS (As := [.int (nI p)]) (rest := []) S (m_X1_isKnownToAll h0 h1 h2 h3 h4 h5 h6 n wn t tc sc uw c1 c2 s ow hf tf p (by omega) hn hw hs hc1 hb1) g_X2_X1_isKnownToAll hd_X1_isKnownToAll ⟨Nat.le_of_ble_eq_true rfl, Nat.le_of_ble_eq_true rfl⟩ ⟨by show _ ≤ 10; omega, by show _ ≤ 90; omega⟩ hP hD hK hS hZ (List.sublist_append_left _ _) 0 rfl rfl hl.1 rfl (Nat.le_of_ble_eq_true rfl) dX2_isSame_273 (fun r H locs hq hP hS => ?_)
              obtain rfl := hq
              refine lv_aload hx hb dX2_isSame_276 (lv_at hl 3 rfl) ?_
              refine lv_aload_n hx hb dX2_isSame_278 rfl (lv_at hl 6 rfl) ?_
              refine va_get (D := (dC, dI)) (ci := 2) (v := .ref b1) (C := RX2) (T := TX2) (N := 8) hx hb hts inX2 hown hK hP 9 rfl rfl 4 (by decide) (hts _ q_fl_X2_7) (fun _ h9 => h9) rfl dX2_isSame_279 ?_
              refine lv_iload_n hx hb dX2_isSame_282 rfl (lv_at hl 5 rfl) ?_
              refine ia_ld hx hb hK hP 10 0 rfl rfl (j := p) (by omega) (by omega) dX2_isSame_283 ?_
              refine ia_ld hx hb hK hP 8 0 rfl rfl (j := ht p) (R.gx.2.1 p (by omega)) (by decide) dX2_isSame_284 ?_
              refine lv_aload_n hx hb dX2_isSame_285 rfl (lv_at hl 6 rfl) ?_
              refine call_VpS (As := []) (rest := [.int (nI (f (ht p))), .int (bI (allN wn p (Lof hf c1)))]) S (m_X2_many b0 b1 b2 b3 b4 n m tn sl bg ht rs sn rw wy o (by omega)) g_X2_X2_many hd_X2_many ⟨Nat.le_of_ble_eq_true rfl, Nat.le_of_ble_eq_true rfl⟩ ⟨by show _ ≤ 10; omega, by show _ ≤ 90; omega⟩ hP hD hK hS hZ ((List.sublist_append_right _ _).trans (List.sublist_append_right _ _)) 0 rfl rfl hl.1 rfl (Nat.le_of_ble_eq_true rfl) dX2_isSame_286 (fun r H locs hq hP hS => ?_)
              obtain rfl := hq
              refine icN_ne (tgt := 296) hx hb dX2_isSame_289 (by decide) (by rw [hf9 _ (R.gx.2.1 p (by omega))]; have := cntP_le (fun v => o v && wy v p == ht p) w; omega) (by have := cntP_le o m; omega) (fun c_289 => ?_) (fun c_289 => ?_)
              · have e97 : allN wn p (Lof hf c1) = false := by rw [hf9 _ (R.gx.2.1 p (by omega)), show w = m by omega] at c_289; rw [R.allk (by omega)]; simpa using c_289
                refine lv_iconst (v := nI 0) hx hb dX2_isSame_296 (by decide) ?_
                refine W_i (y := bI false) (rfl) ?_
                refine icB_eq (tgt := 302) hx hb dX2_isSame_297 (by decide) (fun c_297 => ?_) (fun c_297 => absurd c_297 (fun e9 => e9 e97))
                refine lv_iconst (v := nI 0) hx hb dX2_isSame_302 (by decide) ?_
                refine lv_istore (lv' := [(7, .int (nI 0)), (2, .int (nI (a + pos))), (6, .ref q110), (5, .ref q100), (4, .int (nI pos)), (3, .int (nI p)), (0, .ref b0), (1, .ref h0)]) hx hb dX2_isSame_303 hl (by decide) rfl (fun ls hl => ?_)
                have lp305 : ∀ (kf : Nat) (co : Nat), 3 < co + kf → (co ≤ 3) → ∀ (H : Heap) (locs : List Loc), va_P (dC, dI) vwCl (gW cI h0 h1 h2 h3 h4 h5 h6 h1 h2 n wn t tc sc uw c1 c2 s ow hf tf ++ ([(q110, .inl (cZ, 3 * n, .inl (fun k => bI (x2 k)))), (q100, .inl (cI, 3, .inl (fun k => nI (f k))))] ++ (sW cI cZ cS cW b0 b1 b2 b3 b4 n m tn sl bg ht rs sn rw wy o))) H → va_D A (gW cI h0 h1 h2 h3 h4 h5 h6 h1 h2 n wn t tc sc uw c1 c2 s ow hf tf ++ ([(q110, .inl (cZ, 3 * n, .inl (fun k => bI (x2 k)))), (q100, .inl (cI, 3, .inl (fun k => nI (f k))))] ++ (sW cI cZ cS cW b0 b1 b2 b3 b4 n m tn sl bg ht rs sn rw wy o))) → va_S A sx.heap H locs → ∀ ls : Array Slot, lv_has ls 9 [(7, .int (nI co)), (2, .int (nI (a + pos))), (6, .ref q110), (5, .ref q100), (3, .int (nI p)), (0, .ref b0), (1, .ref h0)] → W pr l ev (rmG 5 114 10 90) sx mi ag bl me cd H locs (p * 2 + 1 + 1) (p * 18 + 3 + (3 * n)) Q (F0 mi 305 ls []) := by
                  intro kf
                  induction kf with
                  | zero => intro co hkf hco; exact absurd hkf (by omega)
                  | succ kf ih305 =>
                    intro co hkf hco H locs hP hD hS ls hl
                    refine lv_iload hx hb dX2_isSame_305 (lv_at hl 0 rfl) ?_
                    refine lv_iconst (v := nI 3) hx hb dX2_isSame_307 (by decide) ?_
                    refine icN_ge (tgt := 334) hx hb dX2_isSame_308 (by decide) (by omega) (by omega) (fun c_308 => ?_) (fun c_308 => ?_)
                    · refine lv_iconst (v := nI 0) hx hb dX2_isSame_334 (by decide) ?_
                      refine lv_istore (lv' := [(7, .int (nI 0)), (2, .int (nI (a + pos))), (6, .ref q110), (5, .ref q100), (3, .int (nI p)), (0, .ref b0), (1, .ref h0)]) hx hb dX2_isSame_335 hl (by decide) rfl (fun ls hl => ?_)
                      have lp337 : ∀ (kf : Nat) (k : Nat), n < k + kf → (k ≤ n) → ∀ (H : Heap) (locs : List Loc), va_P (dC, dI) vwCl (gW cI h0 h1 h2 h3 h4 h5 h6 h1 h2 n wn t tc sc uw c1 c2 s ow hf tf ++ ([(q110, .inl (cZ, 3 * n, .inl (fun k => bI (x2 k)))), (q100, .inl (cI, 3, .inl (fun k => nI (f k))))] ++ (sW cI cZ cS cW b0 b1 b2 b3 b4 n m tn sl bg ht rs sn rw wy o))) H → va_D A (gW cI h0 h1 h2 h3 h4 h5 h6 h1 h2 n wn t tc sc uw c1 c2 s ow hf tf ++ ([(q110, .inl (cZ, 3 * n, .inl (fun k => bI (x2 k)))), (q100, .inl (cI, 3, .inl (fun k => nI (f k))))] ++ (sW cI cZ cS cW b0 b1 b2 b3 b4 n m tn sl bg ht rs sn rw wy o))) → va_S A sx.heap H locs → ∀ ls : Array Slot, lv_has ls 9 [(7, .int (nI k)), (2, .int (nI (a + pos))), (6, .ref q110), (3, .int (nI p)), (0, .ref b0), (1, .ref h0)] → W pr l ev (rmG 5 114 10 90) sx mi ag bl me cd H locs (p * 2 + 1 + 1) (p * 18 + 3 + (3 * n)) Q (F0 mi 337 ls []) := by
                        intro kf
                        induction kf with
                        | zero => intro k hkf hk9; exact absurd hkf (by omega)
                        | succ kf ih337 =>
                          intro k hkf hk9 H locs hP hD hS ls hl
                          refine lv_iload hx hb dX2_isSame_337 (lv_at hl 0 rfl) ?_
                          refine lv_aload_n hx hb dX2_isSame_339 rfl (lv_at hl 4 rfl) ?_
                          refine va_get (D := (dC, dI)) (ci := 2) (v := .int (nI n)) (C := RX2) (T := TX2) (N := 8) hx hb hts inX2 hown hK hP 9 rfl rfl 0 (by decide) (hts _ q_fl_X2_27) (fun _ h9 => h9) rfl dX2_isSame_340 ?_
                          refine icN_ge (tgt := 433) hx hb dX2_isSame_343 (by decide) (by omega) (by omega) (fun c_343 => ?_) (fun c_343 => ?_)
                          · refine lv_iinc (v := nI (p + 1)) (lv' := [(3, .int (nI (p + 1))), (7, .int (nI k)), (2, .int (nI (a + pos))), (6, .ref q110), (0, .ref b0), (1, .ref h0)]) hx hb dX2_isSame_433 hl (k := 3) rfl (nI_add _ _) (by decide) rfl (fun ls hl => ?_)
                            refine lv_goto (tgt := 88) hx hb dX2_isSame_436 (by decide) ?_
                            have hP := hP.sl (u := gW cI h0 h1 h2 h3 h4 h5 h6 h1 h2 n wn t tc sc uw c1 c2 s ow hf tf ++ (sW cI cZ cS cW b0 b1 b2 b3 b4 n m tn sl bg ht rs sn rw wy o)) ((List.sublist_append_right _ _).append_left _)
                            have hD := hD.sl (u := gW cI h0 h1 h2 h3 h4 h5 h6 h1 h2 n wn t tc sc uw c1 c2 s ow hf tf ++ (sW cI cZ cS cW b0 b1 b2 b3 b4 n m tn sl bg ht rs sn rw wy o)) ((List.sublist_append_right _ _).append_left _)
                            refine W.widen (k := (p + 1) * 2) (n := (p + 1) * 18) (by omega) (by omega) ?_
                            exact ih88 (p + 1) _ (by omega) (by omega) (by rw [ha, hpos, show w = m by omega, ← R.poss (by omega)]; rfl) _ _ hP hD hS _ (lv_sub hl [0, 2, 4, 5] rfl)
                          · refine lv_aload_n hx hb dX2_isSame_346 rfl (lv_at hl 5 rfl) ?_
                            refine lv_iload_n hx hb dX2_isSame_347 rfl (lv_at hl 3 rfl) ?_
                            refine lv_iload hx hb dX2_isSame_348 (lv_at hl 0 rfl) ?_
                            refine call_VpS (As := [.int (nI p), .int (nI k)]) (rest := []) S (m_X1_sees h0 h1 h2 h3 h4 h5 h6 n wn t tc sc uw c1 c2 s ow hf tf p k (by omega) (by omega) hn hw hs hc1 hb1) g_X2_X1_sees hd_X1_sees ⟨Nat.le_of_ble_eq_true rfl, Nat.le_of_ble_eq_true rfl⟩ ⟨by show _ ≤ 10; omega, by show _ ≤ 90; omega⟩ hP hD hK hS hZ (List.sublist_append_left _ _) 0 rfl rfl hl.1 rfl (Nat.le_of_ble_eq_true rfl) dX2_isSame_350 (fun r H locs hq hP hS => ?_)
                            obtain rfl := hq
                            refine lv_aload_n hx hb dX2_isSame_353 rfl (lv_at hl 4 rfl) ?_
                            refine va_get (D := (dC, dI)) (ci := 2) (v := .ref b2) (C := RX2) (T := TX2) (N := 8) hx hb hts inX2 hown hK hP 9 rfl rfl 5 (by decide) (hts _ q_fl_X2_15) (fun _ h9 => h9) rfl dX2_isSame_354 ?_
                            refine lv_iload_n hx hb dX2_isSame_357 rfl (lv_at hl 3 rfl) ?_
                            refine aa_ld hx hb hK hP 11 2 rfl rfl (j := p) (by omega) (by omega) dX2_isSame_358 ?_
                            refine lv_iload hx hb dX2_isSame_359 (lv_at hl 0 rfl) ?_
                            refine za_ld hx hb hK (hP.one (List.mem_append_right _ (List.mem_append_right _ (List.mem_append_right _ (List.mem_append_left _ (rB_mem (by omega))))))) 0 1 rfl rfl (j := k) (by omega) (by omega) dX2_isSame_361 ?_
                            refine icB_ne (tgt := 386) hx hb dX2_isSame_362 (by decide) (fun c_362 => absurd c_362 (fun e9 => e9 (R.gx.see (by omega) (by omega)))) (fun c_362 => ?_)
                            refine lv_aload_n hx hb dX2_isSame_365 rfl (lv_at hl 5 rfl) ?_
                            refine lv_iload_n hx hb dX2_isSame_366 rfl (lv_at hl 3 rfl) ?_
                            refine lv_iload hx hb dX2_isSame_367 (lv_at hl 0 rfl) ?_
                            refine call_VpS (As := [.int (nI p), .int (nI k)]) (rest := []) S (m_X1_knowsHatOf h0 h1 h2 h3 h4 h5 h6 n wn t tc sc uw c1 c2 s ow hf tf p k (by omega) (by omega) hn hw hs hc1 hb1) g_X2_X1_knowsHatOf hd_X1_knowsHatOf ⟨Nat.le_of_ble_eq_true rfl, Nat.le_of_ble_eq_true rfl⟩ ⟨by show _ ≤ 10; omega, by show _ ≤ 90; omega⟩ hP hD hK hS hZ (List.sublist_append_left _ _) 0 rfl rfl hl.1 rfl (Nat.le_of_ble_eq_true rfl) dX2_isSame_369 (fun r H locs hq hP hS => ?_)
                            obtain rfl := hq
                            refine lv_aload_n hx hb dX2_isSame_372 rfl (lv_at hl 4 rfl) ?_
                            refine lv_iload_n hx hb dX2_isSame_373 rfl (lv_at hl 3 rfl) ?_
                            refine lv_iload hx hb dX2_isSame_374 (lv_at hl 0 rfl) ?_
                            refine lv_aload_n hx hb dX2_isSame_376 rfl (lv_at hl 4 rfl) ?_
                            refine va_get (D := (dC, dI)) (ci := 2) (v := .ref b1) (C := RX2) (T := TX2) (N := 8) hx hb hts inX2 hown hK hP 9 rfl rfl 4 (by decide) (hts _ q_fl_X2_7) (fun _ h9 => h9) rfl dX2_isSame_377 ?_
                            refine call_VpS (As := [.int (nI p), .int (nI k), .ref b1]) (rest := [.int (bI (knwN wn (s p) k (Lof hf c1)))]) S (m_X2_isSure b0 b1 b2 b3 b4 n m tn sl bg ht rs sn rw wy o p k b1 ht hn (by omega) (by omega) (by omega) (List.mem_append_left _ (List.mem_cons_of_mem _ List.mem_cons_self)) hht hwy) g_X2_X2_isSure hd_X2_isSure ⟨Nat.le_of_ble_eq_true rfl, Nat.le_of_ble_eq_true rfl⟩ ⟨by show _ ≤ 10; omega, by show _ ≤ 90; omega⟩ hP hD hK hS hZ ((List.sublist_append_right _ _).trans (List.sublist_append_right _ _)) 0 rfl rfl hl.1 rfl (Nat.le_of_ble_eq_true rfl) dX2_isSame_380 (fun r H locs hq hP hS => ?_)
                            obtain rfl := hq
                            refine icB_eq (tgt := 388) hx hb dX2_isSame_383 (by decide) (fun c_383 => ?_) (fun c_383 => absurd c_383 (fun e9 => e9 (R.knw (by omega) (by omega)).symm))
                            refine lv_iconst (v := nI 0) hx hb dX2_isSame_388 (by decide) ?_
                            refine lv_istore (lv' := [(8, .int (nI 0)), (7, .int (nI k)), (2, .int (nI (a + pos))), (6, .ref q110), (3, .int (nI p)), (0, .ref b0), (1, .ref h0)]) hx hb dX2_isSame_389 hl (by decide) rfl (fun ls hl => ?_)
                            have lp391 : ∀ (kf : Nat) (d2 : Nat), 3 < d2 + kf → (d2 ≤ 3) → ∀ (H : Heap) (locs : List Loc), va_P (dC, dI) vwCl (gW cI h0 h1 h2 h3 h4 h5 h6 h1 h2 n wn t tc sc uw c1 c2 s ow hf tf ++ ([(q110, .inl (cZ, 3 * n, .inl (fun k => bI (x2 k)))), (q100, .inl (cI, 3, .inl (fun k => nI (f k))))] ++ (sW cI cZ cS cW b0 b1 b2 b3 b4 n m tn sl bg ht rs sn rw wy o))) H → va_D A (gW cI h0 h1 h2 h3 h4 h5 h6 h1 h2 n wn t tc sc uw c1 c2 s ow hf tf ++ ([(q110, .inl (cZ, 3 * n, .inl (fun k => bI (x2 k)))), (q100, .inl (cI, 3, .inl (fun k => nI (f k))))] ++ (sW cI cZ cS cW b0 b1 b2 b3 b4 n m tn sl bg ht rs sn rw wy o))) → va_S A sx.heap H locs → ∀ ls : Array Slot, lv_has ls 9 [(8, .int (nI d2)), (7, .int (nI k)), (2, .int (nI (a + pos))), (6, .ref q110), (3, .int (nI p)), (0, .ref b0), (1, .ref h0)] → W pr l ev (rmG 5 114 10 90) sx mi ag bl me cd H locs (p * 2 + 1 + 1) (p * 18 + 3 + (3 * n)) Q (F0 mi 391 ls []) := by
                              intro kf
                              induction kf with
                              | zero => intro d2 hkf hd2; exact absurd hkf (by omega)
                              | succ kf ih391 =>
                                intro d2 hkf hd2 H locs hP hD hS ls hl
                                refine lv_iload hx hb dX2_isSame_391 (lv_at hl 0 rfl) ?_
                                refine lv_iconst (v := nI 3) hx hb dX2_isSame_393 (by decide) ?_
                                refine icN_ge (tgt := 427) hx hb dX2_isSame_394 (by decide) (by omega) (by omega) (fun c_394 => ?_) (fun c_394 => ?_)
                                · refine lv_iinc (v := nI (k + 1)) (lv' := [(7, .int (nI (k + 1))), (8, .int (nI d2)), (2, .int (nI (a + pos))), (6, .ref q110), (3, .int (nI p)), (0, .ref b0), (1, .ref h0)]) hx hb dX2_isSame_427 hl (k := 1) rfl (nI_add _ _) (by decide) rfl (fun ls hl => ?_)
                                  refine lv_goto (tgt := 337) hx hb dX2_isSame_430 (by decide) ?_
                                  exact ih337 (k + 1) (by omega) (by omega) _ _ hP hD hS _ (lv_sub hl [0, 2, 3, 4, 5, 6] rfl)
                                · refine lv_aload_n hx hb dX2_isSame_397 rfl (lv_at hl 6 rfl) ?_
                                  refine lv_iload_n hx hb dX2_isSame_398 rfl (lv_at hl 4 rfl) ?_
                                  refine lv_iload hx hb dX2_isSame_399 (lv_at hl 1 rfl) ?_
                                  refine lv_iload hx hb dX2_isSame_401 (lv_at hl 0 rfl) ?_
                                  refine call_VpS (As := [.int (nI p), .int (nI k), .int (nI d2)]) (rest := []) S (m_X1_holdsPossible h0 h1 h2 h3 h4 h5 h6 n wn t tc sc uw c1 c2 s ow hf tf p k d2 (by omega) (by omega) (by omega) hn hw hs hc1 hb1) g_X2_X1_holdsPossible hd_X1_holdsPossible ⟨Nat.le_of_ble_eq_true rfl, Nat.le_of_ble_eq_true rfl⟩ ⟨by show _ ≤ 10; omega, by show _ ≤ 90; omega⟩ hP hD hK hS hZ (List.sublist_append_left _ _) 0 rfl rfl hl.1 rfl (Nat.le_of_ble_eq_true rfl) dX2_isSame_403 (fun r H locs hq hP hS => ?_)
                                  obtain rfl := hq
                                  refine lv_aload hx hb dX2_isSame_406 (lv_at hl 3 rfl) ?_
                                  refine lv_iconst (v := nI 3) hx hb dX2_isSame_408 (by decide) ?_
                                  refine lv_iload hx hb dX2_isSame_409 (lv_at hl 1 rfl) ?_
                                  refine lv_imul hx hb dX2_isSame_411 ?_
                                  refine W_i (y := nI (3 * k)) (pk_mul _ _) ?_
                                  refine lv_iload hx hb dX2_isSame_412 (lv_at hl 0 rfl) ?_
                                  refine lv_iadd hx hb dX2_isSame_414 ?_
                                  refine W_i (y := nI ((3 * k) + d2)) (nI_add _ _) ?_
                                  refine za_ld hx hb hK hP 7 1 rfl rfl (j := (3 * k) + d2) (by omega) (by omega) dX2_isSame_415 ?_
                                  refine icB_eq (tgt := 421) hx hb dX2_isSame_416 (by decide) (fun c_416 => ?_) (fun c_416 => absurd c_416 (fun e9 => e9 (by rw [R.hold (by omega) (by omega) (by omega), hh9 k (by omega) d2 (by omega), show w = m by omega])))
                                  refine lv_iinc (v := nI (d2 + 1)) (lv' := [(8, .int (nI (d2 + 1))), (7, .int (nI k)), (2, .int (nI (a + pos))), (6, .ref q110), (3, .int (nI p)), (0, .ref b0), (1, .ref h0)]) hx hb dX2_isSame_421 hl (k := 0) rfl (nI_add _ _) (by decide) rfl (fun ls hl => ?_)
                                  refine lv_goto (tgt := 391) hx hb dX2_isSame_424 (by decide) ?_
                                  exact ih391 (d2 + 1) (by omega) (by omega) _ _ hP hD hS _ (lv_sub hl [0, 1, 2, 3, 4, 5, 6] rfl)
                            exact lp391 4 0 (by omega) (by omega) _ _ hP hD hS _ (lv_sub hl [0, 1, 2, 3, 4, 5, 6] rfl)
                      exact lp337 (n + 1) 0 (by omega) (by omega) _ _ hP hD hS _ (lv_sub hl [0, 1, 2, 4, 5, 6] rfl)
                    · refine lv_aload_n hx hb dX2_isSame_311 rfl (lv_at hl 6 rfl) ?_
                      refine lv_iload_n hx hb dX2_isSame_312 rfl (lv_at hl 4 rfl) ?_
                      refine lv_iload hx hb dX2_isSame_313 (lv_at hl 0 rfl) ?_
                      refine call_VpS (As := [.int (nI p), .int (nI co)]) (rest := []) S (m_X1_openWaysWith h0 h1 h2 h3 h4 h5 h6 n wn t tc sc uw c1 c2 s ow hf tf p co (by omega) (by omega) hn hw hs hc1 hb1) g_X2_X1_openWaysWith hd_X1_openWaysWith ⟨Nat.le_of_ble_eq_true rfl, Nat.le_of_ble_eq_true rfl⟩ ⟨by show _ ≤ 10; omega, by show _ ≤ 90; omega⟩ hP hD hK hS hZ (List.sublist_append_left _ _) 0 rfl rfl hl.1 rfl (Nat.le_of_ble_eq_true rfl) dX2_isSame_315 (fun r H locs hq hP hS => ?_)
                      obtain rfl := hq
                      refine lv_aload hx hb dX2_isSame_318 (lv_at hl 3 rfl) ?_
                      refine lv_iload hx hb dX2_isSame_320 (lv_at hl 0 rfl) ?_
                      refine ia_ld hx hb hK hP 8 0 rfl rfl (j := co) (by omega) (by decide) dX2_isSame_322 ?_
                      refine icN_eq (tgt := 328) hx hb dX2_isSame_323 (by decide) (by have := List.countP_le_length (p := fun x => qd x p == co) (l := Lof hf c1); rw [Lof_len] at this; omega) (by rw [hf9 co (by omega)]; have := cntP_le (fun v => o v && wy v p == co) w; omega) (fun c_323 => ?_) (fun c_323 => absurd c_323 (fun e9 => e9 (by rw [R.withN (by omega), hf9 co (by omega), show w = m by omega])))
                      refine lv_iinc (v := nI (co + 1)) (lv' := [(7, .int (nI (co + 1))), (2, .int (nI (a + pos))), (6, .ref q110), (5, .ref q100), (3, .int (nI p)), (0, .ref b0), (1, .ref h0)]) hx hb dX2_isSame_328 hl (k := 0) rfl (nI_add _ _) (by decide) rfl (fun ls hl => ?_)
                      refine lv_goto (tgt := 305) hx hb dX2_isSame_331 (by decide) ?_
                      exact ih305 (co + 1) (by omega) (by omega) _ _ hP hD hS _ (lv_sub hl [0, 1, 2, 3, 4, 5, 6] rfl)
                exact lp305 4 0 (by omega) (by omega) _ _ hP hD hS _ (lv_sub hl [0, 1, 2, 3, 5, 6, 7] rfl)
              · have e97 : allN wn p (Lof hf c1) = true := by rw [hf9 _ (R.gx.2.1 p (by omega)), show w = m by omega] at c_289; rw [R.allk (by omega)]; simpa using c_289
                refine lv_iconst (v := nI 1) hx hb dX2_isSame_292 (by decide) ?_
                refine W_i (y := bI true) (rfl) ?_
                refine lv_goto (tgt := 297) hx hb dX2_isSame_293 (by decide) ?_
                refine icB_eq (tgt := 302) hx hb dX2_isSame_297 (by decide) (fun c_297 => ?_) (fun c_297 => absurd c_297 (fun e9 => e9 e97))
                refine lv_iconst (v := nI 0) hx hb dX2_isSame_302 (by decide) ?_
                refine lv_istore (lv' := [(7, .int (nI 0)), (2, .int (nI (a + pos))), (6, .ref q110), (5, .ref q100), (4, .int (nI pos)), (3, .int (nI p)), (0, .ref b0), (1, .ref h0)]) hx hb dX2_isSame_303 hl (by decide) rfl (fun ls hl => ?_)
                have lp305 : ∀ (kf : Nat) (co : Nat), 3 < co + kf → (co ≤ 3) → ∀ (H : Heap) (locs : List Loc), va_P (dC, dI) vwCl (gW cI h0 h1 h2 h3 h4 h5 h6 h1 h2 n wn t tc sc uw c1 c2 s ow hf tf ++ ([(q110, .inl (cZ, 3 * n, .inl (fun k => bI (x2 k)))), (q100, .inl (cI, 3, .inl (fun k => nI (f k))))] ++ (sW cI cZ cS cW b0 b1 b2 b3 b4 n m tn sl bg ht rs sn rw wy o))) H → va_D A (gW cI h0 h1 h2 h3 h4 h5 h6 h1 h2 n wn t tc sc uw c1 c2 s ow hf tf ++ ([(q110, .inl (cZ, 3 * n, .inl (fun k => bI (x2 k)))), (q100, .inl (cI, 3, .inl (fun k => nI (f k))))] ++ (sW cI cZ cS cW b0 b1 b2 b3 b4 n m tn sl bg ht rs sn rw wy o))) → va_S A sx.heap H locs → ∀ ls : Array Slot, lv_has ls 9 [(7, .int (nI co)), (2, .int (nI (a + pos))), (6, .ref q110), (5, .ref q100), (3, .int (nI p)), (0, .ref b0), (1, .ref h0)] → W pr l ev (rmG 5 114 10 90) sx mi ag bl me cd H locs (p * 2 + 1 + 1) (p * 18 + 3 + (3 * n)) Q (F0 mi 305 ls []) := by
                  intro kf
                  induction kf with
                  | zero => intro co hkf hco; exact absurd hkf (by omega)
                  | succ kf ih305 =>
                    intro co hkf hco H locs hP hD hS ls hl
                    refine lv_iload hx hb dX2_isSame_305 (lv_at hl 0 rfl) ?_
                    refine lv_iconst (v := nI 3) hx hb dX2_isSame_307 (by decide) ?_
                    refine icN_ge (tgt := 334) hx hb dX2_isSame_308 (by decide) (by omega) (by omega) (fun c_308 => ?_) (fun c_308 => ?_)
                    · refine lv_iconst (v := nI 0) hx hb dX2_isSame_334 (by decide) ?_
                      refine lv_istore (lv' := [(7, .int (nI 0)), (2, .int (nI (a + pos))), (6, .ref q110), (5, .ref q100), (3, .int (nI p)), (0, .ref b0), (1, .ref h0)]) hx hb dX2_isSame_335 hl (by decide) rfl (fun ls hl => ?_)
                      have lp337 : ∀ (kf : Nat) (k : Nat), n < k + kf → (k ≤ n) → ∀ (H : Heap) (locs : List Loc), va_P (dC, dI) vwCl (gW cI h0 h1 h2 h3 h4 h5 h6 h1 h2 n wn t tc sc uw c1 c2 s ow hf tf ++ ([(q110, .inl (cZ, 3 * n, .inl (fun k => bI (x2 k)))), (q100, .inl (cI, 3, .inl (fun k => nI (f k))))] ++ (sW cI cZ cS cW b0 b1 b2 b3 b4 n m tn sl bg ht rs sn rw wy o))) H → va_D A (gW cI h0 h1 h2 h3 h4 h5 h6 h1 h2 n wn t tc sc uw c1 c2 s ow hf tf ++ ([(q110, .inl (cZ, 3 * n, .inl (fun k => bI (x2 k)))), (q100, .inl (cI, 3, .inl (fun k => nI (f k))))] ++ (sW cI cZ cS cW b0 b1 b2 b3 b4 n m tn sl bg ht rs sn rw wy o))) → va_S A sx.heap H locs → ∀ ls : Array Slot, lv_has ls 9 [(7, .int (nI k)), (2, .int (nI (a + pos))), (6, .ref q110), (3, .int (nI p)), (0, .ref b0), (1, .ref h0)] → W pr l ev (rmG 5 114 10 90) sx mi ag bl me cd H locs (p * 2 + 1 + 1) (p * 18 + 3 + (3 * n)) Q (F0 mi 337 ls []) := by
                        intro kf
                        induction kf with
                        | zero => intro k hkf hk9; exact absurd hkf (by omega)
                        | succ kf ih337 =>
                          intro k hkf hk9 H locs hP hD hS ls hl
                          refine lv_iload hx hb dX2_isSame_337 (lv_at hl 0 rfl) ?_
                          refine lv_aload_n hx hb dX2_isSame_339 rfl (lv_at hl 4 rfl) ?_
                          refine va_get (D := (dC, dI)) (ci := 2) (v := .int (nI n)) (C := RX2) (T := TX2) (N := 8) hx hb hts inX2 hown hK hP 9 rfl rfl 0 (by decide) (hts _ q_fl_X2_27) (fun _ h9 => h9) rfl dX2_isSame_340 ?_
                          refine icN_ge (tgt := 433) hx hb dX2_isSame_343 (by decide) (by omega) (by omega) (fun c_343 => ?_) (fun c_343 => ?_)
                          · refine lv_iinc (v := nI (p + 1)) (lv' := [(3, .int (nI (p + 1))), (7, .int (nI k)), (2, .int (nI (a + pos))), (6, .ref q110), (0, .ref b0), (1, .ref h0)]) hx hb dX2_isSame_433 hl (k := 3) rfl (nI_add _ _) (by decide) rfl (fun ls hl => ?_)
                            refine lv_goto (tgt := 88) hx hb dX2_isSame_436 (by decide) ?_
                            have hP := hP.sl (u := gW cI h0 h1 h2 h3 h4 h5 h6 h1 h2 n wn t tc sc uw c1 c2 s ow hf tf ++ (sW cI cZ cS cW b0 b1 b2 b3 b4 n m tn sl bg ht rs sn rw wy o)) ((List.sublist_append_right _ _).append_left _)
                            have hD := hD.sl (u := gW cI h0 h1 h2 h3 h4 h5 h6 h1 h2 n wn t tc sc uw c1 c2 s ow hf tf ++ (sW cI cZ cS cW b0 b1 b2 b3 b4 n m tn sl bg ht rs sn rw wy o)) ((List.sublist_append_right _ _).append_left _)
                            refine W.widen (k := (p + 1) * 2) (n := (p + 1) * 18) (by omega) (by omega) ?_
                            exact ih88 (p + 1) _ (by omega) (by omega) (by rw [ha, hpos, show w = m by omega, ← R.poss (by omega)]; rfl) _ _ hP hD hS _ (lv_sub hl [0, 2, 4, 5] rfl)
                          · refine lv_aload_n hx hb dX2_isSame_346 rfl (lv_at hl 5 rfl) ?_
                            refine lv_iload_n hx hb dX2_isSame_347 rfl (lv_at hl 3 rfl) ?_
                            refine lv_iload hx hb dX2_isSame_348 (lv_at hl 0 rfl) ?_
                            refine call_VpS (As := [.int (nI p), .int (nI k)]) (rest := []) S (m_X1_sees h0 h1 h2 h3 h4 h5 h6 n wn t tc sc uw c1 c2 s ow hf tf p k (by omega) (by omega) hn hw hs hc1 hb1) g_X2_X1_sees hd_X1_sees ⟨Nat.le_of_ble_eq_true rfl, Nat.le_of_ble_eq_true rfl⟩ ⟨by show _ ≤ 10; omega, by show _ ≤ 90; omega⟩ hP hD hK hS hZ (List.sublist_append_left _ _) 0 rfl rfl hl.1 rfl (Nat.le_of_ble_eq_true rfl) dX2_isSame_350 (fun r H locs hq hP hS => ?_)
                            obtain rfl := hq
                            refine lv_aload_n hx hb dX2_isSame_353 rfl (lv_at hl 4 rfl) ?_
                            refine va_get (D := (dC, dI)) (ci := 2) (v := .ref b2) (C := RX2) (T := TX2) (N := 8) hx hb hts inX2 hown hK hP 9 rfl rfl 5 (by decide) (hts _ q_fl_X2_15) (fun _ h9 => h9) rfl dX2_isSame_354 ?_
                            refine lv_iload_n hx hb dX2_isSame_357 rfl (lv_at hl 3 rfl) ?_
                            refine aa_ld hx hb hK hP 11 2 rfl rfl (j := p) (by omega) (by omega) dX2_isSame_358 ?_
                            refine lv_iload hx hb dX2_isSame_359 (lv_at hl 0 rfl) ?_
                            refine za_ld hx hb hK (hP.one (List.mem_append_right _ (List.mem_append_right _ (List.mem_append_right _ (List.mem_append_left _ (rB_mem (by omega))))))) 0 1 rfl rfl (j := k) (by omega) (by omega) dX2_isSame_361 ?_
                            refine icB_ne (tgt := 386) hx hb dX2_isSame_362 (by decide) (fun c_362 => absurd c_362 (fun e9 => e9 (R.gx.see (by omega) (by omega)))) (fun c_362 => ?_)
                            refine lv_aload_n hx hb dX2_isSame_365 rfl (lv_at hl 5 rfl) ?_
                            refine lv_iload_n hx hb dX2_isSame_366 rfl (lv_at hl 3 rfl) ?_
                            refine lv_iload hx hb dX2_isSame_367 (lv_at hl 0 rfl) ?_
                            refine call_VpS (As := [.int (nI p), .int (nI k)]) (rest := []) S (m_X1_knowsHatOf h0 h1 h2 h3 h4 h5 h6 n wn t tc sc uw c1 c2 s ow hf tf p k (by omega) (by omega) hn hw hs hc1 hb1) g_X2_X1_knowsHatOf hd_X1_knowsHatOf ⟨Nat.le_of_ble_eq_true rfl, Nat.le_of_ble_eq_true rfl⟩ ⟨by show _ ≤ 10; omega, by show _ ≤ 90; omega⟩ hP hD hK hS hZ (List.sublist_append_left _ _) 0 rfl rfl hl.1 rfl (Nat.le_of_ble_eq_true rfl) dX2_isSame_369 (fun r H locs hq hP hS => ?_)
                            obtain rfl := hq
                            refine lv_aload_n hx hb dX2_isSame_372 rfl (lv_at hl 4 rfl) ?_
                            refine lv_iload_n hx hb dX2_isSame_373 rfl (lv_at hl 3 rfl) ?_
                            refine lv_iload hx hb dX2_isSame_374 (lv_at hl 0 rfl) ?_
                            refine lv_aload_n hx hb dX2_isSame_376 rfl (lv_at hl 4 rfl) ?_
                            refine va_get (D := (dC, dI)) (ci := 2) (v := .ref b1) (C := RX2) (T := TX2) (N := 8) hx hb hts inX2 hown hK hP 9 rfl rfl 4 (by decide) (hts _ q_fl_X2_7) (fun _ h9 => h9) rfl dX2_isSame_377 ?_
                            refine call_VpS (As := [.int (nI p), .int (nI k), .ref b1]) (rest := [.int (bI (knwN wn (s p) k (Lof hf c1)))]) S (m_X2_isSure b0 b1 b2 b3 b4 n m tn sl bg ht rs sn rw wy o p k b1 ht hn (by omega) (by omega) (by omega) (List.mem_append_left _ (List.mem_cons_of_mem _ List.mem_cons_self)) hht hwy) g_X2_X2_isSure hd_X2_isSure ⟨Nat.le_of_ble_eq_true rfl, Nat.le_of_ble_eq_true rfl⟩ ⟨by show _ ≤ 10; omega, by show _ ≤ 90; omega⟩ hP hD hK hS hZ ((List.sublist_append_right _ _).trans (List.sublist_append_right _ _)) 0 rfl rfl hl.1 rfl (Nat.le_of_ble_eq_true rfl) dX2_isSame_380 (fun r H locs hq hP hS => ?_)
                            obtain rfl := hq
                            refine icB_eq (tgt := 388) hx hb dX2_isSame_383 (by decide) (fun c_383 => ?_) (fun c_383 => absurd c_383 (fun e9 => e9 (R.knw (by omega) (by omega)).symm))
                            refine lv_iconst (v := nI 0) hx hb dX2_isSame_388 (by decide) ?_
                            refine lv_istore (lv' := [(8, .int (nI 0)), (7, .int (nI k)), (2, .int (nI (a + pos))), (6, .ref q110), (3, .int (nI p)), (0, .ref b0), (1, .ref h0)]) hx hb dX2_isSame_389 hl (by decide) rfl (fun ls hl => ?_)
                            have lp391 : ∀ (kf : Nat) (d2 : Nat), 3 < d2 + kf → (d2 ≤ 3) → ∀ (H : Heap) (locs : List Loc), va_P (dC, dI) vwCl (gW cI h0 h1 h2 h3 h4 h5 h6 h1 h2 n wn t tc sc uw c1 c2 s ow hf tf ++ ([(q110, .inl (cZ, 3 * n, .inl (fun k => bI (x2 k)))), (q100, .inl (cI, 3, .inl (fun k => nI (f k))))] ++ (sW cI cZ cS cW b0 b1 b2 b3 b4 n m tn sl bg ht rs sn rw wy o))) H → va_D A (gW cI h0 h1 h2 h3 h4 h5 h6 h1 h2 n wn t tc sc uw c1 c2 s ow hf tf ++ ([(q110, .inl (cZ, 3 * n, .inl (fun k => bI (x2 k)))), (q100, .inl (cI, 3, .inl (fun k => nI (f k))))] ++ (sW cI cZ cS cW b0 b1 b2 b3 b4 n m tn sl bg ht rs sn rw wy o))) → va_S A sx.heap H locs → ∀ ls : Array Slot, lv_has ls 9 [(8, .int (nI d2)), (7, .int (nI k)), (2, .int (nI (a + pos))), (6, .ref q110), (3, .int (nI p)), (0, .ref b0), (1, .ref h0)] → W pr l ev (rmG 5 114 10 90) sx mi ag bl me cd H locs (p * 2 + 1 + 1) (p * 18 + 3 + (3 * n)) Q (F0 mi 391 ls []) := by
                              intro kf
                              induction kf with
                              | zero => intro d2 hkf hd2; exact absurd hkf (by omega)
                              | succ kf ih391 =>
                                intro d2 hkf hd2 H locs hP hD hS ls hl
                                refine lv_iload hx hb dX2_isSame_391 (lv_at hl 0 rfl) ?_
                                refine lv_iconst (v := nI 3) hx hb dX2_isSame_393 (by decide) ?_
                                refine icN_ge (tgt := 427) hx hb dX2_isSame_394 (by decide) (by omega) (by omega) (fun c_394 => ?_) (fun c_394 => ?_)
                                · refine lv_iinc (v := nI (k + 1)) (lv' := [(7, .int (nI (k + 1))), (8, .int (nI d2)), (2, .int (nI (a + pos))), (6, .ref q110), (3, .int (nI p)), (0, .ref b0), (1, .ref h0)]) hx hb dX2_isSame_427 hl (k := 1) rfl (nI_add _ _) (by decide) rfl (fun ls hl => ?_)
                                  refine lv_goto (tgt := 337) hx hb dX2_isSame_430 (by decide) ?_
                                  exact ih337 (k + 1) (by omega) (by omega) _ _ hP hD hS _ (lv_sub hl [0, 2, 3, 4, 5, 6] rfl)
                                · refine lv_aload_n hx hb dX2_isSame_397 rfl (lv_at hl 6 rfl) ?_
                                  refine lv_iload_n hx hb dX2_isSame_398 rfl (lv_at hl 4 rfl) ?_
                                  refine lv_iload hx hb dX2_isSame_399 (lv_at hl 1 rfl) ?_
                                  refine lv_iload hx hb dX2_isSame_401 (lv_at hl 0 rfl) ?_
                                  refine call_VpS (As := [.int (nI p), .int (nI k), .int (nI d2)]) (rest := []) S (m_X1_holdsPossible h0 h1 h2 h3 h4 h5 h6 n wn t tc sc uw c1 c2 s ow hf tf p k d2 (by omega) (by omega) (by omega) hn hw hs hc1 hb1) g_X2_X1_holdsPossible hd_X1_holdsPossible ⟨Nat.le_of_ble_eq_true rfl, Nat.le_of_ble_eq_true rfl⟩ ⟨by show _ ≤ 10; omega, by show _ ≤ 90; omega⟩ hP hD hK hS hZ (List.sublist_append_left _ _) 0 rfl rfl hl.1 rfl (Nat.le_of_ble_eq_true rfl) dX2_isSame_403 (fun r H locs hq hP hS => ?_)
                                  obtain rfl := hq
                                  refine lv_aload hx hb dX2_isSame_406 (lv_at hl 3 rfl) ?_
                                  refine lv_iconst (v := nI 3) hx hb dX2_isSame_408 (by decide) ?_
                                  refine lv_iload hx hb dX2_isSame_409 (lv_at hl 1 rfl) ?_
                                  refine lv_imul hx hb dX2_isSame_411 ?_
                                  refine W_i (y := nI (3 * k)) (pk_mul _ _) ?_
                                  refine lv_iload hx hb dX2_isSame_412 (lv_at hl 0 rfl) ?_
                                  refine lv_iadd hx hb dX2_isSame_414 ?_
                                  refine W_i (y := nI ((3 * k) + d2)) (nI_add _ _) ?_
                                  refine za_ld hx hb hK hP 7 1 rfl rfl (j := (3 * k) + d2) (by omega) (by omega) dX2_isSame_415 ?_
                                  refine icB_eq (tgt := 421) hx hb dX2_isSame_416 (by decide) (fun c_416 => ?_) (fun c_416 => absurd c_416 (fun e9 => e9 (by rw [R.hold (by omega) (by omega) (by omega), hh9 k (by omega) d2 (by omega), show w = m by omega])))
                                  refine lv_iinc (v := nI (d2 + 1)) (lv' := [(8, .int (nI (d2 + 1))), (7, .int (nI k)), (2, .int (nI (a + pos))), (6, .ref q110), (3, .int (nI p)), (0, .ref b0), (1, .ref h0)]) hx hb dX2_isSame_421 hl (k := 0) rfl (nI_add _ _) (by decide) rfl (fun ls hl => ?_)
                                  refine lv_goto (tgt := 391) hx hb dX2_isSame_424 (by decide) ?_
                                  exact ih391 (d2 + 1) (by omega) (by omega) _ _ hP hD hS _ (lv_sub hl [0, 1, 2, 3, 4, 5, 6] rfl)
                            exact lp391 4 0 (by omega) (by omega) _ _ hP hD hS _ (lv_sub hl [0, 1, 2, 3, 4, 5, 6] rfl)
                      exact lp337 (n + 1) 0 (by omega) (by omega) _ _ hP hD hS _ (lv_sub hl [0, 1, 2, 4, 5, 6] rfl)
                    · refine lv_aload_n hx hb dX2_isSame_311 rfl (lv_at hl 6 rfl) ?_
                      refine lv_iload_n hx hb dX2_isSame_312 rfl (lv_at hl 4 rfl) ?_
                      refine lv_iload hx hb dX2_isSame_313 (lv_at hl 0 rfl) ?_
                      refine call_VpS (As := [.int (nI p), .int (nI co)]) (rest := []) S (m_X1_openWaysWith h0 h1 h2 h3 h4 h5 h6 n wn t tc sc uw c1 c2 s ow hf tf p co (by omega) (by omega) hn hw hs hc1 hb1) g_X2_X1_openWaysWith hd_X1_openWaysWith ⟨Nat.le_of_ble_eq_true rfl, Nat.le_of_ble_eq_true rfl⟩ ⟨by show _ ≤ 10; omega, by show _ ≤ 90; omega⟩ hP hD hK hS hZ (List.sublist_append_left _ _) 0 rfl rfl hl.1 rfl (Nat.le_of_ble_eq_true rfl) dX2_isSame_315 (fun r H locs hq hP hS => ?_)
                      obtain rfl := hq
                      refine lv_aload hx hb dX2_isSame_318 (lv_at hl 3 rfl) ?_
                      refine lv_iload hx hb dX2_isSame_320 (lv_at hl 0 rfl) ?_
                      refine ia_ld hx hb hK hP 8 0 rfl rfl (j := co) (by omega) (by decide) dX2_isSame_322 ?_
                      refine icN_eq (tgt := 328) hx hb dX2_isSame_323 (by decide) (by have := List.countP_le_length (p := fun x => qd x p == co) (l := Lof hf c1); rw [Lof_len] at this; omega) (by rw [hf9 co (by omega)]; have := cntP_le (fun v => o v && wy v p == co) w; omega) (fun c_323 => ?_) (fun c_323 => absurd c_323 (fun e9 => e9 (by rw [R.withN (by omega), hf9 co (by omega), show w = m by omega])))
                      refine lv_iinc (v := nI (co + 1)) (lv' := [(7, .int (nI (co + 1))), (2, .int (nI (a + pos))), (6, .ref q110), (5, .ref q100), (3, .int (nI p)), (0, .ref b0), (1, .ref h0)]) hx hb dX2_isSame_328 hl (k := 0) rfl (nI_add _ _) (by decide) rfl (fun ls hl => ?_)
                      refine lv_goto (tgt := 305) hx hb dX2_isSame_331 (by decide) ?_
                      exact ih305 (co + 1) (by omega) (by omega) _ _ hP hD hS _ (lv_sub hl [0, 1, 2, 3, 4, 5, 6] rfl)
                exact lp305 4 0 (by omega) (by omega) _ _ hP hD hS _ (lv_sub hl [0, 1, 2, 3, 5, 6, 7] rfl)
            · refine lv_aload_n hx hb dX2_isSame_127 rfl (lv_at hl 6 rfl) ?_
              refine va_get (D := (dC, dI)) (ci := 2) (v := .ref b4) (C := RX2) (T := TX2) (N := 8) hx hb hts inX2 hown hK hP 9 rfl rfl 7 (by decide) (hts _ q_fl_X2_24) (fun _ h9 => h9) rfl dX2_isSame_128 ?_
              refine lv_iload hx hb dX2_isSame_131 (lv_at hl 0 rfl) ?_
              refine za_ld hx hb hK hP 13 1 rfl rfl (j := w) (by omega) (by omega) dX2_isSame_133 ?_
              refine ifB_ne (tgt := 140) hx hb dX2_isSame_134 (by decide) (fun c_134 => ?_) (fun c_134 => ?_)
              · refine lv_aload hx hb dX2_isSame_140 (lv_at hl 2 rfl) ?_
                refine lv_aload_n hx hb dX2_isSame_142 rfl (lv_at hl 6 rfl) ?_
                refine va_get (D := (dC, dI)) (ci := 2) (v := .ref b3) (C := RX2) (T := TX2) (N := 8) hx hb hts inX2 hown hK hP 9 rfl rfl 6 (by decide) (hts _ q_fl_X2_20) (fun _ h9 => h9) rfl dX2_isSame_143 ?_
                refine lv_iload hx hb dX2_isSame_146 (lv_at hl 0 rfl) ?_
                refine aa_ld hx hb hK hP 12 3 rfl rfl (j := w) (by omega) (by omega) dX2_isSame_148 ?_
                refine lv_iload_n hx hb dX2_isSame_149 rfl (lv_at hl 4 rfl) ?_
                refine ia_ld hx hb hK (hP.one (List.mem_append_right _ (List.mem_append_right _ (List.mem_append_right _ (List.mem_append_right _ (rB_mem (by omega))))))) 0 0 rfl rfl (j := p) (by omega) (by omega) dX2_isSame_150 ?_
                refine lv_dup2_11 hx hb dX2_isSame_151 rfl rfl ?_
                refine ia_ld hx hb hK hP 8 0 rfl rfl (j := wy w p) (R.wy3 w (by omega) p (by omega)) (by decide) dX2_isSame_152 ?_
                refine lv_iconst (v := nI 1) hx hb dX2_isSame_153 (by decide) ?_
                refine lv_iadd hx hb dX2_isSame_154 ?_
                refine W_i (y := nI ((f (wy w p)) + 1)) (nI_add _ _) ?_
                refine ia_st hx hb hK hP hD hS 8 0 rfl rfl (j := wy w p) (v := (f (wy w p)) + 1) (R.wy3 w (by omega) p (by omega)) (by decide) dX2_isSame_155 (fun H locs hP hD hS => ?_)
                have hP : va_P (dC, dI) vwCl (gW cI h0 h1 h2 h3 h4 h5 h6 h1 h2 n wn t tc sc uw c1 c2 s ow hf tf ++ ([(q110, .inl (cZ, 3 * n, .inl (fun k => bI (x2 k)))), (q100, .inl (cI, 3, .inl (fun k => nI ((upN f (wy w p) ((f (wy w p)) + 1)) k))))] ++ (sW cI cZ cS cW b0 b1 b2 b3 b4 n m tn sl bg ht rs sn rw wy o))) H := hP
                have hD : va_D A (gW cI h0 h1 h2 h3 h4 h5 h6 h1 h2 n wn t tc sc uw c1 c2 s ow hf tf ++ ([(q110, .inl (cZ, 3 * n, .inl (fun k => bI (x2 k)))), (q100, .inl (cI, 3, .inl (fun k => nI ((upN f (wy w p) ((f (wy w p)) + 1)) k))))] ++ (sW cI cZ cS cW b0 b1 b2 b3 b4 n m tn sl bg ht rs sn rw wy o))) := hD
                refine lv_aload_n hx hb dX2_isSame_156 rfl (lv_at hl 6 rfl) ?_
                refine lv_iload_n hx hb dX2_isSame_157 rfl (lv_at hl 4 rfl) ?_
                refine lv_aload_n hx hb dX2_isSame_158 rfl (lv_at hl 6 rfl) ?_
                refine va_get (D := (dC, dI)) (ci := 2) (v := .ref b1) (C := RX2) (T := TX2) (N := 8) hx hb hts inX2 hown hK hP 9 rfl rfl 4 (by decide) (hts _ q_fl_X2_7) (fun _ h9 => h9) rfl dX2_isSame_159 ?_
                refine lv_aload_n hx hb dX2_isSame_162 rfl (lv_at hl 6 rfl) ?_
                refine va_get (D := (dC, dI)) (ci := 2) (v := .ref b3) (C := RX2) (T := TX2) (N := 8) hx hb hts inX2 hown hK hP 9 rfl rfl 6 (by decide) (hts _ q_fl_X2_20) (fun _ h9 => h9) rfl dX2_isSame_163 ?_
                refine lv_iload hx hb dX2_isSame_166 (lv_at hl 0 rfl) ?_
                refine aa_ld hx hb hK hP 12 3 rfl rfl (j := w) (by omega) (by omega) dX2_isSame_168 ?_
                refine call_VpS (As := [.int (nI p), .ref b1, .ref (rw w)]) (rest := []) S (m_X2_agree b0 b1 b2 b3 b4 n m tn sl bg ht rs sn rw wy o p b1 (rw w) ht (wy w) hn (by omega) (List.mem_append_left _ (List.mem_cons_of_mem _ List.mem_cons_self)) (List.mem_append_right _ (List.mem_append_right _ (rB_mem (by omega)))) hht (hwy w (by omega))) g_X2_X2_agree hd_X2_agree ⟨Nat.le_of_ble_eq_true rfl, Nat.le_of_ble_eq_true rfl⟩ ⟨by show _ ≤ 10; omega, by show _ ≤ 90; omega⟩ hP hD hK hS hZ ((List.sublist_append_right _ _).trans (List.sublist_append_right _ _)) 0 rfl rfl hl.1 rfl (Nat.le_of_ble_eq_true rfl) dX2_isSame_169 (fun r H locs hq hP hS => ?_)
                obtain rfl := hq
                refine ifB_ne (tgt := 178) hx hb dX2_isSame_172 (by decide) (fun c_172 => ?_) (fun c_172 => ?_)
                · refine lv_iinc (v := nI (pos + 1)) (lv' := [(4, .int (nI (pos + 1))), (7, .int (nI w)), (6, .ref q110), (5, .ref q100), (3, .int (nI p)), (2, .int (nI a)), (0, .ref b0), (1, .ref h0)]) hx hb dX2_isSame_178 hl (k := 3) rfl (nI_add _ _) (by decide) rfl (fun ls hl => ?_)
                  refine lv_iconst (v := nI 0) hx hb dX2_isSame_181 (by decide) ?_
                  refine lv_istore (lv' := [(8, .int (nI 0)), (4, .int (nI (pos + 1))), (7, .int (nI w)), (6, .ref q110), (5, .ref q100), (3, .int (nI p)), (2, .int (nI a)), (0, .ref b0), (1, .ref h0)]) hx hb dX2_isSame_182 hl (by decide) rfl (fun ls hl => ?_)
                  have lp184 : ∀ (kf : Nat) (k8 : Nat) (x3 : Nat → Bool), n < k8 + kf → (k8 ≤ n) → (∀ k, k < n → ∀ c, c < 3 → x3 (3 * k + c) = ((List.range w).any (fun v => okS n sn wy o p ht v && wy v k == c) || (decide (k < k8) && wy w k == c))) → ∀ (H : Heap) (locs : List Loc), va_P (dC, dI) vwCl (gW cI h0 h1 h2 h3 h4 h5 h6 h1 h2 n wn t tc sc uw c1 c2 s ow hf tf ++ ([(q110, .inl (cZ, 3 * n, .inl (fun k => bI (x3 k)))), (q100, .inl (cI, 3, .inl (fun k => nI ((upN f (wy w p) ((f (wy w p)) + 1)) k))))] ++ (sW cI cZ cS cW b0 b1 b2 b3 b4 n m tn sl bg ht rs sn rw wy o))) H → va_D A (gW cI h0 h1 h2 h3 h4 h5 h6 h1 h2 n wn t tc sc uw c1 c2 s ow hf tf ++ ([(q110, .inl (cZ, 3 * n, .inl (fun k => bI (x3 k)))), (q100, .inl (cI, 3, .inl (fun k => nI ((upN f (wy w p) ((f (wy w p)) + 1)) k))))] ++ (sW cI cZ cS cW b0 b1 b2 b3 b4 n m tn sl bg ht rs sn rw wy o))) → va_S A sx.heap H locs → ∀ ls : Array Slot, lv_has ls 9 [(8, .int (nI k8)), (4, .int (nI (pos + 1))), (7, .int (nI w)), (6, .ref q110), (5, .ref q100), (3, .int (nI p)), (2, .int (nI a)), (0, .ref b0), (1, .ref h0)] → W pr l ev (rmG 5 114 10 90) sx mi ag bl me cd H locs (p * 2 + 1 + 1) (p * 18 + 3 + (3 * n)) Q (F0 mi 184 ls []) := by
                    intro kf
                    induction kf with
                    | zero => intro k8 x3 hkf hk8 hh8; exact absurd hkf (by omega)
                    | succ kf ih184 =>
                      intro k8 x3 hkf hk8 hh8 H locs hP hD hS ls hl
                      refine lv_iload hx hb dX2_isSame_184 (lv_at hl 0 rfl) ?_
                      refine lv_aload_n hx hb dX2_isSame_186 rfl (lv_at hl 7 rfl) ?_
                      refine va_get (D := (dC, dI)) (ci := 2) (v := .int (nI n)) (C := RX2) (T := TX2) (N := 8) hx hb hts inX2 hown hK hP 9 rfl rfl 0 (by decide) (hts _ q_fl_X2_27) (fun _ h9 => h9) rfl dX2_isSame_187 ?_
                      refine icN_ge (tgt := 218) hx hb dX2_isSame_190 (by decide) (by omega) (by omega) (fun c_190 => ?_) (fun c_190 => ?_)
                      · refine lv_iinc (v := nI (w + 1)) (lv' := [(7, .int (nI (w + 1))), (8, .int (nI k8)), (4, .int (nI (pos + 1))), (6, .ref q110), (5, .ref q100), (3, .int (nI p)), (2, .int (nI a)), (0, .ref b0), (1, .ref h0)]) hx hb dX2_isSame_218 hl (k := 2) rfl (nI_add _ _) (by decide) rfl (fun ls hl => ?_)
                        refine lv_goto (tgt := 117) hx hb dX2_isSame_221 (by decide) ?_
                        exact ih117 (w + 1) _ _ x3 (by omega) (by omega) (by simp [cntP, okS, c_134, c_172, hpos]) (cnt_up (P := fun c v => o v && wy v p == c) (R.wy3 w (by omega) p (by omega)) (fun c hc => by simp [c_134]) hf9) (fun k hk c hc => by rw [List.range_succ, List.any_append, hh8 k hk c hc]; simp [okS, c_134, c_172, show k < k8 by omega]) _ _ hP hD hS _ (lv_sub hl [0, 3, 4, 2, 5, 6, 7, 8] rfl)
                      · refine lv_aload hx hb dX2_isSame_193 (lv_at hl 3 rfl) ?_
                        refine lv_iconst (v := nI 3) hx hb dX2_isSame_195 (by decide) ?_
                        refine lv_iload hx hb dX2_isSame_196 (lv_at hl 0 rfl) ?_
                        refine lv_imul hx hb dX2_isSame_198 ?_
                        refine W_i (y := nI (3 * k8)) (pk_mul _ _) ?_
                        refine lv_aload_n hx hb dX2_isSame_199 rfl (lv_at hl 7 rfl) ?_
                        refine va_get (D := (dC, dI)) (ci := 2) (v := .ref b3) (C := RX2) (T := TX2) (N := 8) hx hb hts inX2 hown hK hP 9 rfl rfl 6 (by decide) (hts _ q_fl_X2_20) (fun _ h9 => h9) rfl dX2_isSame_200 ?_
                        refine lv_iload hx hb dX2_isSame_203 (lv_at hl 2 rfl) ?_
                        refine aa_ld hx hb hK hP 12 3 rfl rfl (j := w) (by omega) (by omega) dX2_isSame_205 ?_
                        refine lv_iload hx hb dX2_isSame_206 (lv_at hl 0 rfl) ?_
                        refine ia_ld hx hb hK (hP.one (List.mem_append_right _ (List.mem_append_right _ (List.mem_append_right _ (List.mem_append_right _ (rB_mem (by omega))))))) 0 0 rfl rfl (j := k8) (by omega) (by omega) dX2_isSame_208 ?_
                        refine lv_iadd hx hb dX2_isSame_209 ?_
                        refine W_i (y := nI ((3 * k8) + (wy w k8))) (nI_add _ _) ?_
                        refine lv_iconst (v := nI 1) hx hb dX2_isSame_210 (by decide) ?_
                        refine W_i (y := bI true) rfl ?_
                        refine za_st hx hb hK hP hD hS 7 1 rfl rfl (j := (3 * k8) + (wy w k8)) (v := true) (by have := R.wy3 w (by omega) k8 (by omega); omega) (by omega) dX2_isSame_211 (fun H locs hP hD hS => ?_)
                        have hP : va_P (dC, dI) vwCl (gW cI h0 h1 h2 h3 h4 h5 h6 h1 h2 n wn t tc sc uw c1 c2 s ow hf tf ++ ([(q110, .inl (cZ, 3 * n, .inl (fun k => bI ((upN x3 ((3 * k8) + (wy w k8)) true) k)))), (q100, .inl (cI, 3, .inl (fun k => nI ((upN f (wy w p) ((f (wy w p)) + 1)) k))))] ++ (sW cI cZ cS cW b0 b1 b2 b3 b4 n m tn sl bg ht rs sn rw wy o))) H := hP
                        have hD : va_D A (gW cI h0 h1 h2 h3 h4 h5 h6 h1 h2 n wn t tc sc uw c1 c2 s ow hf tf ++ ([(q110, .inl (cZ, 3 * n, .inl (fun k => bI ((upN x3 ((3 * k8) + (wy w k8)) true) k)))), (q100, .inl (cI, 3, .inl (fun k => nI ((upN f (wy w p) ((f (wy w p)) + 1)) k))))] ++ (sW cI cZ cS cW b0 b1 b2 b3 b4 n m tn sl bg ht rs sn rw wy o))) := hD
                        refine lv_iinc (v := nI (k8 + 1)) (lv' := [(8, .int (nI (k8 + 1))), (4, .int (nI (pos + 1))), (7, .int (nI w)), (6, .ref q110), (5, .ref q100), (3, .int (nI p)), (2, .int (nI a)), (0, .ref b0), (1, .ref h0)]) hx hb dX2_isSame_212 hl (k := 0) rfl (nI_add _ _) (by decide) rfl (fun ls hl => ?_)
                        refine lv_goto (tgt := 184) hx hb dX2_isSame_215 (by decide) ?_
                        exact ih184 (k8 + 1) _ (by omega) (by omega) (hold_st (P := fun k c => (List.range w).any (fun v => okS n sn wy o p ht v && wy v k == c)) (by omega) (R.wy3 w (by omega) k8 (by omega)) hh8) _ _ hP hD hS _ (lv_sub hl [0, 1, 2, 3, 4, 5, 6, 7, 8] rfl)
                  exact lp184 (n + 1) 0 x2 (by omega) (by omega) (fun k hk c hc => by rw [hh9 k hk c hc]; simp) _ _ hP hD hS _ (lv_sub hl [0, 1, 2, 3, 4, 5, 6, 7, 8] rfl)
                · refine lv_goto (tgt := 218) hx hb dX2_isSame_175 (by decide) ?_
                  refine lv_iinc (v := nI (w + 1)) (lv' := [(7, .int (nI (w + 1))), (6, .ref q110), (5, .ref q100), (4, .int (nI pos)), (3, .int (nI p)), (2, .int (nI a)), (0, .ref b0), (1, .ref h0)]) hx hb dX2_isSame_218 hl (k := 0) rfl (nI_add _ _) (by decide) rfl (fun ls hl => ?_)
                  refine lv_goto (tgt := 117) hx hb dX2_isSame_221 (by decide) ?_
                  exact ih117 (w + 1) pos _ x2 (by omega) (by omega) (by simp [cntP, okS, c_172, hpos]) (cnt_up (P := fun c v => o v && wy v p == c) (R.wy3 w (by omega) p (by omega)) (fun c hc => by simp [c_134]) hf9) (fun k hk c hc => by rw [List.range_succ, List.any_append, hh9 k hk c hc]; simp [okS, c_172]) _ _ hP hD hS _ (lv_sub hl [0, 1, 2, 3, 4, 5, 6, 7] rfl)
              · refine lv_goto (tgt := 218) hx hb dX2_isSame_137 (by decide) ?_
                refine lv_iinc (v := nI (w + 1)) (lv' := [(7, .int (nI (w + 1))), (6, .ref q110), (5, .ref q100), (4, .int (nI pos)), (3, .int (nI p)), (2, .int (nI a)), (0, .ref b0), (1, .ref h0)]) hx hb dX2_isSame_218 hl (k := 0) rfl (nI_add _ _) (by decide) rfl (fun ls hl => ?_)
                refine lv_goto (tgt := 117) hx hb dX2_isSame_221 (by decide) ?_
                exact ih117 (w + 1) pos f x2 (by omega) (by omega) (by simp [cntP, okS, c_134, hpos]) (fun c hc => by simp [cntP, c_134, hf9 c hc]) (fun k hk c hc => by rw [List.range_succ, List.any_append, hh9 k hk c hc]; simp [okS, c_134]) _ _ hP hD hS _ (lv_sub hl [0, 1, 2, 3, 4, 5, 6, 7] rfl)
        exact lp117 (m + 1) 0 0 _ _ (by omega) (by omega) rfl (fun c hc => rfl) (fun k hk c hc => rfl) _ _ hP hD hS _ (lv_sub hl [0, 1, 2, 3, 4, 5, 6, 7] rfl)
  refine W.widen (k := 0 * 2) (n := 0 * 18) (by omega) (by omega) ?_
  exact lp88 (n + 1) 0 0 (by omega) (by omega) rfl _ _ hP hD hS _ (lv_sub hl [0, 1, 2, 3] rfl)

end
