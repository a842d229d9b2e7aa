/-! what the game's methods answer, in whole numbers -/
def qd (x p : Nat) : Nat := x / 2 ^ (p * 2) &&& 3
def xch (x p q : Nat) : Nat := x ^^^ ((qd x p ^^^ qd x q) * 2 ^ (p * 2)) ^^^ ((qd x p ^^^ qd x q) * 2 ^ (q * 2))
def hatsN : Nat → Nat → Nat → Nat
  | 0, _, _ => 0
  | n + 1, x, c => hatsN n x c + if qd x n = c then 1 else 0
def one1 (b : Nat) : Bool := b == 1 || b == 2 || b == 4 || b == 8
abbrev waW (cI : ClassId) (h1 h5 c : Nat) (hf : Nat → Nat) : va_W := [(h1, .inr (0, [.ref h5, .int (nI c)])), (h5, .inl (cI, 243, .inl (fun k => nI (hf k))))]
abbrev wbW (cI : ClassId) (h1 h5 c : Nat) (hf : Nat → Nat) (h2 h6 c2 : Nat) (tf : Nat → Nat) : va_W := [(h1, .inr (0, [.ref h5, .int (nI c)])), (h5, .inl (cI, 243, .inl (fun k => nI (hf k)))), (h2, .inr (0, [.ref h6, .int (nI c2)])), (h6, .inl (cI, 243, .inl (fun k => nI (tf k))))]
abbrev gW (cI : ClassId) (h0 h1 h2 h3 h4 h5 h6 p1 p2 n wn t tc sc : Nat) (uw : Bool) (c1 c2 : Nat) (s ow hf tf : Nat → Nat) : va_W := [(h0, .inr (1, [.ref p1, .ref p2, .ref h3, .ref h4, .int (nI n), .int (nI wn), .int (nI t), .int (nI tc), .int (nI sc), .int (bI uw)])), (h1, .inr (0, [.ref h5, .int (nI c1)])), (h2, .inr (0, [.ref h6, .int (nI c2)])), (h3, .inl (cI, 5, .inl (fun k => nI (s k)))), (h4, .inl (cI, 1024, .inl (fun k => nI (ow k)))), (h5, .inl (cI, 243, .inl (fun k => nI (hf k)))), (h6, .inl (cI, 243, .inl (fun k => nI (tf k))))]
theorem qd_lt (x p : Nat) : qd x p < 4 := Nat.lt_of_le_of_lt Nat.and_le_right (by omega)
theorem hatsN_le : ∀ (n x c : Nat), hatsN n x c ≤ n
  | 0, _, _ => Nat.le_refl 0
  | n + 1, x, c => by
    have := hatsN_le n x c
    simp only [hatsN]
    split <;> omega
section
variable {l : Launch} {dC : Nat → ClassId} {dI : Nat → Nat → Nat} {cI cZ cS cW : ClassId}

set_option maxHeartbeats 4000000 in
set_option maxRecDepth 100000 in
theorem m_X0_count (h1 h5 c : Nat) (hf : Nat → Nat) : Mp l yX0_count ws_X0_count 0 0 (dC, dI) (tyL cI cZ cS cW) [.ref h1] (waW cI h1 h5 c hf) (fun r => r = nI c) := by
  refine Mi_of (by decide +kernel) (Nat.le_of_ble_eq_true rfl) ?_
  intro pr ev sx mi ag bl me cd Q ls S hP hK hD hZ hl ret
  obtain ⟨hx, hb, hml, hown, hts⟩ := id S
  have hown : sx.vm.findClass RX0 = some mi.cls := hown
  have hS : va_S (wIn (waW cI h1 h5 c hf)) sx.heap sx.heap [] := va_S.rf
  have hl : lv_has ls 1 [(0, .ref h1)] := hl
  refine lv_aload_n hx hb dX0_count_0 rfl (lv_at hl 0 rfl) ?_
  refine va_get (D := (dC, dI)) (ci := 0) (v := .int (nI c)) (C := RX0) (T := TX0) (N := 2) hx hb hts inX0 hown hK hP 0 rfl rfl 1 (by decide) (hts _ q_fl_X0_15) (fun _ h9 => h9) rfl dX0_count_1 ?_
  exact ret _ (waW cI h1 h5 c hf) _ _ _ _ dX0_count_4 rfl ⟨rfl, rfl⟩ (List.Perm.refl _) hP hS

set_option maxHeartbeats 4000000 in
set_option maxRecDepth 100000 in
theorem m_X0_at (h1 h5 c : Nat) (hf : Nat → Nat) (j : Nat) (hj : j < 243) : Mp l yX0_at ws_X0_at 0 0 (dC, dI) (tyL cI cZ cS cW) [.ref h1, .int (nI j)] (waW cI h1 h5 c hf) (fun r => r = nI (hf j)) := by
  refine Mi_of (by decide +kernel) (Nat.le_of_ble_eq_true rfl) ?_
  intro pr ev sx mi ag bl me cd Q ls S hP hK hD hZ hl ret
  obtain ⟨hx, hb, hml, hown, hts⟩ := id S
  have hown : sx.vm.findClass RX0 = some mi.cls := hown
  have hS : va_S (wIn (waW cI h1 h5 c hf)) sx.heap sx.heap [] := va_S.rf
  have hl : lv_has ls 2 [(0, .ref h1), (1, .int (nI j))] := hl
  refine lv_iload_n hx hb dX0_at_0 rfl (lv_at hl 1 rfl) ?_
  refine ifN_lt (tgt := 22) hx hb dX0_at_1 (by decide) (by omega) (fun c_1 => absurd c_1 id) (fun c_1 => ?_)
  refine lv_iload_n hx hb dX0_at_4 rfl (lv_at hl 1 rfl) ?_
  refine lv_aload_n hx hb dX0_at_5 rfl (lv_at hl 0 rfl) ?_
  refine va_get (D := (dC, dI)) (ci := 0) (v := .ref h5) (C := RX0) (T := TX0) (N := 2) hx hb hts inX0 hown hK hP 0 rfl rfl 0 (by decide) (hts _ q_fl_X0_9) (fun _ h9 => h9) rfl dX0_at_6 ?_
  refine va_alen (v := nI 243) hx hb hK hP 1 0 rfl rfl rfl dX0_at_9 ?_
  refine icN_ge (tgt := 22) hx hb dX0_at_10 (by decide) (by omega) (by omega) (fun c_10 => absurd c_10 (by omega)) (fun c_10 => ?_)
  refine lv_aload_n hx hb dX0_at_13 rfl (lv_at hl 0 rfl) ?_
  refine va_get (D := (dC, dI)) (ci := 0) (v := .ref h5) (C := RX0) (T := TX0) (N := 2) hx hb hts inX0 hown hK hP 0 rfl rfl 0 (by decide) (hts _ q_fl_X0_9) (fun _ h9 => h9) rfl dX0_at_14 ?_
  refine lv_iload_n hx hb dX0_at_17 rfl (lv_at hl 1 rfl) ?_
  refine ia_ld hx hb hK hP 1 0 rfl rfl (j := j) (by omega) (by decide) dX0_at_18 ?_
  refine lv_goto (tgt := 23) hx hb dX0_at_19 (by decide) ?_
  exact ret _ (waW cI h1 h5 c hf) _ _ _ _ dX0_at_23 rfl ⟨rfl, rfl⟩ (List.Perm.refl _) hP hS

set_option maxHeartbeats 4000000 in
set_option maxRecDepth 100000 in
theorem m_X0_add (h1 h5 c : Nat) (hf : Nat → Nat) (x : Nat) (hc : c < 243) : Mv l yX0_add ws_X0_add 0 0 (dC, dI) (tyL cI cZ cS cW) [.ref h1, .int (nI x)] (waW cI h1 h5 c hf) (fun u => u = waW cI h1 h5 (c + 1) (upN hf c x)) := by
  refine Mv_of (by decide +kernel) (Nat.le_of_ble_eq_true rfl) ?_
  intro pr ev sx mi ag bl me cd Q ls S hP hK hD hZ hl ret
  obtain ⟨hx, hb, hml, hown, hts⟩ := id S
  have hown : sx.vm.findClass RX0 = some mi.cls := hown
  have hS : va_S (wIn (waW cI h1 h5 c hf)) sx.heap sx.heap [] := va_S.rf
  have hl : lv_has ls 2 [(0, .ref h1), (1, .int (nI x))] := hl
  refine lv_aload_n hx hb dX0_add_0 rfl (lv_at hl 0 rfl) ?_
  refine va_get (D := (dC, dI)) (ci := 0) (v := .int (nI c)) (C := RX0) (T := TX0) (N := 2) hx hb hts inX0 hown hK hP 0 rfl rfl 1 (by decide) (hts _ q_fl_X0_15) (fun _ h9 => h9) rfl dX0_add_1 ?_
  refine ifN_lt (tgt := 39) hx hb dX0_add_4 (by decide) (by omega) (fun c_4 => absurd c_4 id) (fun c_4 => ?_)
  refine lv_aload_n hx hb dX0_add_7 rfl (lv_at hl 0 rfl) ?_
  refine va_get (D := (dC, dI)) (ci := 0) (v := .int (nI c)) (C := RX0) (T := TX0) (N := 2) hx hb hts inX0 hown hK hP 0 rfl rfl 1 (by decide) (hts _ q_fl_X0_15) (fun _ h9 => h9) rfl dX0_add_8 ?_
  refine lv_aload_n hx hb dX0_add_11 rfl (lv_at hl 0 rfl) ?_
  refine va_get (D := (dC, dI)) (ci := 0) (v := .ref h5) (C := RX0) (T := TX0) (N := 2) hx hb hts inX0 hown hK hP 0 rfl rfl 0 (by decide) (hts _ q_fl_X0_9) (fun _ h9 => h9) rfl dX0_add_12 ?_
  refine va_alen (v := nI 243) hx hb hK hP 1 0 rfl rfl rfl dX0_add_15 ?_
  refine icN_ge (tgt := 39) hx hb dX0_add_16 (by decide) (by omega) (by omega) (fun c_16 => absurd c_16 (by omega)) (fun c_16 => ?_)
  refine lv_aload_n hx hb dX0_add_19 rfl (lv_at hl 0 rfl) ?_
  refine va_get (D := (dC, dI)) (ci := 0) (v := .ref h5) (C := RX0) (T := TX0) (N := 2) hx hb hts inX0 hown hK hP 0 rfl rfl 0 (by decide) (hts _ q_fl_X0_9) (fun _ h9 => h9) rfl dX0_add_20 ?_
  refine lv_aload_n hx hb dX0_add_23 rfl (lv_at hl 0 rfl) ?_
  refine va_get (D := (dC, dI)) (ci := 0) (v := .int (nI c)) (C := RX0) (T := TX0) (N := 2) hx hb hts inX0 hown hK hP 0 rfl rfl 1 (by decide) (hts _ q_fl_X0_15) (fun _ h9 => h9) rfl dX0_add_24 ?_
  refine lv_iload_n hx hb dX0_add_27 rfl (lv_at hl 1 rfl) ?_
  refine ia_st hx hb hK hP hD hS 1 0 rfl rfl (j := c) (v := x) (by omega) (by decide) dX0_add_28 (fun H locs hP hD hS => ?_)
  have hP : va_P (dC, dI) vwCl (waW cI h1 h5 c (upN hf c x)) H := hP
  have hD : va_D (wIn (waW cI h1 h5 c hf)) (waW cI h1 h5 c (upN hf c x)) := hD
  refine lv_aload_n hx hb dX0_add_29 rfl (lv_at hl 0 rfl) ?_
  refine lv_dup hx hb dX0_add_30 rfl ?_
  refine va_get (D := (dC, dI)) (ci := 0) (v := .int (nI c)) (C := RX0) (T := TX0) (N := 2) hx hb hts inX0 hown hK hP 0 rfl rfl 1 (by decide) (hts _ q_fl_X0_15) (fun _ h9 => h9) rfl dX0_add_31 ?_
  refine lv_iconst (v := nI 1) hx hb dX0_add_34 (by decide) ?_
  refine lv_iadd hx hb dX0_add_35 ?_
  refine W_i (y := nI (c + 1)) (nI_add _ _) ?_
  refine va_put (D := (dC, dI)) (ci := 0) (v := .int (nI (c + 1))) (ty := .int) (C := RX0) (T := TX0) (N := 2) hx hb hts inX0 tyX0 tyX0_ok nmX0 hown hK hP hD hS 0 rfl rfl 1 (by decide) (hts _ q_fl_X0_15) (fun _ h9 => h9) rfl (by decide +kernel) rfl rfl (Nat.le_of_ble_eq_true rfl) dX0_add_36 (fun H locs hP hD hS => ?_)
  have hP : va_P (dC, dI) vwCl (waW cI h1 h5 (c + 1) (upN hf c x)) H := hP
  have hD : va_D (wIn (waW cI h1 h5 c hf)) (waW cI h1 h5 (c + 1) (upN hf c x)) := hD
  exact ret (waW cI h1 h5 (c + 1) (upN hf c x)) _ _ _ _ dX0_add_39 rfl (List.Perm.refl _) hP hS

set_option maxHeartbeats 4000000 in
set_option maxRecDepth 100000 in
theorem m_X0_clear (h1 h5 c : Nat) (hf : Nat → Nat) : Mv l yX0_clear ws_X0_clear 0 0 (dC, dI) (tyL cI cZ cS cW) [.ref h1] (waW cI h1 h5 c hf) (fun u => u = waW cI h1 h5 0 hf) := by
  refine Mv_of (by decide +kernel) (Nat.le_of_ble_eq_true rfl) ?_
  intro pr ev sx mi ag bl me cd Q ls S hP hK hD hZ hl ret
  obtain ⟨hx, hb, hml, hown, hts⟩ := id S
  have hown : sx.vm.findClass RX0 = some mi.cls := hown
  have hS : va_S (wIn (waW cI h1 h5 c hf)) sx.heap sx.heap [] := va_S.rf
  have hl : lv_has ls 1 [(0, .ref h1)] := hl
  refine lv_aload_n hx hb dX0_clear_0 rfl (lv_at hl 0 rfl) ?_
  refine lv_iconst (v := nI 0) hx hb dX0_clear_1 (by decide) ?_
  refine va_put (D := (dC, dI)) (ci := 0) (v := .int (nI 0)) (ty := .int) (C := RX0) (T := TX0) (N := 2) hx hb hts inX0 tyX0 tyX0_ok nmX0 hown hK hP hD hS 0 rfl rfl 1 (by decide) (hts _ q_fl_X0_15) (fun _ h9 => h9) rfl (by decide +kernel) rfl rfl (Nat.le_of_ble_eq_true rfl) dX0_clear_2 (fun H locs hP hD hS => ?_)
  have hP : va_P (dC, dI) vwCl (waW cI h1 h5 0 hf) H := hP
  have hD : va_D (wIn (waW cI h1 h5 c hf)) (waW cI h1 h5 0 hf) := hD
  exact ret (waW cI h1 h5 0 hf) _ _ _ _ dX0_clear_5 rfl (List.Perm.refl _) hP hS

set_option maxHeartbeats 4000000 in
set_option maxRecDepth 100000 in
theorem m_X0_put (h1 h5 c : Nat) (hf : Nat → Nat) (j x : Nat) (hj : j < 243) : Mv l yX0_put ws_X0_put 0 0 (dC, dI) (tyL cI cZ cS cW) [.ref h1, .int (nI j), .int (nI x)] (waW cI h1 h5 c hf) (fun u => u = waW cI h1 h5 c (upN hf j x)) := by
  refine Mv_of (by decide +kernel) (Nat.le_of_ble_eq_true rfl) ?_
  intro pr ev sx mi ag bl me cd Q ls S hP hK hD hZ hl ret
  obtain ⟨hx, hb, hml, hown, hts⟩ := id S
  have hown : sx.vm.findClass RX0 = some mi.cls := hown
  have hS : va_S (wIn (waW cI h1 h5 c hf)) sx.heap sx.heap [] := va_S.rf
  have hl : lv_has ls 3 [(0, .ref h1), (1, .int (nI j)), (2, .int (nI x))] := hl
  refine lv_iload_n hx hb dX0_put_0 rfl (lv_at hl 1 rfl) ?_
  refine ifN_lt (tgt := 20) hx hb dX0_put_1 (by decide) (by omega) (fun c_1 => absurd c_1 id) (fun c_1 => ?_)
  refine lv_iload_n hx hb dX0_put_4 rfl (lv_at hl 1 rfl) ?_
  refine lv_aload_n hx hb dX0_put_5 rfl (lv_at hl 0 rfl) ?_
  refine va_get (D := (dC, dI)) (ci := 0) (v := .ref h5) (C := RX0) (T := TX0) (N := 2) hx hb hts inX0 hown hK hP 0 rfl rfl 0 (by decide) (hts _ q_fl_X0_9) (fun _ h9 => h9) rfl dX0_put_6 ?_
  refine va_alen (v := nI 243) hx hb hK hP 1 0 rfl rfl rfl dX0_put_9 ?_
  refine icN_ge (tgt := 20) hx hb dX0_put_10 (by decide) (by omega) (by omega) (fun c_10 => absurd c_10 (by omega)) (fun c_10 => ?_)
  refine lv_aload_n hx hb dX0_put_13 rfl (lv_at hl 0 rfl) ?_
  refine va_get (D := (dC, dI)) (ci := 0) (v := .ref h5) (C := RX0) (T := TX0) (N := 2) hx hb hts inX0 hown hK hP 0 rfl rfl 0 (by decide) (hts _ q_fl_X0_9) (fun _ h9 => h9) rfl dX0_put_14 ?_
  refine lv_iload_n hx hb dX0_put_17 rfl (lv_at hl 1 rfl) ?_
  refine lv_iload_n hx hb dX0_put_18 rfl (lv_at hl 2 rfl) ?_
  refine ia_st hx hb hK hP hD hS 1 0 rfl rfl (j := j) (v := x) (by omega) (by decide) dX0_put_19 (fun H locs hP hD hS => ?_)
  have hP : va_P (dC, dI) vwCl (waW cI h1 h5 c (upN hf j x)) H := hP
  have hD : va_D (wIn (waW cI h1 h5 c hf)) (waW cI h1 h5 c (upN hf j x)) := hD
  exact ret (waW cI h1 h5 c (upN hf j x)) _ _ _ _ dX0_put_20 rfl (List.Perm.refl _) hP hS

set_option maxHeartbeats 4000000 in
set_option maxRecDepth 100000 in
theorem m_X0_copyFrom (h1 h5 c : Nat) (hf : Nat → Nat) (h2 h6 c2 : Nat) (tf : Nat → Nat) (hc2 : c2 ≤ 243) : Mv l yX0_copyFrom ws_X0_copyFrom 1 21 (dC, dI) (tyL cI cZ cS cW) [.ref h1, .ref h2] (wbW cI h1 h5 c hf h2 h6 c2 tf) (fun u => ∃ hf2, u = wbW cI h1 h5 c2 hf2 h2 h6 c2 tf ∧ ∀ j, j < c2 → hf2 j = tf j) := by
  refine Mv_of (by decide +kernel) (Nat.le_of_ble_eq_true rfl) ?_
  intro pr ev sx mi ag bl me cd Q ls S hP hK hD hZ hl ret
  obtain ⟨hx, hb, hml, hown, hts⟩ := id S
  have hown : sx.vm.findClass RX0 = some mi.cls := hown
  have hS : va_S (wIn (wbW cI h1 h5 c hf h2 h6 c2 tf)) sx.heap sx.heap [] := va_S.rf
  have hl : lv_has ls 3 [(0, .ref h1), (1, .ref h2)] := hl
  refine lv_aload_n hx hb dX0_copyFrom_0 rfl (lv_at hl 0 rfl) ?_
  refine call_Vv (As := []) (wr := [(h2, .inr (0, [.ref h6, .int (nI c2)])), (h6, .inl (cI, 243, .inl (fun k => nI (tf k))))]) (rest := []) S (m_X0_clear h1 h5 c hf) g_X0_X0_clear hd_X0_clear ⟨Nat.le_of_ble_eq_true rfl, Nat.le_of_ble_eq_true rfl⟩ ⟨Nat.zero_le _, Nat.zero_le _⟩ hP hD hK hS hZ [0, 1] [2, 3] rfl rfl (by decide) 0 rfl rfl hl.1 rfl (Nat.le_of_ble_eq_true rfl) dX0_copyFrom_1 (fun u H locs hq hP hD hS => ?_)
  obtain rfl := hq
  have hP := hP.sub (ws' := wbW cI h1 h5 0 hf h2 h6 c2 tf) [2, 3, 0, 1] rfl
  have hD := hD.sub (ws' := wbW cI h1 h5 0 hf h2 h6 c2 tf) [2, 3, 0, 1] (by decide) rfl
  refine lv_iconst (v := nI 0) hx hb dX0_copyFrom_4 (by decide) ?_
  refine lv_istore_n (lv' := [(2, .int (nI 0)), (0, .ref h1), (1, .ref h2)]) hx hb dX0_copyFrom_5 rfl hl (by decide) rfl (fun ls hl => ?_)
  have lp6 : ∀ (kf : Nat) (i : Nat) (g : Nat → Nat), c2 < i + kf → (i ≤ c2) → (∀ j, j < i → g j = tf j) → ∀ (H : Heap) (locs : List Loc), va_P (dC, dI) vwCl (wbW cI h1 h5 i g h2 h6 c2 tf) H → va_D (wIn (wbW cI h1 h5 c hf h2 h6 c2 tf)) (wbW cI h1 h5 i g h2 h6 c2 tf) → va_S (wIn (wbW cI h1 h5 c hf h2 h6 c2 tf)) sx.heap H locs → ∀ ls : Array Slot, lv_has ls 3 [(2, .int (nI i)), (0, .ref h1), (1, .ref h2)] → W pr l ev (rmB 1 21) sx mi ag bl me cd H locs 0 0 Q (F0 mi 6 ls []) := by
    intro kf
    induction kf with
    | zero => intro i g hkf hi hg; exact absurd hkf (by omega)
    | succ kf ih6 =>
      intro i g hkf hi hg H locs hP hD hS ls hl
      refine lv_iload_n hx hb dX0_copyFrom_6 rfl (lv_at hl 0 rfl) ?_
      refine lv_aload_n hx hb dX0_copyFrom_7 rfl (lv_at hl 2 rfl) ?_
      refine call_Vp (As := []) (rest := [.int (nI i)]) S (m_X0_count h2 h6 c2 tf) g_X0_X0_count hd_X0_count ⟨Nat.le_of_ble_eq_true rfl, Nat.le_of_ble_eq_true rfl⟩ ⟨Nat.zero_le _, Nat.zero_le _⟩ hP hD hK hS hZ [2, 3] rfl (by decide) 0 rfl rfl hl.1 rfl (Nat.le_of_ble_eq_true rfl) dX0_copyFrom_8 (fun r H locs hq hP hS => ?_)
      obtain rfl := hq
      refine icN_ge (tgt := 29) hx hb dX0_copyFrom_11 (by decide) (by omega) (by omega) (fun c_11 => ?_) (fun c_11 => ?_)
      · exact ret (wbW cI h1 h5 i g h2 h6 c2 tf) _ _ _ _ dX0_copyFrom_29 ⟨g, by rw [show i = c2 by omega], fun j hj => hg j (by omega)⟩ (List.Perm.refl _) hP hS
      · refine lv_aload_n hx hb dX0_copyFrom_14 rfl (lv_at hl 1 rfl) ?_
        refine lv_aload_n hx hb dX0_copyFrom_15 rfl (lv_at hl 2 rfl) ?_
        refine lv_iload_n hx hb dX0_copyFrom_16 rfl (lv_at hl 0 rfl) ?_
        refine call_Vp (As := [.int (nI i)]) (rest := [.ref h1]) S (m_X0_at h2 h6 c2 tf i (by omega)) g_X0_X0_at hd_X0_at ⟨Nat.le_of_ble_eq_true rfl, Nat.le_of_ble_eq_true rfl⟩ ⟨Nat.zero_le _, Nat.zero_le _⟩ hP hD hK hS hZ [2, 3] rfl (by decide) 0 rfl rfl hl.1 rfl (Nat.le_of_ble_eq_true rfl) dX0_copyFrom_17 (fun r H locs hq hP hS => ?_)
        obtain rfl := hq
        refine call_Vv (As := [.int (nI (tf i))]) (wr := [(h2, .inr (0, [.ref h6, .int (nI c2)])), (h6, .inl (cI, 243, .inl (fun k => nI (tf k))))]) (rest := []) S (m_X0_add h1 h5 i g (tf i) (by omega)) g_X0_X0_add hd_X0_add ⟨Nat.le_of_ble_eq_true rfl, Nat.le_of_ble_eq_true rfl⟩ ⟨Nat.zero_le _, Nat.zero_le _⟩ hP hD hK hS hZ [0, 1] [2, 3] rfl rfl (by decide) 0 rfl rfl hl.1 rfl (Nat.le_of_ble_eq_true rfl) dX0_copyFrom_20 (fun u H locs hq hP hD hS => ?_)
        obtain rfl := hq
        have hP := hP.sub (ws' := wbW cI h1 h5 (i + 1) (upN g i (tf i)) h2 h6 c2 tf) [2, 3, 0, 1] rfl
        have hD := hD.sub (ws' := wbW cI h1 h5 (i + 1) (upN g i (tf i)) h2 h6 c2 tf) [2, 3, 0, 1] (by decide) rfl
        refine lv_iinc (v := nI (i + 1)) (lv' := [(2, .int (nI (i + 1))), (0, .ref h1), (1, .ref h2)]) hx hb dX0_copyFrom_23 hl (k := 0) rfl (nI_add _ _) (by decide) rfl (fun ls hl => ?_)
        refine lv_goto (tgt := 6) hx hb dX0_copyFrom_26 (by decide) ?_
        exact ih6 (i + 1) _ (by omega) (by omega) (fun j hj => by by_cases hji : j = i; (· subst hji; exact upN_s _ _ _); (· rw [upN_n _ _ hji]; exact hg j (by omega))) _ _ hP hD hS _ (lv_sub hl [0, 1, 2] rfl)
  exact lp6 (c2 + 1) 0 hf (by omega) (by omega) (fun j hj => absurd hj (by omega)) _ _ hP hD hS _ (lv_sub hl [0, 1, 2] rfl)

set_option maxHeartbeats 4000000 in
set_option maxRecDepth 100000 in
theorem m_X1_shiftOf (p : Nat) : Mp l yX1_shiftOf ws_X1_shiftOf 0 0 (dC, dI) (tyL cI cZ cS cW) [.int (nI p)] ([]) (fun r => r = nI (p * 2)) := by
  refine Mi_of (by decide +kernel) (Nat.le_of_ble_eq_true rfl) ?_
  intro pr ev sx mi ag bl me cd Q ls S hP hK hD hZ hl ret
  obtain ⟨hx, hb, hml, hown, hts⟩ := id S
  have hown : sx.vm.findClass RX1 = some mi.cls := hown
  have hS : va_S (wIn ([])) sx.heap sx.heap [] := va_S.rf
  have hl : lv_has ls 1 [(0, .int (nI p))] := hl
  refine lv_iload_n hx hb dX1_shiftOf_0 rfl (lv_at hl 0 rfl) ?_
  refine lv_iconst (v := nI 2) hx hb dX1_shiftOf_1 (by decide) ?_
  refine lv_imul hx hb dX1_shiftOf_2 ?_
  refine W_i (y := nI (p * 2)) (pk_mul _ _) ?_
  exact ret _ ([]) _ _ _ _ dX1_shiftOf_3 rfl ⟨rfl, rfl⟩ (List.Perm.refl _) hP hS

set_option maxHeartbeats 4000000 in
set_option maxRecDepth 100000 in
theorem m_X1_hatMask (p : Nat) (hp : p < 5) : Mp l yX1_hatMask ws_X1_hatMask 1 20 (dC, dI) (tyL cI cZ cS cW) [.int (nI p)] ([]) (fun r => r = nI (3 * 2 ^ (p * 2))) := by
  refine Mi_of (by decide +kernel) (Nat.le_of_ble_eq_true rfl) ?_
  intro pr ev sx mi ag bl me cd Q ls S hP hK hD hZ hl ret
  obtain ⟨hx, hb, hml, hown, hts⟩ := id S
  have hown : sx.vm.findClass RX1 = some mi.cls := hown
  have hS : va_S (wIn ([])) sx.heap sx.heap [] := va_S.rf
  have hl : lv_has ls 1 [(0, .int (nI p))] := hl
  refine lv_iconst (v := nI 3) hx hb dX1_hatMask_0 (by decide) ?_
  refine lv_iload_n hx hb dX1_hatMask_1 rfl (lv_at hl 0 rfl) ?_
  refine call_Sp (As := [.int (nI p)]) (rest := [.int (nI 3)]) S (m_X1_shiftOf p ) g_X1_X1_shiftOf hd_X1_shiftOf ⟨Nat.le_of_ble_eq_true rfl, Nat.le_of_ble_eq_true rfl⟩ ⟨Nat.zero_le _, Nat.zero_le _⟩ hP hD hK hS hZ [] rfl (by decide) hl.1 rfl (Nat.le_of_ble_eq_true rfl) dX1_hatMask_2 (fun r H locs hq hP hS => ?_)
  obtain rfl := hq
  refine lv_ishl hx hb dX1_hatMask_5 ?_
  refine W_i (y := nI (3 * 2 ^ (p * 2))) (nI_shl _ (by omega)) ?_
  exact ret _ ([]) _ _ _ _ dX1_hatMask_6 rfl ⟨rfl, rfl⟩ (List.Perm.refl _) hP hS

set_option maxHeartbeats 4000000 in
set_option maxRecDepth 100000 in
theorem m_X1_colourIn (x p : Nat) (hx : x < 1024) (hp : p < 5) : Mp l yX1_colourIn ws_X1_colourIn 0 0 (dC, dI) (tyL cI cZ cS cW) [.int (nI x), .int (nI p)] ([]) (fun r => r = nI (qd x p)) := by
  refine Mi_of (by decide +kernel) (Nat.le_of_ble_eq_true rfl) ?_
  intro pr ev sx mi ag bl me cd Q ls S hP hK hD hZ hl ret
  obtain ⟨hx, hb, hml, hown, hts⟩ := id S
  have hown : sx.vm.findClass RX1 = some mi.cls := hown
  have hS : va_S (wIn ([])) sx.heap sx.heap [] := va_S.rf
  have hl : lv_has ls 2 [(0, .int (nI x)), (1, .int (nI p))] := hl
  refine lv_iload_n hx hb dX1_colourIn_0 rfl (lv_at hl 0 rfl) ?_
  refine lv_iload_n hx hb dX1_colourIn_1 rfl (lv_at hl 1 rfl) ?_
  refine lv_iconst (v := nI 2) hx hb dX1_colourIn_2 (by decide) ?_
  refine lv_imul hx hb dX1_colourIn_3 ?_
  refine W_i (y := nI (p * 2)) (pk_mul _ _) ?_
  refine lv_ishr hx hb dX1_colourIn_4 ?_
  refine W_i (y := nI (x / 2 ^ (p * 2))) (nI_shr (by omega) (by omega)) ?_
  refine lv_iconst (v := nI 3) hx hb dX1_colourIn_5 (by decide) ?_
  refine lv_iand hx hb dX1_colourIn_6 ?_
  refine W_i (y := nI ((x / 2 ^ (p * 2)) &&& 3)) (nI_and _ _) ?_
  exact ret _ ([]) _ _ _ _ dX1_colourIn_7 rfl ⟨rfl, rfl⟩ (List.Perm.refl _) hP hS

set_option maxHeartbeats 4000000 in
set_option maxRecDepth 100000 in
theorem m_X1_exchanged (x p q : Nat) (hx : x < 1024) (hp : p < 5) (hq : q < 5) : Mp l yX1_exchanged ws_X1_exchanged 1 21 (dC, dI) (tyL cI cZ cS cW) [.int (nI x), .int (nI p), .int (nI q)] ([]) (fun r => r = nI (xch x p q)) := by
  refine Mi_of (by decide +kernel) (Nat.le_of_ble_eq_true rfl) ?_
  intro pr ev sx mi ag bl me cd Q ls S hP hK hD hZ hl ret
  obtain ⟨hx, hb, hml, hown, hts⟩ := id S
  have hown : sx.vm.findClass RX1 = some mi.cls := hown
  have hS : va_S (wIn ([])) sx.heap sx.heap [] := va_S.rf
  have hl : lv_has ls 4 [(0, .int (nI x)), (1, .int (nI p)), (2, .int (nI q))] := hl
  refine lv_iload_n hx hb dX1_exchanged_0 rfl (lv_at hl 0 rfl) ?_
  refine lv_iload_n hx hb dX1_exchanged_1 rfl (lv_at hl 1 rfl) ?_
  refine call_Sp (As := [.int (nI x), .int (nI p)]) (rest := []) S (m_X1_colourIn x p (by omega) (by omega)) g_X1_X1_colourIn hd_X1_colourIn ⟨Nat.le_of_ble_eq_true rfl, Nat.le_of_ble_eq_true rfl⟩ ⟨Nat.zero_le _, Nat.zero_le _⟩ hP hD hK hS hZ [] rfl (by decide) hl.1 rfl (Nat.le_of_ble_eq_true rfl) dX1_exchanged_2 (fun r H locs hq hP hS => ?_)
  obtain rfl := hq
  refine lv_iload_n hx hb dX1_exchanged_5 rfl (lv_at hl 0 rfl) ?_
  refine lv_iload_n hx hb dX1_exchanged_6 rfl (lv_at hl 2 rfl) ?_
  refine call_Sp (As := [.int (nI x), .int (nI q)]) (rest := [.int (nI (qd x p))]) S (m_X1_colourIn x q (by omega) (by omega)) g_X1_X1_colourIn hd_X1_colourIn ⟨Nat.le_of_ble_eq_true rfl, Nat.le_of_ble_eq_true rfl⟩ ⟨Nat.zero_le _, Nat.zero_le _⟩ hP hD hK hS hZ [] rfl (by decide) hl.1 rfl (Nat.le_of_ble_eq_true rfl) dX1_exchanged_7 (fun r H locs hq hP hS => ?_)
  obtain rfl := hq
  refine lv_ixor hx hb dX1_exchanged_10 ?_
  refine W_i (y := nI ((qd x p) ^^^ (qd x q))) (nI_xor _ _) ?_
  refine lv_istore_n (lv' := [(3, .int (nI ((qd x p) ^^^ (qd x q)))), (0, .int (nI x)), (1, .int (nI p)), (2, .int (nI q))]) hx hb dX1_exchanged_11 rfl hl (by decide) rfl (fun ls hl => ?_)
  refine lv_iload_n hx hb dX1_exchanged_12 rfl (lv_at hl 1 rfl) ?_
  refine lv_iload_n hx hb dX1_exchanged_13 rfl (lv_at hl 0 rfl) ?_
  refine lv_iload_n hx hb dX1_exchanged_14 rfl (lv_at hl 2 rfl) ?_
  refine call_Sp (As := [.int (nI p)]) (rest := [.int (nI ((qd x p) ^^^ (qd x q))), .int (nI x)]) S (m_X1_shiftOf p ) g_X1_X1_shiftOf hd_X1_shiftOf ⟨Nat.le_of_ble_eq_true rfl, Nat.le_of_ble_eq_true rfl⟩ ⟨Nat.zero_le _, Nat.zero_le _⟩ hP hD hK hS hZ [] rfl (by decide) hl.1 rfl (Nat.le_of_ble_eq_true rfl) dX1_exchanged_15 (fun r H locs hq hP hS => ?_)
  obtain rfl := hq
  refine lv_ishl hx hb dX1_exchanged_18 ?_
  refine W_i (y := nI (((qd x p) ^^^ (qd x q)) * 2 ^ (p * 2))) (nI_shl _ (by omega)) ?_
  refine lv_ixor hx hb dX1_exchanged_19 ?_
  refine W_i (y := nI (x ^^^ (((qd x p) ^^^ (qd x q)) * 2 ^ (p * 2)))) (nI_xor _ _) ?_
  refine lv_iload_n hx hb dX1_exchanged_20 rfl (lv_at hl 0 rfl) ?_
  refine lv_iload_n hx hb dX1_exchanged_21 rfl (lv_at hl 3 rfl) ?_
  refine call_Sp (As := [.int (nI q)]) (rest := [.int (nI ((qd x p) ^^^ (qd x q))), .int (nI (x ^^^ (((qd x p) ^^^ (qd x q)) * 2 ^ (p * 2))))]) S (m_X1_shiftOf q ) g_X1_X1_shiftOf hd_X1_shiftOf ⟨Nat.le_of_ble_eq_true rfl, Nat.le_of_ble_eq_true rfl⟩ ⟨Nat.zero_le _, Nat.zero_le _⟩ hP hD hK hS hZ [] rfl (by decide) hl.1 rfl (Nat.le_of_ble_eq_true rfl) dX1_exchanged_22 (fun r H locs hq hP hS => ?_)
  obtain rfl := hq
  refine lv_ishl hx hb dX1_exchanged_25 ?_
  refine W_i (y := nI (((qd x p) ^^^ (qd x q)) * 2 ^ (q * 2))) (nI_shl _ (by omega)) ?_
  refine lv_ixor hx hb dX1_exchanged_26 ?_
  refine W_i (y := nI ((x ^^^ (((qd x p) ^^^ (qd x q)) * 2 ^ (p * 2))) ^^^ (((qd x p) ^^^ (qd x q)) * 2 ^ (q * 2)))) (nI_xor _ _) ?_
  exact ret _ ([]) _ _ _ _ dX1_exchanged_27 rfl ⟨rfl, rfl⟩ (List.Perm.refl _) hP hS

end
