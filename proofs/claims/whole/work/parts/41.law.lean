section
variable {l : Launch} {dC : Nat → ClassId} {dI : Nat → Nat → Nat} {cI cZ cJ : ClassId}

set_option maxHeartbeats 4000000 in
set_option maxRecDepth 100000 in
theorem w_L_addPlayer_ok {fr lo : Nat} {post : Int32 → va_W → Prop} (a0 : Int32) (h0 ao : Nat) (fs : List Value) (f : Nat → Int64) (x1 x2 x3 x4 x5 x6 : Nat × va_E) (hfl : fr ≤ 10 ∧ lo ≤ 350) (hM : Mi l yX1_addPlayer ws_X1_addPlayer fr lo (dC, dI) (tyL cI cZ cJ) [.ref h0, .int a0] ([(h0, .inr (1, fs)), x1, x2, x3, x4, x5, x6]) post) (hp : ∀ a u, post a u → (u.map (·.1)).Perm (([(h0, .inr (1, fs)), x1, x2, x3, x4, x5, x6] : va_W).map (·.1))) : Hi l yL_addPlayer ws_L_addPlayer (dC, dI) (tyL cI cZ cJ) [.ref h0, .int a0, .ref ao] ((ao, .inl (cJ, 1, .inr (.inl f))) :: [(h0, .inr (1, fs)), x1, x2, x3, x4, x5, x6]) (fun r u => r = nI 0 ∧ ∃ a w1, post a w1 ∧ u = (ao, .inl (cJ, 1, .inr (.inl (vp_updL f 0 (a.toInt64))))) :: w1) := by
  refine Hi_of (by decide +kernel) (Nat.le_of_ble_eq_true rfl) ?_
  intro pr ev sx mi ag bl me cd Q ls S hP hK hD hZ hX hN hl htab ret
  obtain ⟨hx, hb, hml, hown, hts⟩ := id S
  have hown : sx.vm.findClass RL = some mi.cls := hown
  have hS : va_S (wIn ((ao, .inl (cJ, 1, .inr (.inl f))) :: [(h0, .inr (1, fs)), x1, x2, x3, x4, x5, x6])) sx.heap sx.heap [] := va_S.rf
  have hl : lv_has ls 4 [(0, .ref h0), (1, .int a0), (2, .ref ao)] := hl
  refine lv_aload_n hx hb dL_addPlayer_0 rfl (lv_at hl 2 rfl) ?_
  refine lv_iconst (v := nI 0) hx hb dL_addPlayer_1 (by decide) ?_
  refine lv_aload_n hx hb dL_addPlayer_2 rfl (lv_at hl 0 rfl) ?_
  refine lv_iload_n hx hb dL_addPlayer_3 rfl (lv_at hl 1 rfl) ?_
  refine call_Vi (As := [.int a0]) (wr := [(ao, .inl (cJ, 1, .inr (.inl f)))]) (rest := [.int (nI 0), .ref ao]) S hM g_L_X1_addPlayer hd_X1_addPlayer ⟨(by show fr + 1 ≤ 11; omega), (by show 8 + (3 + 11) + lo ≤ 410; omega)⟩ ⟨Nat.zero_le _, Nat.zero_le _⟩ hP hD hK hS hZ [1, 2, 3, 4, 5, 6, 7] [0] rfl rfl (by decide) 0 rfl rfl hl.1 rfl (Nat.le_of_ble_eq_true rfl) dL_addPlayer_4 (fun r u H locs hq hP hD hS => ?_)
  refine lv_i2l hx hb dL_addPlayer_7 rfl ?_
  have hP : va_P (dC, dI) vwCl ((ao, .inl (cJ, 1, .inr (.inl f))) :: u) H := hP
  have hD : va_D (wIn ((ao, .inl (cJ, 1, .inr (.inl f))) :: [(h0, .inr (1, fs)), x1, x2, x3, x4, x5, x6])) ((ao, .inl (cJ, 1, .inr (.inl f))) :: u) := hD
  refine va_last (n := 1) hx hb hK hP hD hS 0 2 rfl rfl (vp_in_nI (by decide) (by decide)) dL_addPlayer_8 (fun H locs hP hD hS => ?_)
  rw [show (nI 0).toNatClampNeg = 0 from nI_clamp (by omega)] at hP hD
  have hP : va_P (dC, dI) vwCl ((ao, .inl (cJ, 1, .inr (.inl (vp_updL f 0 (r.toInt64))))) :: u) H := hP
  refine lv_goto (tgt := 18) hx hb dL_addPlayer_9 (by decide) ?_
  refine lv_iconst (v := nI 0) hx hb dL_addPlayer_18 (by decide) ?_
  refine W.widen (k := 1) (n := 6) (by omega) (by omega) ?_
  exact ret _ _ _ _ _ _ dL_addPlayer_19 ⟨rfl, r, u, hq, rfl⟩ (List.Perm.cons _ (hp _ _ hq)) hP hS

set_option maxHeartbeats 4000000 in
set_option maxRecDepth 100000 in
theorem w_L_addPlayer_1 {fr lo : Nat} (a0 : Int32) (h0 ao : Nat) (fs : List Value) (f : Nat → Int64) (x1 x2 x3 x4 x5 x6 : Nat × va_E) (hfl : fr ≤ 10 ∧ lo ≤ 350) (hM : Mx l yX1_addPlayer ws_X1_addPlayer fr lo (dC, dI) (tyL cI cZ cJ) [.ref h0, .int a0] ([(h0, .inr (1, fs)), x1, x2, x3, x4, x5, x6]) "java/lang/IndexOutOfBoundsException") : Hi l yL_addPlayer ws_L_addPlayer (dC, dI) (tyL cI cZ cJ) [.ref h0, .int a0, .ref ao] ((ao, .inl (cJ, 1, .inr (.inl f))) :: [(h0, .inr (1, fs)), x1, x2, x3, x4, x5, x6]) (fun r u => r = nI 1 ∧ u = (ao, .inl (cJ, 1, .inr (.inl f))) :: [(h0, .inr (1, fs)), x1, x2, x3, x4, x5, x6]) := by
  refine Hi_of (by decide +kernel) (Nat.le_of_ble_eq_true rfl) ?_
  intro pr ev sx mi ag bl me cd Q ls S hP hK hD hZ hX hN hl htab ret
  obtain ⟨hx, hb, hml, hown, hts⟩ := id S
  have hown : sx.vm.findClass RL = some mi.cls := hown
  have hS : va_S (wIn ((ao, .inl (cJ, 1, .inr (.inl f))) :: [(h0, .inr (1, fs)), x1, x2, x3, x4, x5, x6])) sx.heap sx.heap [] := va_S.rf
  have hl : lv_has ls 4 [(0, .ref h0), (1, .int a0), (2, .ref ao)] := hl
  refine lv_aload_n hx hb dL_addPlayer_0 rfl (lv_at hl 2 rfl) ?_
  refine lv_iconst (v := nI 0) hx hb dL_addPlayer_1 (by decide) ?_
  refine lv_aload_n hx hb dL_addPlayer_2 rfl (lv_at hl 0 rfl) ?_
  refine lv_iload_n hx hb dL_addPlayer_3 rfl (lv_at hl 1 rfl) ?_
  refine x_V (As := [.int a0]) (rest := [.int (nI 0), .ref ao]) S hM g_L_X1_addPlayer hd_X1_addPlayer ⟨(by show fr + 1 ≤ 11; omega), (by show 8 + (3 + 11) + lo ≤ 410; omega)⟩ ⟨Nat.le_refl _, Nat.le_refl _⟩ hP hD hK hS hZ hX [1, 2, 3, 4, 5, 6, 7] rfl (by decide) 0 rfl rfl hl.1 rfl (Nat.le_of_ble_eq_true rfl) dL_addPlayer_4 (fun ce q9 H locs hP hS h1 h2 h3 => ?_)
  refine vx_catch (own := RL) (name := "java/lang/IndexOutOfBoundsException") hown [] ⟨0, 9, 12, 13⟩ [⟨0, 9, 15, 15⟩] htab (fun z hz => nomatch hz) (by decide) (by decide) (hts _ q_cl_L_13) (va_Nw.use rfl (hX.2.2.2.1 _ xE_1)) h1 h2 h3 ?_
  refine lv_astore_n (lv' := [(3, .ref q9), (0, .ref h0), (1, .int a0), (2, .ref ao)]) hx hb dL_addPlayer_12 rfl hl (by decide) rfl (fun ls hl => ?_)
  refine lv_iconst (v := nI 1) hx hb dL_addPlayer_13 (by decide) ?_
  refine W.widen (k := 1) (n := 6) (by omega) (by omega) ?_
  exact ret _ _ _ _ _ _ dL_addPlayer_14 ⟨rfl, rfl⟩ (List.Perm.refl _) hP hS

set_option maxHeartbeats 4000000 in
set_option maxRecDepth 100000 in
theorem w_L_addPlayer_2 {fr lo : Nat} (a0 : Int32) (h0 ao : Nat) (fs : List Value) (f : Nat → Int64) (x1 x2 x3 x4 x5 x6 : Nat × va_E) (hfl : fr ≤ 10 ∧ lo ≤ 350) (hM : Mx l yX1_addPlayer ws_X1_addPlayer fr lo (dC, dI) (tyL cI cZ cJ) [.ref h0, .int a0] ([(h0, .inr (1, fs)), x1, x2, x3, x4, x5, x6]) "java/lang/IllegalStateException") : Hi l yL_addPlayer ws_L_addPlayer (dC, dI) (tyL cI cZ cJ) [.ref h0, .int a0, .ref ao] ((ao, .inl (cJ, 1, .inr (.inl f))) :: [(h0, .inr (1, fs)), x1, x2, x3, x4, x5, x6]) (fun r u => r = nI 2 ∧ u = (ao, .inl (cJ, 1, .inr (.inl f))) :: [(h0, .inr (1, fs)), x1, x2, x3, x4, x5, x6]) := by
  refine Hi_of (by decide +kernel) (Nat.le_of_ble_eq_true rfl) ?_
  intro pr ev sx mi ag bl me cd Q ls S hP hK hD hZ hX hN hl htab ret
  obtain ⟨hx, hb, hml, hown, hts⟩ := id S
  have hown : sx.vm.findClass RL = some mi.cls := hown
  have hS : va_S (wIn ((ao, .inl (cJ, 1, .inr (.inl f))) :: [(h0, .inr (1, fs)), x1, x2, x3, x4, x5, x6])) sx.heap sx.heap [] := va_S.rf
  have hl : lv_has ls 4 [(0, .ref h0), (1, .int a0), (2, .ref ao)] := hl
  refine lv_aload_n hx hb dL_addPlayer_0 rfl (lv_at hl 2 rfl) ?_
  refine lv_iconst (v := nI 0) hx hb dL_addPlayer_1 (by decide) ?_
  refine lv_aload_n hx hb dL_addPlayer_2 rfl (lv_at hl 0 rfl) ?_
  refine lv_iload_n hx hb dL_addPlayer_3 rfl (lv_at hl 1 rfl) ?_
  refine x_V (As := [.int a0]) (rest := [.int (nI 0), .ref ao]) S hM g_L_X1_addPlayer hd_X1_addPlayer ⟨(by show fr + 1 ≤ 11; omega), (by show 8 + (3 + 11) + lo ≤ 410; omega)⟩ ⟨Nat.le_refl _, Nat.le_refl _⟩ hP hD hK hS hZ hX [1, 2, 3, 4, 5, 6, 7] rfl (by decide) 0 rfl rfl hl.1 rfl (Nat.le_of_ble_eq_true rfl) dL_addPlayer_4 (fun ce q9 H locs hP hS h1 h2 h3 => ?_)
  refine vx_catch (own := RL) (name := "java/lang/IllegalStateException") hown [⟨0, 9, 12, 13⟩] ⟨0, 9, 15, 15⟩ [] htab (fun z hz => by rw [List.mem_singleton] at hz; subst hz; exact Or.inr ⟨by decide, _, hts _ q_cl_L_13, hN _ xE_0 _ xE_1 (by decide)⟩) (by decide) (by decide) (hts _ q_cl_L_15) (va_Nw.use rfl (hX.2.2.2.1 _ xE_0)) h1 h2 h3 ?_
  refine lv_astore_n (lv' := [(3, .ref q9), (0, .ref h0), (1, .int a0), (2, .ref ao)]) hx hb dL_addPlayer_15 rfl hl (by decide) rfl (fun ls hl => ?_)
  refine lv_iconst (v := nI 2) hx hb dL_addPlayer_16 (by decide) ?_
  refine W.widen (k := 1) (n := 6) (by omega) (by omega) ?_
  exact ret _ _ _ _ _ _ dL_addPlayer_17 ⟨rfl, rfl⟩ (List.Perm.refl _) hP hS

set_option maxHeartbeats 4000000 in
set_option maxRecDepth 100000 in
theorem w_L_turnAway_ok {fr lo : Nat} {post : Int32 → va_W → Prop} (a0 a1 : Int32) (h0 ao : Nat) (fs : List Value) (f : Nat → Int64) (x1 x2 x3 x4 x5 x6 : Nat × va_E) (hfl : fr ≤ 10 ∧ lo ≤ 350) (hM : Mi l yX1_turnAway ws_X1_turnAway fr lo (dC, dI) (tyL cI cZ cJ) [.ref h0, .int a0, .int a1] ([(h0, .inr (1, fs)), x1, x2, x3, x4, x5, x6]) post) (hp : ∀ a u, post a u → (u.map (·.1)).Perm (([(h0, .inr (1, fs)), x1, x2, x3, x4, x5, x6] : va_W).map (·.1))) (hbo : ∀ a u, post a u → ∃ b, a = bI b) : Hi l yL_turnAway ws_L_turnAway (dC, dI) (tyL cI cZ cJ) [.ref h0, .int a0, .int a1, .ref ao] ((ao, .inl (cJ, 1, .inr (.inl f))) :: [(h0, .inr (1, fs)), x1, x2, x3, x4, x5, x6]) (fun r u => r = nI 0 ∧ ∃ b w1, post (bI b) w1 ∧ u = (ao, .inl (cJ, 1, .inr (.inl (vp_updL f 0 (lB b))))) :: w1) := by
  refine Hi_of (by decide +kernel) (Nat.le_of_ble_eq_true rfl) ?_
  intro pr ev sx mi ag bl me cd Q ls S hP hK hD hZ hX hN hl htab ret
  obtain ⟨hx, hb, hml, hown, hts⟩ := id S
  have hown : sx.vm.findClass RL = some mi.cls := hown
  have hS : va_S (wIn ((ao, .inl (cJ, 1, .inr (.inl f))) :: [(h0, .inr (1, fs)), x1, x2, x3, x4, x5, x6])) sx.heap sx.heap [] := va_S.rf
  have hl : lv_has ls 5 [(0, .ref h0), (1, .int a0), (2, .int a1), (3, .ref ao)] := hl
  refine lv_aload_n hx hb dL_turnAway_0 rfl (lv_at hl 3 rfl) ?_
  refine lv_iconst (v := nI 0) hx hb dL_turnAway_1 (by decide) ?_
  refine lv_aload_n hx hb dL_turnAway_2 rfl (lv_at hl 0 rfl) ?_
  refine lv_iload_n hx hb dL_turnAway_3 rfl (lv_at hl 1 rfl) ?_
  refine lv_iload_n hx hb dL_turnAway_4 rfl (lv_at hl 2 rfl) ?_
  refine call_Vi (As := [.int a0, .int a1]) (wr := [(ao, .inl (cJ, 1, .inr (.inl f)))]) (rest := [.int (nI 0), .ref ao]) S hM g_L_X1_turnAway hd_X1_turnAway ⟨(by show fr + 1 ≤ 11; omega), (by show 8 + (3 + 11) + lo ≤ 410; omega)⟩ ⟨Nat.zero_le _, Nat.zero_le _⟩ hP hD hK hS hZ [1, 2, 3, 4, 5, 6, 7] [0] rfl rfl (by decide) 0 rfl rfl hl.1 rfl (Nat.le_of_ble_eq_true rfl) dL_turnAway_5 (fun r u H locs hq hP hD hS => ?_)
  obtain ⟨b, rfl⟩ := hbo _ _ hq
  refine ternL_eq hx hb dL_turnAway_8 dL_turnAway_11 dL_turnAway_12 dL_turnAway_15 (by decide) (by decide) ?_
  have hP : va_P (dC, dI) vwCl ((ao, .inl (cJ, 1, .inr (.inl f))) :: u) H := hP
  have hD : va_D (wIn ((ao, .inl (cJ, 1, .inr (.inl f))) :: [(h0, .inr (1, fs)), x1, x2, x3, x4, x5, x6])) ((ao, .inl (cJ, 1, .inr (.inl f))) :: u) := hD
  refine va_last (n := 1) hx hb hK hP hD hS 0 2 rfl rfl (vp_in_nI (by decide) (by decide)) dL_turnAway_16 (fun H locs hP hD hS => ?_)
  rw [show (nI 0).toNatClampNeg = 0 from nI_clamp (by omega)] at hP hD
  have hP : va_P (dC, dI) vwCl ((ao, .inl (cJ, 1, .inr (.inl (vp_updL f 0 (lB b))))) :: u) H := hP
  refine lv_goto (tgt := 28) hx hb dL_turnAway_17 (by decide) ?_
  refine lv_iconst (v := nI 0) hx hb dL_turnAway_28 (by decide) ?_
  refine W.widen (k := 1) (n := 6) (by omega) (by omega) ?_
  exact ret _ _ _ _ _ _ dL_turnAway_29 ⟨rfl, b, u, hq, rfl⟩ (List.Perm.cons _ (hp _ _ hq)) hP hS

set_option maxHeartbeats 4000000 in
set_option maxRecDepth 100000 in
theorem w_L_turnAway_1 {fr lo : Nat} (a0 a1 : Int32) (h0 ao : Nat) (fs : List Value) (f : Nat → Int64) (x1 x2 x3 x4 x5 x6 : Nat × va_E) (hfl : fr ≤ 10 ∧ lo ≤ 350) (hM : Mx l yX1_turnAway ws_X1_turnAway fr lo (dC, dI) (tyL cI cZ cJ) [.ref h0, .int a0, .int a1] ([(h0, .inr (1, fs)), x1, x2, x3, x4, x5, x6]) "java/lang/IndexOutOfBoundsException") : Hi l yL_turnAway ws_L_turnAway (dC, dI) (tyL cI cZ cJ) [.ref h0, .int a0, .int a1, .ref ao] ((ao, .inl (cJ, 1, .inr (.inl f))) :: [(h0, .inr (1, fs)), x1, x2, x3, x4, x5, x6]) (fun r u => r = nI 1 ∧ u = (ao, .inl (cJ, 1, .inr (.inl f))) :: [(h0, .inr (1, fs)), x1, x2, x3, x4, x5, x6]) := by
  refine Hi_of (by decide +kernel) (Nat.le_of_ble_eq_true rfl) ?_
  intro pr ev sx mi ag bl me cd Q ls S hP hK hD hZ hX hN hl htab ret
  obtain ⟨hx, hb, hml, hown, hts⟩ := id S
  have hown : sx.vm.findClass RL = some mi.cls := hown
  have hS : va_S (wIn ((ao, .inl (cJ, 1, .inr (.inl f))) :: [(h0, .inr (1, fs)), x1, x2, x3, x4, x5, x6])) sx.heap sx.heap [] := va_S.rf
  have hl : lv_has ls 5 [(0, .ref h0), (1, .int a0), (2, .int a1), (3, .ref ao)] := hl
  refine lv_aload_n hx hb dL_turnAway_0 rfl (lv_at hl 3 rfl) ?_
  refine lv_iconst (v := nI 0) hx hb dL_turnAway_1 (by decide) ?_
  refine lv_aload_n hx hb dL_turnAway_2 rfl (lv_at hl 0 rfl) ?_
  refine lv_iload_n hx hb dL_turnAway_3 rfl (lv_at hl 1 rfl) ?_
  refine lv_iload_n hx hb dL_turnAway_4 rfl (lv_at hl 2 rfl) ?_
  refine x_V (As := [.int a0, .int a1]) (rest := [.int (nI 0), .ref ao]) S hM g_L_X1_turnAway hd_X1_turnAway ⟨(by show fr + 1 ≤ 11; omega), (by show 8 + (3 + 11) + lo ≤ 410; omega)⟩ ⟨Nat.le_refl _, Nat.le_refl _⟩ hP hD hK hS hZ hX [1, 2, 3, 4, 5, 6, 7] rfl (by decide) 0 rfl rfl hl.1 rfl (Nat.le_of_ble_eq_true rfl) dL_turnAway_5 (fun ce q9 H locs hP hS h1 h2 h3 => ?_)
  refine vx_catch (own := RL) (name := "java/lang/IndexOutOfBoundsException") hown [] ⟨0, 17, 20, 13⟩ [⟨0, 17, 24, 21⟩] htab (fun z hz => nomatch hz) (by decide) (by decide) (hts _ q_cl_L_13) (va_Nw.use rfl (hX.2.2.2.1 _ xE_1)) h1 h2 h3 ?_
  refine lv_astore (lv' := [(4, .ref q9), (0, .ref h0), (1, .int a0), (2, .int a1), (3, .ref ao)]) hx hb dL_turnAway_20 hl (by decide) rfl (fun ls hl => ?_)
  refine lv_iconst (v := nI 1) hx hb dL_turnAway_22 (by decide) ?_
  refine W.widen (k := 1) (n := 6) (by omega) (by omega) ?_
  exact ret _ _ _ _ _ _ dL_turnAway_23 ⟨rfl, rfl⟩ (List.Perm.refl _) hP hS

set_option maxHeartbeats 4000000 in
set_option maxRecDepth 100000 in
theorem w_L_turnAway_2 {fr lo : Nat} (a0 a1 : Int32) (h0 ao : Nat) (fs : List Value) (f : Nat → Int64) (x1 x2 x3 x4 x5 x6 : Nat × va_E) (hfl : fr ≤ 10 ∧ lo ≤ 350) (hM : Mx l yX1_turnAway ws_X1_turnAway fr lo (dC, dI) (tyL cI cZ cJ) [.ref h0, .int a0, .int a1] ([(h0, .inr (1, fs)), x1, x2, x3, x4, x5, x6]) "java/lang/IllegalArgumentException") : Hi l yL_turnAway ws_L_turnAway (dC, dI) (tyL cI cZ cJ) [.ref h0, .int a0, .int a1, .ref ao] ((ao, .inl (cJ, 1, .inr (.inl f))) :: [(h0, .inr (1, fs)), x1, x2, x3, x4, x5, x6]) (fun r u => r = nI 2 ∧ u = (ao, .inl (cJ, 1, .inr (.inl f))) :: [(h0, .inr (1, fs)), x1, x2, x3, x4, x5, x6]) := by
  refine Hi_of (by decide +kernel) (Nat.le_of_ble_eq_true rfl) ?_
  intro pr ev sx mi ag bl me cd Q ls S hP hK hD hZ hX hN hl htab ret
  obtain ⟨hx, hb, hml, hown, hts⟩ := id S
  have hown : sx.vm.findClass RL = some mi.cls := hown
  have hS : va_S (wIn ((ao, .inl (cJ, 1, .inr (.inl f))) :: [(h0, .inr (1, fs)), x1, x2, x3, x4, x5, x6])) sx.heap sx.heap [] := va_S.rf
  have hl : lv_has ls 5 [(0, .ref h0), (1, .int a0), (2, .int a1), (3, .ref ao)] := hl
  refine lv_aload_n hx hb dL_turnAway_0 rfl (lv_at hl 3 rfl) ?_
  refine lv_iconst (v := nI 0) hx hb dL_turnAway_1 (by decide) ?_
  refine lv_aload_n hx hb dL_turnAway_2 rfl (lv_at hl 0 rfl) ?_
  refine lv_iload_n hx hb dL_turnAway_3 rfl (lv_at hl 1 rfl) ?_
  refine lv_iload_n hx hb dL_turnAway_4 rfl (lv_at hl 2 rfl) ?_
  refine x_V (As := [.int a0, .int a1]) (rest := [.int (nI 0), .ref ao]) S hM g_L_X1_turnAway hd_X1_turnAway ⟨(by show fr + 1 ≤ 11; omega), (by show 8 + (3 + 11) + lo ≤ 410; omega)⟩ ⟨Nat.le_refl _, Nat.le_refl _⟩ hP hD hK hS hZ hX [1, 2, 3, 4, 5, 6, 7] rfl (by decide) 0 rfl rfl hl.1 rfl (Nat.le_of_ble_eq_true rfl) dL_turnAway_5 (fun ce q9 H locs hP hS h1 h2 h3 => ?_)
  refine vx_catch (own := RL) (name := "java/lang/IllegalArgumentException") hown [⟨0, 17, 20, 13⟩] ⟨0, 17, 24, 21⟩ [] htab (fun z hz => by rw [List.mem_singleton] at hz; subst hz; exact Or.inr ⟨by decide, _, hts _ q_cl_L_13, hN _ xE_2 _ xE_1 (by decide)⟩) (by decide) (by decide) (hts _ q_cl_L_21) (va_Nw.use rfl (hX.2.2.2.1 _ xE_2)) h1 h2 h3 ?_
  refine lv_astore (lv' := [(4, .ref q9), (0, .ref h0), (1, .int a0), (2, .int a1), (3, .ref ao)]) hx hb dL_turnAway_24 hl (by decide) rfl (fun ls hl => ?_)
  refine lv_iconst (v := nI 2) hx hb dL_turnAway_26 (by decide) ?_
  refine W.widen (k := 1) (n := 6) (by omega) (by omega) ?_
  exact ret _ _ _ _ _ _ dL_turnAway_27 ⟨rfl, rfl⟩ (List.Perm.refl _) hP hS

set_option maxHeartbeats 4000000 in
set_option maxRecDepth 100000 in
theorem w_L_borrow_ok {fr lo : Nat} {post : Int32 → va_W → Prop} (a0 a1 : Int32) (h0 ao : Nat) (fs : List Value) (f : Nat → Int64) (x1 x2 x3 x4 x5 x6 : Nat × va_E) (hfl : fr ≤ 10 ∧ lo ≤ 350) (hM : Mi l yX1_borrow ws_X1_borrow fr lo (dC, dI) (tyL cI cZ cJ) [.ref h0, .int a0, .int a1] ([(h0, .inr (1, fs)), x1, x2, x3, x4, x5, x6]) post) (hp : ∀ a u, post a u → (u.map (·.1)).Perm (([(h0, .inr (1, fs)), x1, x2, x3, x4, x5, x6] : va_W).map (·.1))) : Hi l yL_borrow ws_L_borrow (dC, dI) (tyL cI cZ cJ) [.ref h0, .int a0, .int a1, .ref ao] ((ao, .inl (cJ, 1, .inr (.inl f))) :: [(h0, .inr (1, fs)), x1, x2, x3, x4, x5, x6]) (fun r u => r = nI 0 ∧ ∃ a w1, post a w1 ∧ u = (ao, .inl (cJ, 1, .inr (.inl (vp_updL f 0 (a.toInt64))))) :: w1) := by
  refine Hi_of (by decide +kernel) (Nat.le_of_ble_eq_true rfl) ?_
  intro pr ev sx mi ag bl me cd Q ls S hP hK hD hZ hX hN hl htab ret
  obtain ⟨hx, hb, hml, hown, hts⟩ := id S
  have hown : sx.vm.findClass RL = some mi.cls := hown
  have hS : va_S (wIn ((ao, .inl (cJ, 1, .inr (.inl f))) :: [(h0, .inr (1, fs)), x1, x2, x3, x4, x5, x6])) sx.heap sx.heap [] := va_S.rf
  have hl : lv_has ls 5 [(0, .ref h0), (1, .int a0), (2, .int a1), (3, .ref ao)] := hl
  refine lv_aload_n hx hb dL_borrow_0 rfl (lv_at hl 3 rfl) ?_
  refine lv_iconst (v := nI 0) hx hb dL_borrow_1 (by decide) ?_
  refine lv_aload_n hx hb dL_borrow_2 rfl (lv_at hl 0 rfl) ?_
  refine lv_iload_n hx hb dL_borrow_3 rfl (lv_at hl 1 rfl) ?_
  refine lv_iload_n hx hb dL_borrow_4 rfl (lv_at hl 2 rfl) ?_
  refine call_Vi (As := [.int a0, .int a1]) (wr := [(ao, .inl (cJ, 1, .inr (.inl f)))]) (rest := [.int (nI 0), .ref ao]) S hM g_L_X1_borrow hd_X1_borrow ⟨(by show fr + 1 ≤ 11; omega), (by show 8 + (4 + 11) + lo ≤ 410; omega)⟩ ⟨Nat.zero_le _, Nat.zero_le _⟩ hP hD hK hS hZ [1, 2, 3, 4, 5, 6, 7] [0] rfl rfl (by decide) 0 rfl rfl hl.1 rfl (Nat.le_of_ble_eq_true rfl) dL_borrow_5 (fun r u H locs hq hP hD hS => ?_)
  refine lv_i2l hx hb dL_borrow_8 rfl ?_
  have hP : va_P (dC, dI) vwCl ((ao, .inl (cJ, 1, .inr (.inl f))) :: u) H := hP
  have hD : va_D (wIn ((ao, .inl (cJ, 1, .inr (.inl f))) :: [(h0, .inr (1, fs)), x1, x2, x3, x4, x5, x6])) ((ao, .inl (cJ, 1, .inr (.inl f))) :: u) := hD
  refine va_last (n := 1) hx hb hK hP hD hS 0 2 rfl rfl (vp_in_nI (by decide) (by decide)) dL_borrow_9 (fun H locs hP hD hS => ?_)
  rw [show (nI 0).toNatClampNeg = 0 from nI_clamp (by omega)] at hP hD
  have hP : va_P (dC, dI) vwCl ((ao, .inl (cJ, 1, .inr (.inl (vp_updL f 0 (r.toInt64))))) :: u) H := hP
  refine lv_goto (tgt := 21) hx hb dL_borrow_10 (by decide) ?_
  refine lv_iconst (v := nI 0) hx hb dL_borrow_21 (by decide) ?_
  refine W.widen (k := 1) (n := 6) (by omega) (by omega) ?_
  exact ret _ _ _ _ _ _ dL_borrow_22 ⟨rfl, r, u, hq, rfl⟩ (List.Perm.cons _ (hp _ _ hq)) hP hS

set_option maxHeartbeats 4000000 in
set_option maxRecDepth 100000 in
theorem w_L_borrow_1 {fr lo : Nat} (a0 a1 : Int32) (h0 ao : Nat) (fs : List Value) (f : Nat → Int64) (x1 x2 x3 x4 x5 x6 : Nat × va_E) (hfl : fr ≤ 10 ∧ lo ≤ 350) (hM : Mx l yX1_borrow ws_X1_borrow fr lo (dC, dI) (tyL cI cZ cJ) [.ref h0, .int a0, .int a1] ([(h0, .inr (1, fs)), x1, x2, x3, x4, x5, x6]) "java/lang/IndexOutOfBoundsException") : Hi l yL_borrow ws_L_borrow (dC, dI) (tyL cI cZ cJ) [.ref h0, .int a0, .int a1, .ref ao] ((ao, .inl (cJ, 1, .inr (.inl f))) :: [(h0, .inr (1, fs)), x1, x2, x3, x4, x5, x6]) (fun r u => r = nI 1 ∧ u = (ao, .inl (cJ, 1, .inr (.inl f))) :: [(h0, .inr (1, fs)), x1, x2, x3, x4, x5, x6]) := by
  refine Hi_of (by decide +kernel) (Nat.le_of_ble_eq_true rfl) ?_
  intro pr ev sx mi ag bl me cd Q ls S hP hK hD hZ hX hN hl htab ret
  obtain ⟨hx, hb, hml, hown, hts⟩ := id S
  have hown : sx.vm.findClass RL = some mi.cls := hown
  have hS : va_S (wIn ((ao, .inl (cJ, 1, .inr (.inl f))) :: [(h0, .inr (1, fs)), x1, x2, x3, x4, x5, x6])) sx.heap sx.heap [] := va_S.rf
  have hl : lv_has ls 5 [(0, .ref h0), (1, .int a0), (2, .int a1), (3, .ref ao)] := hl
  refine lv_aload_n hx hb dL_borrow_0 rfl (lv_at hl 3 rfl) ?_
  refine lv_iconst (v := nI 0) hx hb dL_borrow_1 (by decide) ?_
  refine lv_aload_n hx hb dL_borrow_2 rfl (lv_at hl 0 rfl) ?_
  refine lv_iload_n hx hb dL_borrow_3 rfl (lv_at hl 1 rfl) ?_
  refine lv_iload_n hx hb dL_borrow_4 rfl (lv_at hl 2 rfl) ?_
  refine x_V (As := [.int a0, .int a1]) (rest := [.int (nI 0), .ref ao]) S hM g_L_X1_borrow hd_X1_borrow ⟨(by show fr + 1 ≤ 11; omega), (by show 8 + (4 + 11) + lo ≤ 410; omega)⟩ ⟨Nat.le_refl _, Nat.le_refl _⟩ hP hD hK hS hZ hX [1, 2, 3, 4, 5, 6, 7] rfl (by decide) 0 rfl rfl hl.1 rfl (Nat.le_of_ble_eq_true rfl) dL_borrow_5 (fun ce q9 H locs hP hS h1 h2 h3 => ?_)
  refine vx_catch (own := RL) (name := "java/lang/IndexOutOfBoundsException") hown [] ⟨0, 10, 13, 13⟩ [⟨0, 10, 17, 21⟩] htab (fun z hz => nomatch hz) (by decide) (by decide) (hts _ q_cl_L_13) (va_Nw.use rfl (hX.2.2.2.1 _ xE_1)) h1 h2 h3 ?_
  refine lv_astore (lv' := [(4, .ref q9), (0, .ref h0), (1, .int a0), (2, .int a1), (3, .ref ao)]) hx hb dL_borrow_13 hl (by decide) rfl (fun ls hl => ?_)
  refine lv_iconst (v := nI 1) hx hb dL_borrow_15 (by decide) ?_
  refine W.widen (k := 1) (n := 6) (by omega) (by omega) ?_
  exact ret _ _ _ _ _ _ dL_borrow_16 ⟨rfl, rfl⟩ (List.Perm.refl _) hP hS

set_option maxHeartbeats 4000000 in
set_option maxRecDepth 100000 in
theorem w_L_borrow_2 {fr lo : Nat} (a0 a1 : Int32) (h0 ao : Nat) (fs : List Value) (f : Nat → Int64) (x1 x2 x3 x4 x5 x6 : Nat × va_E) (hfl : fr ≤ 10 ∧ lo ≤ 350) (hM : Mx l yX1_borrow ws_X1_borrow fr lo (dC, dI) (tyL cI cZ cJ) [.ref h0, .int a0, .int a1] ([(h0, .inr (1, fs)), x1, x2, x3, x4, x5, x6]) "java/lang/IllegalArgumentException") : Hi l yL_borrow ws_L_borrow (dC, dI) (tyL cI cZ cJ) [.ref h0, .int a0, .int a1, .ref ao] ((ao, .inl (cJ, 1, .inr (.inl f))) :: [(h0, .inr (1, fs)), x1, x2, x3, x4, x5, x6]) (fun r u => r = nI 2 ∧ u = (ao, .inl (cJ, 1, .inr (.inl f))) :: [(h0, .inr (1, fs)), x1, x2, x3, x4, x5, x6]) := by
  refine Hi_of (by decide +kernel) (Nat.le_of_ble_eq_true rfl) ?_
  intro pr ev sx mi ag bl me cd Q ls S hP hK hD hZ hX hN hl htab ret
  obtain ⟨hx, hb, hml, hown, hts⟩ := id S
  have hown : sx.vm.findClass RL = some mi.cls := hown
  have hS : va_S (wIn ((ao, .inl (cJ, 1, .inr (.inl f))) :: [(h0, .inr (1, fs)), x1, x2, x3, x4, x5, x6])) sx.heap sx.heap [] := va_S.rf
  have hl : lv_has ls 5 [(0, .ref h0), (1, .int a0), (2, .int a1), (3, .ref ao)] := hl
  refine lv_aload_n hx hb dL_borrow_0 rfl (lv_at hl 3 rfl) ?_
  refine lv_iconst (v := nI 0) hx hb dL_borrow_1 (by decide) ?_
  refine lv_aload_n hx hb dL_borrow_2 rfl (lv_at hl 0 rfl) ?_
  refine lv_iload_n hx hb dL_borrow_3 rfl (lv_at hl 1 rfl) ?_
  refine lv_iload_n hx hb dL_borrow_4 rfl (lv_at hl 2 rfl) ?_
  refine x_V (As := [.int a0, .int a1]) (rest := [.int (nI 0), .ref ao]) S hM g_L_X1_borrow hd_X1_borrow ⟨(by show fr + 1 ≤ 11; omega), (by show 8 + (4 + 11) + lo ≤ 410; omega)⟩ ⟨Nat.le_refl _, Nat.le_refl _⟩ hP hD hK hS hZ hX [1, 2, 3, 4, 5, 6, 7] rfl (by decide) 0 rfl rfl hl.1 rfl (Nat.le_of_ble_eq_true rfl) dL_borrow_5 (fun ce q9 H locs hP hS h1 h2 h3 => ?_)
  refine vx_catch (own := RL) (name := "java/lang/IllegalArgumentException") hown [⟨0, 10, 13, 13⟩] ⟨0, 10, 17, 21⟩ [] htab (fun z hz => by rw [List.mem_singleton] at hz; subst hz; exact Or.inr ⟨by decide, _, hts _ q_cl_L_13, hN _ xE_2 _ xE_1 (by decide)⟩) (by decide) (by decide) (hts _ q_cl_L_21) (va_Nw.use rfl (hX.2.2.2.1 _ xE_2)) h1 h2 h3 ?_
  refine lv_astore (lv' := [(4, .ref q9), (0, .ref h0), (1, .int a0), (2, .int a1), (3, .ref ao)]) hx hb dL_borrow_17 hl (by decide) rfl (fun ls hl => ?_)
  refine lv_iconst (v := nI 2) hx hb dL_borrow_19 (by decide) ?_
  refine W.widen (k := 1) (n := 6) (by omega) (by omega) ?_
  exact ret _ _ _ _ _ _ dL_borrow_20 ⟨rfl, rfl⟩ (List.Perm.refl _) hP hS

set_option maxHeartbeats 4000000 in
set_option maxRecDepth 100000 in
theorem w_L_takeTurn_ok {fr lo : Nat} {post : Int32 → va_W → Prop} (h0 ao : Nat) (fs : List Value) (f : Nat → Int64) (x1 x2 x3 x4 x5 x6 : Nat × va_E) (hfl : fr ≤ 10 ∧ lo ≤ 350) (hM : Mi l yX1_takeTurn ws_X1_takeTurn fr lo (dC, dI) (tyL cI cZ cJ) [.ref h0] ([(h0, .inr (1, fs)), x1, x2, x3, x4, x5, x6]) post) (hp : ∀ a u, post a u → (u.map (·.1)).Perm (([(h0, .inr (1, fs)), x1, x2, x3, x4, x5, x6] : va_W).map (·.1))) : Hi l yL_takeTurn ws_L_takeTurn (dC, dI) (tyL cI cZ cJ) [.ref h0, .ref ao] ((ao, .inl (cJ, 1, .inr (.inl f))) :: [(h0, .inr (1, fs)), x1, x2, x3, x4, x5, x6]) (fun r u => r = nI 0 ∧ ∃ a w1, post a w1 ∧ u = (ao, .inl (cJ, 1, .inr (.inl (vp_updL f 0 (a.toInt64))))) :: w1) := by
  refine Hi_of (by decide +kernel) (Nat.le_of_ble_eq_true rfl) ?_
  intro pr ev sx mi ag bl me cd Q ls S hP hK hD hZ hX hN hl htab ret
  obtain ⟨hx, hb, hml, hown, hts⟩ := id S
  have hown : sx.vm.findClass RL = some mi.cls := hown
  have hS : va_S (wIn ((ao, .inl (cJ, 1, .inr (.inl f))) :: [(h0, .inr (1, fs)), x1, x2, x3, x4, x5, x6])) sx.heap sx.heap [] := va_S.rf
  have hl : lv_has ls 3 [(0, .ref h0), (1, .ref ao)] := hl
  refine lv_aload_n hx hb dL_takeTurn_0 rfl (lv_at hl 1 rfl) ?_
  refine lv_iconst (v := nI 0) hx hb dL_takeTurn_1 (by decide) ?_
  refine lv_aload_n hx hb dL_takeTurn_2 rfl (lv_at hl 0 rfl) ?_
  refine call_Vi (As := []) (wr := [(ao, .inl (cJ, 1, .inr (.inl f)))]) (rest := [.int (nI 0), .ref ao]) S hM g_L_X1_takeTurn hd_X1_takeTurn ⟨(by show fr + 1 ≤ 11; omega), (by show 8 + (3 + 11) + lo ≤ 410; omega)⟩ ⟨Nat.zero_le _, Nat.zero_le _⟩ hP hD hK hS hZ [1, 2, 3, 4, 5, 6, 7] [0] rfl rfl (by decide) 0 rfl rfl hl.1 rfl (Nat.le_of_ble_eq_true rfl) dL_takeTurn_3 (fun r u H locs hq hP hD hS => ?_)
  refine lv_i2l hx hb dL_takeTurn_6 rfl ?_
  have hP : va_P (dC, dI) vwCl ((ao, .inl (cJ, 1, .inr (.inl f))) :: u) H := hP
  have hD : va_D (wIn ((ao, .inl (cJ, 1, .inr (.inl f))) :: [(h0, .inr (1, fs)), x1, x2, x3, x4, x5, x6])) ((ao, .inl (cJ, 1, .inr (.inl f))) :: u) := hD
  refine va_last (n := 1) hx hb hK hP hD hS 0 2 rfl rfl (vp_in_nI (by decide) (by decide)) dL_takeTurn_7 (fun H locs hP hD hS => ?_)
  rw [show (nI 0).toNatClampNeg = 0 from nI_clamp (by omega)] at hP hD
  have hP : va_P (dC, dI) vwCl ((ao, .inl (cJ, 1, .inr (.inl (vp_updL f 0 (r.toInt64))))) :: u) H := hP
  refine lv_goto (tgt := 14) hx hb dL_takeTurn_8 (by decide) ?_
  refine lv_iconst (v := nI 0) hx hb dL_takeTurn_14 (by decide) ?_
  refine W.widen (k := 1) (n := 6) (by omega) (by omega) ?_
  exact ret _ _ _ _ _ _ dL_takeTurn_15 ⟨rfl, r, u, hq, rfl⟩ (List.Perm.cons _ (hp _ _ hq)) hP hS

set_option maxHeartbeats 4000000 in
set_option maxRecDepth 100000 in
theorem w_L_takeTurn_1 {fr lo : Nat} (h0 ao : Nat) (fs : List Value) (f : Nat → Int64) (x1 x2 x3 x4 x5 x6 : Nat × va_E) (hfl : fr ≤ 10 ∧ lo ≤ 350) (hM : Mx l yX1_takeTurn ws_X1_takeTurn fr lo (dC, dI) (tyL cI cZ cJ) [.ref h0] ([(h0, .inr (1, fs)), x1, x2, x3, x4, x5, x6]) "java/lang/IllegalStateException") : Hi l yL_takeTurn ws_L_takeTurn (dC, dI) (tyL cI cZ cJ) [.ref h0, .ref ao] ((ao, .inl (cJ, 1, .inr (.inl f))) :: [(h0, .inr (1, fs)), x1, x2, x3, x4, x5, x6]) (fun r u => r = nI 1 ∧ u = (ao, .inl (cJ, 1, .inr (.inl f))) :: [(h0, .inr (1, fs)), x1, x2, x3, x4, x5, x6]) := by
  refine Hi_of (by decide +kernel) (Nat.le_of_ble_eq_true rfl) ?_
  intro pr ev sx mi ag bl me cd Q ls S hP hK hD hZ hX hN hl htab ret
  obtain ⟨hx, hb, hml, hown, hts⟩ := id S
  have hown : sx.vm.findClass RL = some mi.cls := hown
  have hS : va_S (wIn ((ao, .inl (cJ, 1, .inr (.inl f))) :: [(h0, .inr (1, fs)), x1, x2, x3, x4, x5, x6])) sx.heap sx.heap [] := va_S.rf
  have hl : lv_has ls 3 [(0, .ref h0), (1, .ref ao)] := hl
  refine lv_aload_n hx hb dL_takeTurn_0 rfl (lv_at hl 1 rfl) ?_
  refine lv_iconst (v := nI 0) hx hb dL_takeTurn_1 (by decide) ?_
  refine lv_aload_n hx hb dL_takeTurn_2 rfl (lv_at hl 0 rfl) ?_
  refine x_V (As := []) (rest := [.int (nI 0), .ref ao]) S hM g_L_X1_takeTurn hd_X1_takeTurn ⟨(by show fr + 1 ≤ 11; omega), (by show 8 + (3 + 11) + lo ≤ 410; omega)⟩ ⟨Nat.le_refl _, Nat.le_refl _⟩ hP hD hK hS hZ hX [1, 2, 3, 4, 5, 6, 7] rfl (by decide) 0 rfl rfl hl.1 rfl (Nat.le_of_ble_eq_true rfl) dL_takeTurn_3 (fun ce q9 H locs hP hS h1 h2 h3 => ?_)
  refine vx_catch (own := RL) (name := "java/lang/IllegalStateException") hown [] ⟨0, 8, 11, 15⟩ [] htab (fun z hz => nomatch hz) (by decide) (by decide) (hts _ q_cl_L_15) (va_Nw.use rfl (hX.2.2.2.1 _ xE_0)) h1 h2 h3 ?_
  refine lv_astore_n (lv' := [(2, .ref q9), (0, .ref h0), (1, .ref ao)]) hx hb dL_takeTurn_11 rfl hl (by decide) rfl (fun ls hl => ?_)
  refine lv_iconst (v := nI 1) hx hb dL_takeTurn_12 (by decide) ?_
  refine W.widen (k := 1) (n := 6) (by omega) (by omega) ?_
  exact ret _ _ _ _ _ _ dL_takeTurn_13 ⟨rfl, rfl⟩ (List.Perm.refl _) hP hS

set_option maxHeartbeats 4000000 in
set_option maxRecDepth 100000 in
theorem w_L_sayAtLeast_ok {fr lo : Nat} {post : Int32 → va_W → Prop} (a0 a1 : Int32) (h0 ao : Nat) (fs : List Value) (f : Nat → Int64) (x1 x2 x3 x4 x5 x6 : Nat × va_E) (hfl : fr ≤ 10 ∧ lo ≤ 350) (hM : Mi l yX1_sayAtLeast ws_X1_sayAtLeast fr lo (dC, dI) (tyL cI cZ cJ) [.ref h0, .int a0, .int a1] ([(h0, .inr (1, fs)), x1, x2, x3, x4, x5, x6]) post) (hp : ∀ a u, post a u → (u.map (·.1)).Perm (([(h0, .inr (1, fs)), x1, x2, x3, x4, x5, x6] : va_W).map (·.1))) : Hi l yL_sayAtLeast ws_L_sayAtLeast (dC, dI) (tyL cI cZ cJ) [.ref h0, .int a0, .int a1, .ref ao] ((ao, .inl (cJ, 1, .inr (.inl f))) :: [(h0, .inr (1, fs)), x1, x2, x3, x4, x5, x6]) (fun r u => r = nI 0 ∧ ∃ a w1, post a w1 ∧ u = (ao, .inl (cJ, 1, .inr (.inl (vp_updL f 0 (a.toInt64))))) :: w1) := by
  refine Hi_of (by decide +kernel) (Nat.le_of_ble_eq_true rfl) ?_
  intro pr ev sx mi ag bl me cd Q ls S hP hK hD hZ hX hN hl htab ret
  obtain ⟨hx, hb, hml, hown, hts⟩ := id S
  have hown : sx.vm.findClass RL = some mi.cls := hown
  have hS : va_S (wIn ((ao, .inl (cJ, 1, .inr (.inl f))) :: [(h0, .inr (1, fs)), x1, x2, x3, x4, x5, x6])) sx.heap sx.heap [] := va_S.rf
  have hl : lv_has ls 5 [(0, .ref h0), (1, .int a0), (2, .int a1), (3, .ref ao)] := hl
  refine lv_aload_n hx hb dL_sayAtLeast_0 rfl (lv_at hl 3 rfl) ?_
  refine lv_iconst (v := nI 0) hx hb dL_sayAtLeast_1 (by decide) ?_
  refine lv_aload_n hx hb dL_sayAtLeast_2 rfl (lv_at hl 0 rfl) ?_
  refine lv_iload_n hx hb dL_sayAtLeast_3 rfl (lv_at hl 1 rfl) ?_
  refine lv_iload_n hx hb dL_sayAtLeast_4 rfl (lv_at hl 2 rfl) ?_
  refine call_Vi (As := [.int a0, .int a1]) (wr := [(ao, .inl (cJ, 1, .inr (.inl f)))]) (rest := [.int (nI 0), .ref ao]) S hM g_L_X1_sayAtLeast hd_X1_sayAtLeast ⟨(by show fr + 1 ≤ 11; omega), (by show 8 + (3 + 11) + lo ≤ 410; omega)⟩ ⟨Nat.zero_le _, Nat.zero_le _⟩ hP hD hK hS hZ [1, 2, 3, 4, 5, 6, 7] [0] rfl rfl (by decide) 0 rfl rfl hl.1 rfl (Nat.le_of_ble_eq_true rfl) dL_sayAtLeast_5 (fun r u H locs hq hP hD hS => ?_)
  refine lv_i2l hx hb dL_sayAtLeast_8 rfl ?_
  have hP : va_P (dC, dI) vwCl ((ao, .inl (cJ, 1, .inr (.inl f))) :: u) H := hP
  have hD : va_D (wIn ((ao, .inl (cJ, 1, .inr (.inl f))) :: [(h0, .inr (1, fs)), x1, x2, x3, x4, x5, x6])) ((ao, .inl (cJ, 1, .inr (.inl f))) :: u) := hD
  refine va_last (n := 1) hx hb hK hP hD hS 0 2 rfl rfl (vp_in_nI (by decide) (by decide)) dL_sayAtLeast_9 (fun H locs hP hD hS => ?_)
  rw [show (nI 0).toNatClampNeg = 0 from nI_clamp (by omega)] at hP hD
  have hP : va_P (dC, dI) vwCl ((ao, .inl (cJ, 1, .inr (.inl (vp_updL f 0 (r.toInt64))))) :: u) H := hP
  refine lv_goto (tgt := 25) hx hb dL_sayAtLeast_10 (by decide) ?_
  refine lv_iconst (v := nI 0) hx hb dL_sayAtLeast_25 (by decide) ?_
  refine W.widen (k := 1) (n := 6) (by omega) (by omega) ?_
  exact ret _ _ _ _ _ _ dL_sayAtLeast_26 ⟨rfl, r, u, hq, rfl⟩ (List.Perm.cons _ (hp _ _ hq)) hP hS

set_option maxHeartbeats 4000000 in
set_option maxRecDepth 100000 in
theorem w_L_sayAtLeast_1 {fr lo : Nat} (a0 a1 : Int32) (h0 ao : Nat) (fs : List Value) (f : Nat → Int64) (x1 x2 x3 x4 x5 x6 : Nat × va_E) (hfl : fr ≤ 10 ∧ lo ≤ 350) (hM : Mx l yX1_sayAtLeast ws_X1_sayAtLeast fr lo (dC, dI) (tyL cI cZ cJ) [.ref h0, .int a0, .int a1] ([(h0, .inr (1, fs)), x1, x2, x3, x4, x5, x6]) "java/lang/IndexOutOfBoundsException") : Hi l yL_sayAtLeast ws_L_sayAtLeast (dC, dI) (tyL cI cZ cJ) [.ref h0, .int a0, .int a1, .ref ao] ((ao, .inl (cJ, 1, .inr (.inl f))) :: [(h0, .inr (1, fs)), x1, x2, x3, x4, x5, x6]) (fun r u => r = nI 1 ∧ u = (ao, .inl (cJ, 1, .inr (.inl f))) :: [(h0, .inr (1, fs)), x1, x2, x3, x4, x5, x6]) := by
  refine Hi_of (by decide +kernel) (Nat.le_of_ble_eq_true rfl) ?_
  intro pr ev sx mi ag bl me cd Q ls S hP hK hD hZ hX hN hl htab ret
  obtain ⟨hx, hb, hml, hown, hts⟩ := id S
  have hown : sx.vm.findClass RL = some mi.cls := hown
  have hS : va_S (wIn ((ao, .inl (cJ, 1, .inr (.inl f))) :: [(h0, .inr (1, fs)), x1, x2, x3, x4, x5, x6])) sx.heap sx.heap [] := va_S.rf
  have hl : lv_has ls 5 [(0, .ref h0), (1, .int a0), (2, .int a1), (3, .ref ao)] := hl
  refine lv_aload_n hx hb dL_sayAtLeast_0 rfl (lv_at hl 3 rfl) ?_
  refine lv_iconst (v := nI 0) hx hb dL_sayAtLeast_1 (by decide) ?_
  refine lv_aload_n hx hb dL_sayAtLeast_2 rfl (lv_at hl 0 rfl) ?_
  refine lv_iload_n hx hb dL_sayAtLeast_3 rfl (lv_at hl 1 rfl) ?_
  refine lv_iload_n hx hb dL_sayAtLeast_4 rfl (lv_at hl 2 rfl) ?_
  refine x_V (As := [.int a0, .int a1]) (rest := [.int (nI 0), .ref ao]) S hM g_L_X1_sayAtLeast hd_X1_sayAtLeast ⟨(by show fr + 1 ≤ 11; omega), (by show 8 + (3 + 11) + lo ≤ 410; omega)⟩ ⟨Nat.le_refl _, Nat.le_refl _⟩ hP hD hK hS hZ hX [1, 2, 3, 4, 5, 6, 7] rfl (by decide) 0 rfl rfl hl.1 rfl (Nat.le_of_ble_eq_true rfl) dL_sayAtLeast_5 (fun ce q9 H locs hP hS h1 h2 h3 => ?_)
  refine vx_catch (own := RL) (name := "java/lang/IndexOutOfBoundsException") hown [] ⟨0, 10, 13, 13⟩ [⟨0, 10, 17, 21⟩, ⟨0, 10, 21, 15⟩] htab (fun z hz => nomatch hz) (by decide) (by decide) (hts _ q_cl_L_13) (va_Nw.use rfl (hX.2.2.2.1 _ xE_1)) h1 h2 h3 ?_
  refine lv_astore (lv' := [(4, .ref q9), (0, .ref h0), (1, .int a0), (2, .int a1), (3, .ref ao)]) hx hb dL_sayAtLeast_13 hl (by decide) rfl (fun ls hl => ?_)
  refine lv_iconst (v := nI 1) hx hb dL_sayAtLeast_15 (by decide) ?_
  refine W.widen (k := 1) (n := 6) (by omega) (by omega) ?_
  exact ret _ _ _ _ _ _ dL_sayAtLeast_16 ⟨rfl, rfl⟩ (List.Perm.refl _) hP hS

set_option maxHeartbeats 4000000 in
set_option maxRecDepth 100000 in
theorem w_L_sayAtLeast_2 {fr lo : Nat} (a0 a1 : Int32) (h0 ao : Nat) (fs : List Value) (f : Nat → Int64) (x1 x2 x3 x4 x5 x6 : Nat × va_E) (hfl : fr ≤ 10 ∧ lo ≤ 350) (hM : Mx l yX1_sayAtLeast ws_X1_sayAtLeast fr lo (dC, dI) (tyL cI cZ cJ) [.ref h0, .int a0, .int a1] ([(h0, .inr (1, fs)), x1, x2, x3, x4, x5, x6]) "java/lang/IllegalArgumentException") : Hi l yL_sayAtLeast ws_L_sayAtLeast (dC, dI) (tyL cI cZ cJ) [.ref h0, .int a0, .int a1, .ref ao] ((ao, .inl (cJ, 1, .inr (.inl f))) :: [(h0, .inr (1, fs)), x1, x2, x3, x4, x5, x6]) (fun r u => r = nI 2 ∧ u = (ao, .inl (cJ, 1, .inr (.inl f))) :: [(h0, .inr (1, fs)), x1, x2, x3, x4, x5, x6]) := by
  refine Hi_of (by decide +kernel) (Nat.le_of_ble_eq_true rfl) ?_
  intro pr ev sx mi ag bl me cd Q ls S hP hK hD hZ hX hN hl htab ret
  obtain ⟨hx, hb, hml, hown, hts⟩ := id S
  have hown : sx.vm.findClass RL = some mi.cls := hown
  have hS : va_S (wIn ((ao, .inl (cJ, 1, .inr (.inl f))) :: [(h0, .inr (1, fs)), x1, x2, x3, x4, x5, x6])) sx.heap sx.heap [] := va_S.rf
  have hl : lv_has ls 5 [(0, .ref h0), (1, .int a0), (2, .int a1), (3, .ref ao)] := hl
  refine lv_aload_n hx hb dL_sayAtLeast_0 rfl (lv_at hl 3 rfl) ?_
  refine lv_iconst (v := nI 0) hx hb dL_sayAtLeast_1 (by decide) ?_
  refine lv_aload_n hx hb dL_sayAtLeast_2 rfl (lv_at hl 0 rfl) ?_
  refine lv_iload_n hx hb dL_sayAtLeast_3 rfl (lv_at hl 1 rfl) ?_
  refine lv_iload_n hx hb dL_sayAtLeast_4 rfl (lv_at hl 2 rfl) ?_
  refine x_V (As := [.int a0, .int a1]) (rest := [.int (nI 0), .ref ao]) S hM g_L_X1_sayAtLeast hd_X1_sayAtLeast ⟨(by show fr + 1 ≤ 11; omega), (by show 8 + (3 + 11) + lo ≤ 410; omega)⟩ ⟨Nat.le_refl _, Nat.le_refl _⟩ hP hD hK hS hZ hX [1, 2, 3, 4, 5, 6, 7] rfl (by decide) 0 rfl rfl hl.1 rfl (Nat.le_of_ble_eq_true rfl) dL_sayAtLeast_5 (fun ce q9 H locs hP hS h1 h2 h3 => ?_)
  refine vx_catch (own := RL) (name := "java/lang/IllegalArgumentException") hown [⟨0, 10, 13, 13⟩] ⟨0, 10, 17, 21⟩ [⟨0, 10, 21, 15⟩] htab (fun z hz => by rw [List.mem_singleton] at hz; subst hz; exact Or.inr ⟨by decide, _, hts _ q_cl_L_13, hN _ xE_2 _ xE_1 (by decide)⟩) (by decide) (by decide) (hts _ q_cl_L_21) (va_Nw.use rfl (hX.2.2.2.1 _ xE_2)) h1 h2 h3 ?_
  refine lv_astore (lv' := [(4, .ref q9), (0, .ref h0), (1, .int a0), (2, .int a1), (3, .ref ao)]) hx hb dL_sayAtLeast_17 hl (by decide) rfl (fun ls hl => ?_)
  refine lv_iconst (v := nI 2) hx hb dL_sayAtLeast_19 (by decide) ?_
  refine W.widen (k := 1) (n := 6) (by omega) (by omega) ?_
  exact ret _ _ _ _ _ _ dL_sayAtLeast_20 ⟨rfl, rfl⟩ (List.Perm.refl _) hP hS

set_option maxHeartbeats 4000000 in
set_option maxRecDepth 100000 in
theorem w_L_sayAtLeast_3 {fr lo : Nat} (a0 a1 : Int32) (h0 ao : Nat) (fs : List Value) (f : Nat → Int64) (x1 x2 x3 x4 x5 x6 : Nat × va_E) (hfl : fr ≤ 10 ∧ lo ≤ 350) (hM : Mx l yX1_sayAtLeast ws_X1_sayAtLeast fr lo (dC, dI) (tyL cI cZ cJ) [.ref h0, .int a0, .int a1] ([(h0, .inr (1, fs)), x1, x2, x3, x4, x5, x6]) "java/lang/IllegalStateException") : Hi l yL_sayAtLeast ws_L_sayAtLeast (dC, dI) (tyL cI cZ cJ) [.ref h0, .int a0, .int a1, .ref ao] ((ao, .inl (cJ, 1, .inr (.inl f))) :: [(h0, .inr (1, fs)), x1, x2, x3, x4, x5, x6]) (fun r u => r = nI 3 ∧ u = (ao, .inl (cJ, 1, .inr (.inl f))) :: [(h0, .inr (1, fs)), x1, x2, x3, x4, x5, x6]) := by
  refine Hi_of (by decide +kernel) (Nat.le_of_ble_eq_true rfl) ?_
  intro pr ev sx mi ag bl me cd Q ls S hP hK hD hZ hX hN hl htab ret
  obtain ⟨hx, hb, hml, hown, hts⟩ := id S
  have hown : sx.vm.findClass RL = some mi.cls := hown
  have hS : va_S (wIn ((ao, .inl (cJ, 1, .inr (.inl f))) :: [(h0, .inr (1, fs)), x1, x2, x3, x4, x5, x6])) sx.heap sx.heap [] := va_S.rf
  have hl : lv_has ls 5 [(0, .ref h0), (1, .int a0), (2, .int a1), (3, .ref ao)] := hl
  refine lv_aload_n hx hb dL_sayAtLeast_0 rfl (lv_at hl 3 rfl) ?_
  refine lv_iconst (v := nI 0) hx hb dL_sayAtLeast_1 (by decide) ?_
  refine lv_aload_n hx hb dL_sayAtLeast_2 rfl (lv_at hl 0 rfl) ?_
  refine lv_iload_n hx hb dL_sayAtLeast_3 rfl (lv_at hl 1 rfl) ?_
  refine lv_iload_n hx hb dL_sayAtLeast_4 rfl (lv_at hl 2 rfl) ?_
  refine x_V (As := [.int a0, .int a1]) (rest := [.int (nI 0), .ref ao]) S hM g_L_X1_sayAtLeast hd_X1_sayAtLeast ⟨(by show fr + 1 ≤ 11; omega), (by show 8 + (3 + 11) + lo ≤ 410; omega)⟩ ⟨Nat.le_refl _, Nat.le_refl _⟩ hP hD hK hS hZ hX [1, 2, 3, 4, 5, 6, 7] rfl (by decide) 0 rfl rfl hl.1 rfl (Nat.le_of_ble_eq_true rfl) dL_sayAtLeast_5 (fun ce q9 H locs hP hS h1 h2 h3 => ?_)
  refine vx_catch (own := RL) (name := "java/lang/IllegalStateException") hown [⟨0, 10, 13, 13⟩, ⟨0, 10, 17, 21⟩] ⟨0, 10, 21, 15⟩ [] htab (fun z hz => by simp only [List.mem_cons, List.not_mem_nil, or_false] at hz; rcases hz with rfl | rfl; (· exact Or.inr ⟨by decide, _, hts _ q_cl_L_13, hN _ xE_0 _ xE_1 (by decide)⟩); (· exact Or.inr ⟨by decide, _, hts _ q_cl_L_21, hN _ xE_0 _ xE_2 (by decide)⟩)) (by decide) (by decide) (hts _ q_cl_L_15) (va_Nw.use rfl (hX.2.2.2.1 _ xE_0)) h1 h2 h3 ?_
  refine lv_astore (lv' := [(4, .ref q9), (0, .ref h0), (1, .int a0), (2, .int a1), (3, .ref ao)]) hx hb dL_sayAtLeast_21 hl (by decide) rfl (fun ls hl => ?_)
  refine lv_iconst (v := nI 3) hx hb dL_sayAtLeast_23 (by decide) ?_
  refine W.widen (k := 1) (n := 6) (by omega) (by omega) ?_
  exact ret _ _ _ _ _ _ dL_sayAtLeast_24 ⟨rfl, rfl⟩ (List.Perm.refl _) hP hS

set_option maxHeartbeats 4000000 in
set_option maxRecDepth 100000 in
theorem w_L_sayAtMost_ok {fr lo : Nat} {post : Int32 → va_W → Prop} (a0 a1 : Int32) (h0 ao : Nat) (fs : List Value) (f : Nat → Int64) (x1 x2 x3 x4 x5 x6 : Nat × va_E) (hfl : fr ≤ 10 ∧ lo ≤ 350) (hM : Mi l yX1_sayAtMost ws_X1_sayAtMost fr lo (dC, dI) (tyL cI cZ cJ) [.ref h0, .int a0, .int a1] ([(h0, .inr (1, fs)), x1, x2, x3, x4, x5, x6]) post) (hp : ∀ a u, post a u → (u.map (·.1)).Perm (([(h0, .inr (1, fs)), x1, x2, x3, x4, x5, x6] : va_W).map (·.1))) : Hi l yL_sayAtMost ws_L_sayAtMost (dC, dI) (tyL cI cZ cJ) [.ref h0, .int a0, .int a1, .ref ao] ((ao, .inl (cJ, 1, .inr (.inl f))) :: [(h0, .inr (1, fs)), x1, x2, x3, x4, x5, x6]) (fun r u => r = nI 0 ∧ ∃ a w1, post a w1 ∧ u = (ao, .inl (cJ, 1, .inr (.inl (vp_updL f 0 (a.toInt64))))) :: w1) := by
  refine Hi_of (by decide +kernel) (Nat.le_of_ble_eq_true rfl) ?_
  intro pr ev sx mi ag bl me cd Q ls S hP hK hD hZ hX hN hl htab ret
  obtain ⟨hx, hb, hml, hown, hts⟩ := id S
  have hown : sx.vm.findClass RL = some mi.cls := hown
  have hS : va_S (wIn ((ao, .inl (cJ, 1, .inr (.inl f))) :: [(h0, .inr (1, fs)), x1, x2, x3, x4, x5, x6])) sx.heap sx.heap [] := va_S.rf
  have hl : lv_has ls 5 [(0, .ref h0), (1, .int a0), (2, .int a1), (3, .ref ao)] := hl
  refine lv_aload_n hx hb dL_sayAtMost_0 rfl (lv_at hl 3 rfl) ?_
  refine lv_iconst (v := nI 0) hx hb dL_sayAtMost_1 (by decide) ?_
  refine lv_aload_n hx hb dL_sayAtMost_2 rfl (lv_at hl 0 rfl) ?_
  refine lv_iload_n hx hb dL_sayAtMost_3 rfl (lv_at hl 1 rfl) ?_
  refine lv_iload_n hx hb dL_sayAtMost_4 rfl (lv_at hl 2 rfl) ?_
  refine call_Vi (As := [.int a0, .int a1]) (wr := [(ao, .inl (cJ, 1, .inr (.inl f)))]) (rest := [.int (nI 0), .ref ao]) S hM g_L_X1_sayAtMost hd_X1_sayAtMost ⟨(by show fr + 1 ≤ 11; omega), (by show 8 + (3 + 11) + lo ≤ 410; omega)⟩ ⟨Nat.zero_le _, Nat.zero_le _⟩ hP hD hK hS hZ [1, 2, 3, 4, 5, 6, 7] [0] rfl rfl (by decide) 0 rfl rfl hl.1 rfl (Nat.le_of_ble_eq_true rfl) dL_sayAtMost_5 (fun r u H locs hq hP hD hS => ?_)
  refine lv_i2l hx hb dL_sayAtMost_8 rfl ?_
  have hP : va_P (dC, dI) vwCl ((ao, .inl (cJ, 1, .inr (.inl f))) :: u) H := hP
  have hD : va_D (wIn ((ao, .inl (cJ, 1, .inr (.inl f))) :: [(h0, .inr (1, fs)), x1, x2, x3, x4, x5, x6])) ((ao, .inl (cJ, 1, .inr (.inl f))) :: u) := hD
  refine va_last (n := 1) hx hb hK hP hD hS 0 2 rfl rfl (vp_in_nI (by decide) (by decide)) dL_sayAtMost_9 (fun H locs hP hD hS => ?_)
  rw [show (nI 0).toNatClampNeg = 0 from nI_clamp (by omega)] at hP hD
  have hP : va_P (dC, dI) vwCl ((ao, .inl (cJ, 1, .inr (.inl (vp_updL f 0 (r.toInt64))))) :: u) H := hP
  refine lv_goto (tgt := 25) hx hb dL_sayAtMost_10 (by decide) ?_
  refine lv_iconst (v := nI 0) hx hb dL_sayAtMost_25 (by decide) ?_
  refine W.widen (k := 1) (n := 6) (by omega) (by omega) ?_
  exact ret _ _ _ _ _ _ dL_sayAtMost_26 ⟨rfl, r, u, hq, rfl⟩ (List.Perm.cons _ (hp _ _ hq)) hP hS

set_option maxHeartbeats 4000000 in
set_option maxRecDepth 100000 in
theorem w_L_sayAtMost_1 {fr lo : Nat} (a0 a1 : Int32) (h0 ao : Nat) (fs : List Value) (f : Nat → Int64) (x1 x2 x3 x4 x5 x6 : Nat × va_E) (hfl : fr ≤ 10 ∧ lo ≤ 350) (hM : Mx l yX1_sayAtMost ws_X1_sayAtMost fr lo (dC, dI) (tyL cI cZ cJ) [.ref h0, .int a0, .int a1] ([(h0, .inr (1, fs)), x1, x2, x3, x4, x5, x6]) "java/lang/IndexOutOfBoundsException") : Hi l yL_sayAtMost ws_L_sayAtMost (dC, dI) (tyL cI cZ cJ) [.ref h0, .int a0, .int a1, .ref ao] ((ao, .inl (cJ, 1, .inr (.inl f))) :: [(h0, .inr (1, fs)), x1, x2, x3, x4, x5, x6]) (fun r u => r = nI 1 ∧ u = (ao, .inl (cJ, 1, .inr (.inl f))) :: [(h0, .inr (1, fs)), x1, x2, x3, x4, x5, x6]) := by
  refine Hi_of (by decide +kernel) (Nat.le_of_ble_eq_true rfl) ?_
  intro pr ev sx mi ag bl me cd Q ls S hP hK hD hZ hX hN hl htab ret
  obtain ⟨hx, hb, hml, hown, hts⟩ := id S
  have hown : sx.vm.findClass RL = some mi.cls := hown
  have hS : va_S (wIn ((ao, .inl (cJ, 1, .inr (.inl f))) :: [(h0, .inr (1, fs)), x1, x2, x3, x4, x5, x6])) sx.heap sx.heap [] := va_S.rf
  have hl : lv_has ls 5 [(0, .ref h0), (1, .int a0), (2, .int a1), (3, .ref ao)] := hl
  refine lv_aload_n hx hb dL_sayAtMost_0 rfl (lv_at hl 3 rfl) ?_
  refine lv_iconst (v := nI 0) hx hb dL_sayAtMost_1 (by decide) ?_
  refine lv_aload_n hx hb dL_sayAtMost_2 rfl (lv_at hl 0 rfl) ?_
  refine lv_iload_n hx hb dL_sayAtMost_3 rfl (lv_at hl 1 rfl) ?_
  refine lv_iload_n hx hb dL_sayAtMost_4 rfl (lv_at hl 2 rfl) ?_
  refine x_V (As := [.int a0, .int a1]) (rest := [.int (nI 0), .ref ao]) S hM g_L_X1_sayAtMost hd_X1_sayAtMost ⟨(by show fr + 1 ≤ 11; omega), (by show 8 + (3 + 11) + lo ≤ 410; omega)⟩ ⟨Nat.le_refl _, Nat.le_refl _⟩ hP hD hK hS hZ hX [1, 2, 3, 4, 5, 6, 7] rfl (by decide) 0 rfl rfl hl.1 rfl (Nat.le_of_ble_eq_true rfl) dL_sayAtMost_5 (fun ce q9 H locs hP hS h1 h2 h3 => ?_)
  refine vx_catch (own := RL) (name := "java/lang/IndexOutOfBoundsException") hown [] ⟨0, 10, 13, 13⟩ [⟨0, 10, 17, 21⟩, ⟨0, 10, 21, 15⟩] htab (fun z hz => nomatch hz) (by decide) (by decide) (hts _ q_cl_L_13) (va_Nw.use rfl (hX.2.2.2.1 _ xE_1)) h1 h2 h3 ?_
  refine lv_astore (lv' := [(4, .ref q9), (0, .ref h0), (1, .int a0), (2, .int a1), (3, .ref ao)]) hx hb dL_sayAtMost_13 hl (by decide) rfl (fun ls hl => ?_)
  refine lv_iconst (v := nI 1) hx hb dL_sayAtMost_15 (by decide) ?_
  refine W.widen (k := 1) (n := 6) (by omega) (by omega) ?_
  exact ret _ _ _ _ _ _ dL_sayAtMost_16 ⟨rfl, rfl⟩ (List.Perm.refl _) hP hS

set_option maxHeartbeats 4000000 in
set_option maxRecDepth 100000 in
theorem w_L_sayAtMost_2 {fr lo : Nat} (a0 a1 : Int32) (h0 ao : Nat) (fs : List Value) (f : Nat → Int64) (x1 x2 x3 x4 x5 x6 : Nat × va_E) (hfl : fr ≤ 10 ∧ lo ≤ 350) (hM : Mx l yX1_sayAtMost ws_X1_sayAtMost fr lo (dC, dI) (tyL cI cZ cJ) [.ref h0, .int a0, .int a1] ([(h0, .inr (1, fs)), x1, x2, x3, x4, x5, x6]) "java/lang/IllegalArgumentException") : Hi l yL_sayAtMost ws_L_sayAtMost (dC, dI) (tyL cI cZ cJ) [.ref h0, .int a0, .int a1, .ref ao] ((ao, .inl (cJ, 1, .inr (.inl f))) :: [(h0, .inr (1, fs)), x1, x2, x3, x4, x5, x6]) (fun r u => r = nI 2 ∧ u = (ao, .inl (cJ, 1, .inr (.inl f))) :: [(h0, .inr (1, fs)), x1, x2, x3, x4, x5, x6]) := by
  refine Hi_of (by decide +kernel) (Nat.le_of_ble_eq_true rfl) ?_
  intro pr ev sx mi ag bl me cd Q ls S hP hK hD hZ hX hN hl htab ret
  obtain ⟨hx, hb, hml, hown, hts⟩ := id S
  have hown : sx.vm.findClass RL = some mi.cls := hown
  have hS : va_S (wIn ((ao, .inl (cJ, 1, .inr (.inl f))) :: [(h0, .inr (1, fs)), x1, x2, x3, x4, x5, x6])) sx.heap sx.heap [] := va_S.rf
  have hl : lv_has ls 5 [(0, .ref h0), (1, .int a0), (2, .int a1), (3, .ref ao)] := hl
  refine lv_aload_n hx hb dL_sayAtMost_0 rfl (lv_at hl 3 rfl) ?_
  refine lv_iconst (v := nI 0) hx hb dL_sayAtMost_1 (by decide) ?_
  refine lv_aload_n hx hb dL_sayAtMost_2 rfl (lv_at hl 0 rfl) ?_
  refine lv_iload_n hx hb dL_sayAtMost_3 rfl (lv_at hl 1 rfl) ?_
  refine lv_iload_n hx hb dL_sayAtMost_4 rfl (lv_at hl 2 rfl) ?_
  refine x_V (As := [.int a0, .int a1]) (rest := [.int (nI 0), .ref ao]) S hM g_L_X1_sayAtMost hd_X1_sayAtMost ⟨(by show fr + 1 ≤ 11; omega), (by show 8 + (3 + 11) + lo ≤ 410; omega)⟩ ⟨Nat.le_refl _, Nat.le_refl _⟩ hP hD hK hS hZ hX [1, 2, 3, 4, 5, 6, 7] rfl (by decide) 0 rfl rfl hl.1 rfl (Nat.le_of_ble_eq_true rfl) dL_sayAtMost_5 (fun ce q9 H locs hP hS h1 h2 h3 => ?_)
  refine vx_catch (own := RL) (name := "java/lang/IllegalArgumentException") hown [⟨0, 10, 13, 13⟩] ⟨0, 10, 17, 21⟩ [⟨0, 10, 21, 15⟩] htab (fun z hz => by rw [List.mem_singleton] at hz; subst hz; exact Or.inr ⟨by decide, _, hts _ q_cl_L_13, hN _ xE_2 _ xE_1 (by decide)⟩) (by decide) (by decide) (hts _ q_cl_L_21) (va_Nw.use rfl (hX.2.2.2.1 _ xE_2)) h1 h2 h3 ?_
  refine lv_astore (lv' := [(4, .ref q9), (0, .ref h0), (1, .int a0), (2, .int a1), (3, .ref ao)]) hx hb dL_sayAtMost_17 hl (by decide) rfl (fun ls hl => ?_)
  refine lv_iconst (v := nI 2) hx hb dL_sayAtMost_19 (by decide) ?_
  refine W.widen (k := 1) (n := 6) (by omega) (by omega) ?_
  exact ret _ _ _ _ _ _ dL_sayAtMost_20 ⟨rfl, rfl⟩ (List.Perm.refl _) hP hS

set_option maxHeartbeats 4000000 in
set_option maxRecDepth 100000 in
theorem w_L_sayAtMost_3 {fr lo : Nat} (a0 a1 : Int32) (h0 ao : Nat) (fs : List Value) (f : Nat → Int64) (x1 x2 x3 x4 x5 x6 : Nat × va_E) (hfl : fr ≤ 10 ∧ lo ≤ 350) (hM : Mx l yX1_sayAtMost ws_X1_sayAtMost fr lo (dC, dI) (tyL cI cZ cJ) [.ref h0, .int a0, .int a1] ([(h0, .inr (1, fs)), x1, x2, x3, x4, x5, x6]) "java/lang/IllegalStateException") : Hi l yL_sayAtMost ws_L_sayAtMost (dC, dI) (tyL cI cZ cJ) [.ref h0, .int a0, .int a1, .ref ao] ((ao, .inl (cJ, 1, .inr (.inl f))) :: [(h0, .inr (1, fs)), x1, x2, x3, x4, x5, x6]) (fun r u => r = nI 3 ∧ u = (ao, .inl (cJ, 1, .inr (.inl f))) :: [(h0, .inr (1, fs)), x1, x2, x3, x4, x5, x6]) := by
  refine Hi_of (by decide +kernel) (Nat.le_of_ble_eq_true rfl) ?_
  intro pr ev sx mi ag bl me cd Q ls S hP hK hD hZ hX hN hl htab ret
  obtain ⟨hx, hb, hml, hown, hts⟩ := id S
  have hown : sx.vm.findClass RL = some mi.cls := hown
  have hS : va_S (wIn ((ao, .inl (cJ, 1, .inr (.inl f))) :: [(h0, .inr (1, fs)), x1, x2, x3, x4, x5, x6])) sx.heap sx.heap [] := va_S.rf
  have hl : lv_has ls 5 [(0, .ref h0), (1, .int a0), (2, .int a1), (3, .ref ao)] := hl
  refine lv_aload_n hx hb dL_sayAtMost_0 rfl (lv_at hl 3 rfl) ?_
  refine lv_iconst (v := nI 0) hx hb dL_sayAtMost_1 (by decide) ?_
  refine lv_aload_n hx hb dL_sayAtMost_2 rfl (lv_at hl 0 rfl) ?_
  refine lv_iload_n hx hb dL_sayAtMost_3 rfl (lv_at hl 1 rfl) ?_
  refine lv_iload_n hx hb dL_sayAtMost_4 rfl (lv_at hl 2 rfl) ?_
  refine x_V (As := [.int a0, .int a1]) (rest := [.int (nI 0), .ref ao]) S hM g_L_X1_sayAtMost hd_X1_sayAtMost ⟨(by show fr + 1 ≤ 11; omega), (by show 8 + (3 + 11) + lo ≤ 410; omega)⟩ ⟨Nat.le_refl _, Nat.le_refl _⟩ hP hD hK hS hZ hX [1, 2, 3, 4, 5, 6, 7] rfl (by decide) 0 rfl rfl hl.1 rfl (Nat.le_of_ble_eq_true rfl) dL_sayAtMost_5 (fun ce q9 H locs hP hS h1 h2 h3 => ?_)
  refine vx_catch (own := RL) (name := "java/lang/IllegalStateException") hown [⟨0, 10, 13, 13⟩, ⟨0, 10, 17, 21⟩] ⟨0, 10, 21, 15⟩ [] htab (fun z hz => by simp only [List.mem_cons, List.not_mem_nil, or_false] at hz; rcases hz with rfl | rfl; (· exact Or.inr ⟨by decide, _, hts _ q_cl_L_13, hN _ xE_0 _ xE_1 (by decide)⟩); (· exact Or.inr ⟨by decide, _, hts _ q_cl_L_21, hN _ xE_0 _ xE_2 (by decide)⟩)) (by decide) (by decide) (hts _ q_cl_L_15) (va_Nw.use rfl (hX.2.2.2.1 _ xE_0)) h1 h2 h3 ?_
  refine lv_astore (lv' := [(4, .ref q9), (0, .ref h0), (1, .int a0), (2, .int a1), (3, .ref ao)]) hx hb dL_sayAtMost_21 hl (by decide) rfl (fun ls hl => ?_)
  refine lv_iconst (v := nI 3) hx hb dL_sayAtMost_23 (by decide) ?_
  refine W.widen (k := 1) (n := 6) (by omega) (by omega) ?_
  exact ret _ _ _ _ _ _ dL_sayAtMost_24 ⟨rfl, rfl⟩ (List.Perm.refl _) hP hS

set_option maxHeartbeats 4000000 in
set_option maxRecDepth 100000 in
theorem w_L_hatOf_ok {fr lo : Nat} {post : Int32 → va_W → Prop} (a0 : Int32) (h0 ao : Nat) (fs : List Value) (f : Nat → Int64) (x1 x2 x3 x4 x5 x6 : Nat × va_E) (hfl : fr ≤ 10 ∧ lo ≤ 350) (hM : Mi l yX1_hatOf ws_X1_hatOf fr lo (dC, dI) (tyL cI cZ cJ) [.ref h0, .int a0] ([(h0, .inr (1, fs)), x1, x2, x3, x4, x5, x6]) post) (hp : ∀ a u, post a u → (u.map (·.1)).Perm (([(h0, .inr (1, fs)), x1, x2, x3, x4, x5, x6] : va_W).map (·.1))) : Hi l yL_hatOf ws_L_hatOf (dC, dI) (tyL cI cZ cJ) [.ref h0, .int a0, .ref ao] ((ao, .inl (cJ, 1, .inr (.inl f))) :: [(h0, .inr (1, fs)), x1, x2, x3, x4, x5, x6]) (fun r u => r = nI 0 ∧ ∃ a w1, post a w1 ∧ u = (ao, .inl (cJ, 1, .inr (.inl (vp_updL f 0 (a.toInt64))))) :: w1) := by
  refine Hi_of (by decide +kernel) (Nat.le_of_ble_eq_true rfl) ?_
  intro pr ev sx mi ag bl me cd Q ls S hP hK hD hZ hX hN hl htab ret
  obtain ⟨hx, hb, hml, hown, hts⟩ := id S
  have hown : sx.vm.findClass RL = some mi.cls := hown
  have hS : va_S (wIn ((ao, .inl (cJ, 1, .inr (.inl f))) :: [(h0, .inr (1, fs)), x1, x2, x3, x4, x5, x6])) sx.heap sx.heap [] := va_S.rf
  have hl : lv_has ls 4 [(0, .ref h0), (1, .int a0), (2, .ref ao)] := hl
  refine lv_aload_n hx hb dL_hatOf_0 rfl (lv_at hl 2 rfl) ?_
  refine lv_iconst (v := nI 0) hx hb dL_hatOf_1 (by decide) ?_
  refine lv_aload_n hx hb dL_hatOf_2 rfl (lv_at hl 0 rfl) ?_
  refine lv_iload_n hx hb dL_hatOf_3 rfl (lv_at hl 1 rfl) ?_
  refine call_Vi (As := [.int a0]) (wr := [(ao, .inl (cJ, 1, .inr (.inl f)))]) (rest := [.int (nI 0), .ref ao]) S hM g_L_X1_hatOf hd_X1_hatOf ⟨(by show fr + 1 ≤ 11; omega), (by show 8 + (2 + 11) + lo ≤ 410; omega)⟩ ⟨Nat.zero_le _, Nat.zero_le _⟩ hP hD hK hS hZ [1, 2, 3, 4, 5, 6, 7] [0] rfl rfl (by decide) 0 rfl rfl hl.1 rfl (Nat.le_of_ble_eq_true rfl) dL_hatOf_4 (fun r u H locs hq hP hD hS => ?_)
  refine lv_i2l hx hb dL_hatOf_7 rfl ?_
  have hP : va_P (dC, dI) vwCl ((ao, .inl (cJ, 1, .inr (.inl f))) :: u) H := hP
  have hD : va_D (wIn ((ao, .inl (cJ, 1, .inr (.inl f))) :: [(h0, .inr (1, fs)), x1, x2, x3, x4, x5, x6])) ((ao, .inl (cJ, 1, .inr (.inl f))) :: u) := hD
  refine va_last (n := 1) hx hb hK hP hD hS 0 2 rfl rfl (vp_in_nI (by decide) (by decide)) dL_hatOf_8 (fun H locs hP hD hS => ?_)
  rw [show (nI 0).toNatClampNeg = 0 from nI_clamp (by omega)] at hP hD
  have hP : va_P (dC, dI) vwCl ((ao, .inl (cJ, 1, .inr (.inl (vp_updL f 0 (r.toInt64))))) :: u) H := hP
  refine lv_goto (tgt := 15) hx hb dL_hatOf_9 (by decide) ?_
  refine lv_iconst (v := nI 0) hx hb dL_hatOf_15 (by decide) ?_
  refine W.widen (k := 1) (n := 6) (by omega) (by omega) ?_
  exact ret _ _ _ _ _ _ dL_hatOf_16 ⟨rfl, r, u, hq, rfl⟩ (List.Perm.cons _ (hp _ _ hq)) hP hS

set_option maxHeartbeats 4000000 in
set_option maxRecDepth 100000 in
theorem w_L_hatOf_1 {fr lo : Nat} (a0 : Int32) (h0 ao : Nat) (fs : List Value) (f : Nat → Int64) (x1 x2 x3 x4 x5 x6 : Nat × va_E) (hfl : fr ≤ 10 ∧ lo ≤ 350) (hM : Mx l yX1_hatOf ws_X1_hatOf fr lo (dC, dI) (tyL cI cZ cJ) [.ref h0, .int a0] ([(h0, .inr (1, fs)), x1, x2, x3, x4, x5, x6]) "java/lang/IndexOutOfBoundsException") : Hi l yL_hatOf ws_L_hatOf (dC, dI) (tyL cI cZ cJ) [.ref h0, .int a0, .ref ao] ((ao, .inl (cJ, 1, .inr (.inl f))) :: [(h0, .inr (1, fs)), x1, x2, x3, x4, x5, x6]) (fun r u => r = nI 1 ∧ u = (ao, .inl (cJ, 1, .inr (.inl f))) :: [(h0, .inr (1, fs)), x1, x2, x3, x4, x5, x6]) := by
  refine Hi_of (by decide +kernel) (Nat.le_of_ble_eq_true rfl) ?_
  intro pr ev sx mi ag bl me cd Q ls S hP hK hD hZ hX hN hl htab ret
  obtain ⟨hx, hb, hml, hown, hts⟩ := id S
  have hown : sx.vm.findClass RL = some mi.cls := hown
  have hS : va_S (wIn ((ao, .inl (cJ, 1, .inr (.inl f))) :: [(h0, .inr (1, fs)), x1, x2, x3, x4, x5, x6])) sx.heap sx.heap [] := va_S.rf
  have hl : lv_has ls 4 [(0, .ref h0), (1, .int a0), (2, .ref ao)] := hl
  refine lv_aload_n hx hb dL_hatOf_0 rfl (lv_at hl 2 rfl) ?_
  refine lv_iconst (v := nI 0) hx hb dL_hatOf_1 (by decide) ?_
  refine lv_aload_n hx hb dL_hatOf_2 rfl (lv_at hl 0 rfl) ?_
  refine lv_iload_n hx hb dL_hatOf_3 rfl (lv_at hl 1 rfl) ?_
  refine x_V (As := [.int a0]) (rest := [.int (nI 0), .ref ao]) S hM g_L_X1_hatOf hd_X1_hatOf ⟨(by show fr + 1 ≤ 11; omega), (by show 8 + (2 + 11) + lo ≤ 410; omega)⟩ ⟨Nat.le_refl _, Nat.le_refl _⟩ hP hD hK hS hZ hX [1, 2, 3, 4, 5, 6, 7] rfl (by decide) 0 rfl rfl hl.1 rfl (Nat.le_of_ble_eq_true rfl) dL_hatOf_4 (fun ce q9 H locs hP hS h1 h2 h3 => ?_)
  refine vx_catch (own := RL) (name := "java/lang/IndexOutOfBoundsException") hown [] ⟨0, 9, 12, 13⟩ [] htab (fun z hz => nomatch hz) (by decide) (by decide) (hts _ q_cl_L_13) (va_Nw.use rfl (hX.2.2.2.1 _ xE_1)) h1 h2 h3 ?_
  refine lv_astore_n (lv' := [(3, .ref q9), (0, .ref h0), (1, .int a0), (2, .ref ao)]) hx hb dL_hatOf_12 rfl hl (by decide) rfl (fun ls hl => ?_)
  refine lv_iconst (v := nI 1) hx hb dL_hatOf_13 (by decide) ?_
  refine W.widen (k := 1) (n := 6) (by omega) (by omega) ?_
  exact ret _ _ _ _ _ _ dL_hatOf_14 ⟨rfl, rfl⟩ (List.Perm.refl _) hP hS

set_option maxHeartbeats 4000000 in
set_option maxRecDepth 100000 in
theorem w_L_sees_ok {fr lo : Nat} {post : Int32 → va_W → Prop} (a0 a1 : Int32) (h0 ao : Nat) (fs : List Value) (f : Nat → Int64) (x1 x2 x3 x4 x5 x6 : Nat × va_E) (hfl : fr ≤ 10 ∧ lo ≤ 350) (hM : Mi l yX1_sees ws_X1_sees fr lo (dC, dI) (tyL cI cZ cJ) [.ref h0, .int a0, .int a1] ([(h0, .inr (1, fs)), x1, x2, x3, x4, x5, x6]) post) (hp : ∀ a u, post a u → (u.map (·.1)).Perm (([(h0, .inr (1, fs)), x1, x2, x3, x4, x5, x6] : va_W).map (·.1))) (hbo : ∀ a u, post a u → ∃ b, a = bI b) : Hi l yL_sees ws_L_sees (dC, dI) (tyL cI cZ cJ) [.ref h0, .int a0, .int a1, .ref ao] ((ao, .inl (cJ, 1, .inr (.inl f))) :: [(h0, .inr (1, fs)), x1, x2, x3, x4, x5, x6]) (fun r u => r = nI 0 ∧ ∃ b w1, post (bI b) w1 ∧ u = (ao, .inl (cJ, 1, .inr (.inl (vp_updL f 0 (lB b))))) :: w1) := by
  refine Hi_of (by decide +kernel) (Nat.le_of_ble_eq_true rfl) ?_
  intro pr ev sx mi ag bl me cd Q ls S hP hK hD hZ hX hN hl htab ret
  obtain ⟨hx, hb, hml, hown, hts⟩ := id S
  have hown : sx.vm.findClass RL = some mi.cls := hown
  have hS : va_S (wIn ((ao, .inl (cJ, 1, .inr (.inl f))) :: [(h0, .inr (1, fs)), x1, x2, x3, x4, x5, x6])) sx.heap sx.heap [] := va_S.rf
  have hl : lv_has ls 5 [(0, .ref h0), (1, .int a0), (2, .int a1), (3, .ref ao)] := hl
  refine lv_aload_n hx hb dL_sees_0 rfl (lv_at hl 3 rfl) ?_
  refine lv_iconst (v := nI 0) hx hb dL_sees_1 (by decide) ?_
  refine lv_aload_n hx hb dL_sees_2 rfl (lv_at hl 0 rfl) ?_
  refine lv_iload_n hx hb dL_sees_3 rfl (lv_at hl 1 rfl) ?_
  refine lv_iload_n hx hb dL_sees_4 rfl (lv_at hl 2 rfl) ?_
  refine call_Vi (As := [.int a0, .int a1]) (wr := [(ao, .inl (cJ, 1, .inr (.inl f)))]) (rest := [.int (nI 0), .ref ao]) S hM g_L_X1_sees hd_X1_sees ⟨(by show fr + 1 ≤ 11; omega), (by show 8 + (3 + 11) + lo ≤ 410; omega)⟩ ⟨Nat.zero_le _, Nat.zero_le _⟩ hP hD hK hS hZ [1, 2, 3, 4, 5, 6, 7] [0] rfl rfl (by decide) 0 rfl rfl hl.1 rfl (Nat.le_of_ble_eq_true rfl) dL_sees_5 (fun r u H locs hq hP hD hS => ?_)
  obtain ⟨b, rfl⟩ := hbo _ _ hq
  refine ternL_eq hx hb dL_sees_8 dL_sees_11 dL_sees_12 dL_sees_15 (by decide) (by decide) ?_
  have hP : va_P (dC, dI) vwCl ((ao, .inl (cJ, 1, .inr (.inl f))) :: u) H := hP
  have hD : va_D (wIn ((ao, .inl (cJ, 1, .inr (.inl f))) :: [(h0, .inr (1, fs)), x1, x2, x3, x4, x5, x6])) ((ao, .inl (cJ, 1, .inr (.inl f))) :: u) := hD
  refine va_last (n := 1) hx hb hK hP hD hS 0 2 rfl rfl (vp_in_nI (by decide) (by decide)) dL_sees_16 (fun H locs hP hD hS => ?_)
  rw [show (nI 0).toNatClampNeg = 0 from nI_clamp (by omega)] at hP hD
  have hP : va_P (dC, dI) vwCl ((ao, .inl (cJ, 1, .inr (.inl (vp_updL f 0 (lB b))))) :: u) H := hP
  refine lv_goto (tgt := 24) hx hb dL_sees_17 (by decide) ?_
  refine lv_iconst (v := nI 0) hx hb dL_sees_24 (by decide) ?_
  refine W.widen (k := 1) (n := 6) (by omega) (by omega) ?_
  exact ret _ _ _ _ _ _ dL_sees_25 ⟨rfl, b, u, hq, rfl⟩ (List.Perm.cons _ (hp _ _ hq)) hP hS

set_option maxHeartbeats 4000000 in
set_option maxRecDepth 100000 in
theorem w_L_sees_1 {fr lo : Nat} (a0 a1 : Int32) (h0 ao : Nat) (fs : List Value) (f : Nat → Int64) (x1 x2 x3 x4 x5 x6 : Nat × va_E) (hfl : fr ≤ 10 ∧ lo ≤ 350) (hM : Mx l yX1_sees ws_X1_sees fr lo (dC, dI) (tyL cI cZ cJ) [.ref h0, .int a0, .int a1] ([(h0, .inr (1, fs)), x1, x2, x3, x4, x5, x6]) "java/lang/IndexOutOfBoundsException") : Hi l yL_sees ws_L_sees (dC, dI) (tyL cI cZ cJ) [.ref h0, .int a0, .int a1, .ref ao] ((ao, .inl (cJ, 1, .inr (.inl f))) :: [(h0, .inr (1, fs)), x1, x2, x3, x4, x5, x6]) (fun r u => r = nI 1 ∧ u = (ao, .inl (cJ, 1, .inr (.inl f))) :: [(h0, .inr (1, fs)), x1, x2, x3, x4, x5, x6]) := by
  refine Hi_of (by decide +kernel) (Nat.le_of_ble_eq_true rfl) ?_
  intro pr ev sx mi ag bl me cd Q ls S hP hK hD hZ hX hN hl htab ret
  obtain ⟨hx, hb, hml, hown, hts⟩ := id S
  have hown : sx.vm.findClass RL = some mi.cls := hown
  have hS : va_S (wIn ((ao, .inl (cJ, 1, .inr (.inl f))) :: [(h0, .inr (1, fs)), x1, x2, x3, x4, x5, x6])) sx.heap sx.heap [] := va_S.rf
  have hl : lv_has ls 5 [(0, .ref h0), (1, .int a0), (2, .int a1), (3, .ref ao)] := hl
  refine lv_aload_n hx hb dL_sees_0 rfl (lv_at hl 3 rfl) ?_
  refine lv_iconst (v := nI 0) hx hb dL_sees_1 (by decide) ?_
  refine lv_aload_n hx hb dL_sees_2 rfl (lv_at hl 0 rfl) ?_
  refine lv_iload_n hx hb dL_sees_3 rfl (lv_at hl 1 rfl) ?_
  refine lv_iload_n hx hb dL_sees_4 rfl (lv_at hl 2 rfl) ?_
  refine x_V (As := [.int a0, .int a1]) (rest := [.int (nI 0), .ref ao]) S hM g_L_X1_sees hd_X1_sees ⟨(by show fr + 1 ≤ 11; omega), (by show 8 + (3 + 11) + lo ≤ 410; omega)⟩ ⟨Nat.le_refl _, Nat.le_refl _⟩ hP hD hK hS hZ hX [1, 2, 3, 4, 5, 6, 7] rfl (by decide) 0 rfl rfl hl.1 rfl (Nat.le_of_ble_eq_true rfl) dL_sees_5 (fun ce q9 H locs hP hS h1 h2 h3 => ?_)
  refine vx_catch (own := RL) (name := "java/lang/IndexOutOfBoundsException") hown [] ⟨0, 17, 20, 13⟩ [] htab (fun z hz => nomatch hz) (by decide) (by decide) (hts _ q_cl_L_13) (va_Nw.use rfl (hX.2.2.2.1 _ xE_1)) h1 h2 h3 ?_
  refine lv_astore (lv' := [(4, .ref q9), (0, .ref h0), (1, .int a0), (2, .int a1), (3, .ref ao)]) hx hb dL_sees_20 hl (by decide) rfl (fun ls hl => ?_)
  refine lv_iconst (v := nI 1) hx hb dL_sees_22 (by decide) ?_
  refine W.widen (k := 1) (n := 6) (by omega) (by omega) ?_
  exact ret _ _ _ _ _ _ dL_sees_23 ⟨rfl, rfl⟩ (List.Perm.refl _) hP hS

set_option maxHeartbeats 4000000 in
set_option maxRecDepth 100000 in
theorem w_L_hatsOf_ok {fr lo : Nat} {post : Int32 → va_W → Prop} (a0 : Int32) (h0 ao : Nat) (fs : List Value) (f : Nat → Int64) (x1 x2 x3 x4 x5 x6 : Nat × va_E) (hfl : fr ≤ 10 ∧ lo ≤ 350) (hM : Mi l yX1_hatsOf ws_X1_hatsOf fr lo (dC, dI) (tyL cI cZ cJ) [.ref h0, .int a0] ([(h0, .inr (1, fs)), x1, x2, x3, x4, x5, x6]) post) (hp : ∀ a u, post a u → (u.map (·.1)).Perm (([(h0, .inr (1, fs)), x1, x2, x3, x4, x5, x6] : va_W).map (·.1))) : Hi l yL_hatsOf ws_L_hatsOf (dC, dI) (tyL cI cZ cJ) [.ref h0, .int a0, .ref ao] ((ao, .inl (cJ, 1, .inr (.inl f))) :: [(h0, .inr (1, fs)), x1, x2, x3, x4, x5, x6]) (fun r u => r = nI 0 ∧ ∃ a w1, post a w1 ∧ u = (ao, .inl (cJ, 1, .inr (.inl (vp_updL f 0 (a.toInt64))))) :: w1) := by
  refine Hi_of (by decide +kernel) (Nat.le_of_ble_eq_true rfl) ?_
  intro pr ev sx mi ag bl me cd Q ls S hP hK hD hZ hX hN hl htab ret
  obtain ⟨hx, hb, hml, hown, hts⟩ := id S
  have hown : sx.vm.findClass RL = some mi.cls := hown
  have hS : va_S (wIn ((ao, .inl (cJ, 1, .inr (.inl f))) :: [(h0, .inr (1, fs)), x1, x2, x3, x4, x5, x6])) sx.heap sx.heap [] := va_S.rf
  have hl : lv_has ls 4 [(0, .ref h0), (1, .int a0), (2, .ref ao)] := hl
  refine lv_aload_n hx hb dL_hatsOf_0 rfl (lv_at hl 2 rfl) ?_
  refine lv_iconst (v := nI 0) hx hb dL_hatsOf_1 (by decide) ?_
  refine lv_aload_n hx hb dL_hatsOf_2 rfl (lv_at hl 0 rfl) ?_
  refine lv_iload_n hx hb dL_hatsOf_3 rfl (lv_at hl 1 rfl) ?_
  refine call_Vi (As := [.int a0]) (wr := [(ao, .inl (cJ, 1, .inr (.inl f)))]) (rest := [.int (nI 0), .ref ao]) S hM g_L_X1_hatsOf hd_X1_hatsOf ⟨(by show fr + 1 ≤ 11; omega), (by show 8 + (2 + 11) + lo ≤ 410; omega)⟩ ⟨Nat.zero_le _, Nat.zero_le _⟩ hP hD hK hS hZ [1, 2, 3, 4, 5, 6, 7] [0] rfl rfl (by decide) 0 rfl rfl hl.1 rfl (Nat.le_of_ble_eq_true rfl) dL_hatsOf_4 (fun r u H locs hq hP hD hS => ?_)
  refine lv_i2l hx hb dL_hatsOf_7 rfl ?_
  have hP : va_P (dC, dI) vwCl ((ao, .inl (cJ, 1, .inr (.inl f))) :: u) H := hP
  have hD : va_D (wIn ((ao, .inl (cJ, 1, .inr (.inl f))) :: [(h0, .inr (1, fs)), x1, x2, x3, x4, x5, x6])) ((ao, .inl (cJ, 1, .inr (.inl f))) :: u) := hD
  refine va_last (n := 1) hx hb hK hP hD hS 0 2 rfl rfl (vp_in_nI (by decide) (by decide)) dL_hatsOf_8 (fun H locs hP hD hS => ?_)
  rw [show (nI 0).toNatClampNeg = 0 from nI_clamp (by omega)] at hP hD
  have hP : va_P (dC, dI) vwCl ((ao, .inl (cJ, 1, .inr (.inl (vp_updL f 0 (r.toInt64))))) :: u) H := hP
  refine lv_goto (tgt := 15) hx hb dL_hatsOf_9 (by decide) ?_
  refine lv_iconst (v := nI 0) hx hb dL_hatsOf_15 (by decide) ?_
  refine W.widen (k := 1) (n := 6) (by omega) (by omega) ?_
  exact ret _ _ _ _ _ _ dL_hatsOf_16 ⟨rfl, r, u, hq, rfl⟩ (List.Perm.cons _ (hp _ _ hq)) hP hS

set_option maxHeartbeats 4000000 in
set_option maxRecDepth 100000 in
theorem w_L_hatsOf_1 {fr lo : Nat} (a0 : Int32) (h0 ao : Nat) (fs : List Value) (f : Nat → Int64) (x1 x2 x3 x4 x5 x6 : Nat × va_E) (hfl : fr ≤ 10 ∧ lo ≤ 350) (hM : Mx l yX1_hatsOf ws_X1_hatsOf fr lo (dC, dI) (tyL cI cZ cJ) [.ref h0, .int a0] ([(h0, .inr (1, fs)), x1, x2, x3, x4, x5, x6]) "java/lang/IndexOutOfBoundsException") : Hi l yL_hatsOf ws_L_hatsOf (dC, dI) (tyL cI cZ cJ) [.ref h0, .int a0, .ref ao] ((ao, .inl (cJ, 1, .inr (.inl f))) :: [(h0, .inr (1, fs)), x1, x2, x3, x4, x5, x6]) (fun r u => r = nI 1 ∧ u = (ao, .inl (cJ, 1, .inr (.inl f))) :: [(h0, .inr (1, fs)), x1, x2, x3, x4, x5, x6]) := by
  refine Hi_of (by decide +kernel) (Nat.le_of_ble_eq_true rfl) ?_
  intro pr ev sx mi ag bl me cd Q ls S hP hK hD hZ hX hN hl htab ret
  obtain ⟨hx, hb, hml, hown, hts⟩ := id S
  have hown : sx.vm.findClass RL = some mi.cls := hown
  have hS : va_S (wIn ((ao, .inl (cJ, 1, .inr (.inl f))) :: [(h0, .inr (1, fs)), x1, x2, x3, x4, x5, x6])) sx.heap sx.heap [] := va_S.rf
  have hl : lv_has ls 4 [(0, .ref h0), (1, .int a0), (2, .ref ao)] := hl
  refine lv_aload_n hx hb dL_hatsOf_0 rfl (lv_at hl 2 rfl) ?_
  refine lv_iconst (v := nI 0) hx hb dL_hatsOf_1 (by decide) ?_
  refine lv_aload_n hx hb dL_hatsOf_2 rfl (lv_at hl 0 rfl) ?_
  refine lv_iload_n hx hb dL_hatsOf_3 rfl (lv_at hl 1 rfl) ?_
  refine x_V (As := [.int a0]) (rest := [.int (nI 0), .ref ao]) S hM g_L_X1_hatsOf hd_X1_hatsOf ⟨(by show fr + 1 ≤ 11; omega), (by show 8 + (2 + 11) + lo ≤ 410; omega)⟩ ⟨Nat.le_refl _, Nat.le_refl _⟩ hP hD hK hS hZ hX [1, 2, 3, 4, 5, 6, 7] rfl (by decide) 0 rfl rfl hl.1 rfl (Nat.le_of_ble_eq_true rfl) dL_hatsOf_4 (fun ce q9 H locs hP hS h1 h2 h3 => ?_)
  refine vx_catch (own := RL) (name := "java/lang/IndexOutOfBoundsException") hown [] ⟨0, 9, 12, 13⟩ [] htab (fun z hz => nomatch hz) (by decide) (by decide) (hts _ q_cl_L_13) (va_Nw.use rfl (hX.2.2.2.1 _ xE_1)) h1 h2 h3 ?_
  refine lv_astore_n (lv' := [(3, .ref q9), (0, .ref h0), (1, .int a0), (2, .ref ao)]) hx hb dL_hatsOf_12 rfl hl (by decide) rfl (fun ls hl => ?_)
  refine lv_iconst (v := nI 1) hx hb dL_hatsOf_13 (by decide) ?_
  refine W.widen (k := 1) (n := 6) (by omega) (by omega) ?_
  exact ret _ _ _ _ _ _ dL_hatsOf_14 ⟨rfl, rfl⟩ (List.Perm.refl _) hP hS

set_option maxHeartbeats 4000000 in
set_option maxRecDepth 100000 in
theorem w_L_openWaysWith_ok {fr lo : Nat} {post : Int32 → va_W → Prop} (a0 a1 : Int32) (h0 ao : Nat) (fs : List Value) (f : Nat → Int64) (x1 x2 x3 x4 x5 x6 : Nat × va_E) (hfl : fr ≤ 10 ∧ lo ≤ 350) (hM : Mi l yX1_openWaysWith ws_X1_openWaysWith fr lo (dC, dI) (tyL cI cZ cJ) [.ref h0, .int a0, .int a1] ([(h0, .inr (1, fs)), x1, x2, x3, x4, x5, x6]) post) (hp : ∀ a u, post a u → (u.map (·.1)).Perm (([(h0, .inr (1, fs)), x1, x2, x3, x4, x5, x6] : va_W).map (·.1))) : Hi l yL_openWaysWith ws_L_openWaysWith (dC, dI) (tyL cI cZ cJ) [.ref h0, .int a0, .int a1, .ref ao] ((ao, .inl (cJ, 1, .inr (.inl f))) :: [(h0, .inr (1, fs)), x1, x2, x3, x4, x5, x6]) (fun r u => r = nI 0 ∧ ∃ a w1, post a w1 ∧ u = (ao, .inl (cJ, 1, .inr (.inl (vp_updL f 0 (a.toInt64))))) :: w1) := by
  refine Hi_of (by decide +kernel) (Nat.le_of_ble_eq_true rfl) ?_
  intro pr ev sx mi ag bl me cd Q ls S hP hK hD hZ hX hN hl htab ret
  obtain ⟨hx, hb, hml, hown, hts⟩ := id S
  have hown : sx.vm.findClass RL = some mi.cls := hown
  have hS : va_S (wIn ((ao, .inl (cJ, 1, .inr (.inl f))) :: [(h0, .inr (1, fs)), x1, x2, x3, x4, x5, x6])) sx.heap sx.heap [] := va_S.rf
  have hl : lv_has ls 5 [(0, .ref h0), (1, .int a0), (2, .int a1), (3, .ref ao)] := hl
  refine lv_aload_n hx hb dL_openWaysWith_0 rfl (lv_at hl 3 rfl) ?_
  refine lv_iconst (v := nI 0) hx hb dL_openWaysWith_1 (by decide) ?_
  refine lv_aload_n hx hb dL_openWaysWith_2 rfl (lv_at hl 0 rfl) ?_
  refine lv_iload_n hx hb dL_openWaysWith_3 rfl (lv_at hl 1 rfl) ?_
  refine lv_iload_n hx hb dL_openWaysWith_4 rfl (lv_at hl 2 rfl) ?_
  refine call_Vi (As := [.int a0, .int a1]) (wr := [(ao, .inl (cJ, 1, .inr (.inl f)))]) (rest := [.int (nI 0), .ref ao]) S hM g_L_X1_openWaysWith hd_X1_openWaysWith ⟨(by show fr + 1 ≤ 11; omega), (by show 8 + (3 + 11) + lo ≤ 410; omega)⟩ ⟨Nat.zero_le _, Nat.zero_le _⟩ hP hD hK hS hZ [1, 2, 3, 4, 5, 6, 7] [0] rfl rfl (by decide) 0 rfl rfl hl.1 rfl (Nat.le_of_ble_eq_true rfl) dL_openWaysWith_5 (fun r u H locs hq hP hD hS => ?_)
  refine lv_i2l hx hb dL_openWaysWith_8 rfl ?_
  have hP : va_P (dC, dI) vwCl ((ao, .inl (cJ, 1, .inr (.inl f))) :: u) H := hP
  have hD : va_D (wIn ((ao, .inl (cJ, 1, .inr (.inl f))) :: [(h0, .inr (1, fs)), x1, x2, x3, x4, x5, x6])) ((ao, .inl (cJ, 1, .inr (.inl f))) :: u) := hD
  refine va_last (n := 1) hx hb hK hP hD hS 0 2 rfl rfl (vp_in_nI (by decide) (by decide)) dL_openWaysWith_9 (fun H locs hP hD hS => ?_)
  rw [show (nI 0).toNatClampNeg = 0 from nI_clamp (by omega)] at hP hD
  have hP : va_P (dC, dI) vwCl ((ao, .inl (cJ, 1, .inr (.inl (vp_updL f 0 (r.toInt64))))) :: u) H := hP
  refine lv_goto (tgt := 17) hx hb dL_openWaysWith_10 (by decide) ?_
  refine lv_iconst (v := nI 0) hx hb dL_openWaysWith_17 (by decide) ?_
  refine W.widen (k := 1) (n := 6) (by omega) (by omega) ?_
  exact ret _ _ _ _ _ _ dL_openWaysWith_18 ⟨rfl, r, u, hq, rfl⟩ (List.Perm.cons _ (hp _ _ hq)) hP hS

set_option maxHeartbeats 4000000 in
set_option maxRecDepth 100000 in
theorem w_L_openWaysWith_1 {fr lo : Nat} (a0 a1 : Int32) (h0 ao : Nat) (fs : List Value) (f : Nat → Int64) (x1 x2 x3 x4 x5 x6 : Nat × va_E) (hfl : fr ≤ 10 ∧ lo ≤ 350) (hM : Mx l yX1_openWaysWith ws_X1_openWaysWith fr lo (dC, dI) (tyL cI cZ cJ) [.ref h0, .int a0, .int a1] ([(h0, .inr (1, fs)), x1, x2, x3, x4, x5, x6]) "java/lang/IndexOutOfBoundsException") : Hi l yL_openWaysWith ws_L_openWaysWith (dC, dI) (tyL cI cZ cJ) [.ref h0, .int a0, .int a1, .ref ao] ((ao, .inl (cJ, 1, .inr (.inl f))) :: [(h0, .inr (1, fs)), x1, x2, x3, x4, x5, x6]) (fun r u => r = nI 1 ∧ u = (ao, .inl (cJ, 1, .inr (.inl f))) :: [(h0, .inr (1, fs)), x1, x2, x3, x4, x5, x6]) := by
  refine Hi_of (by decide +kernel) (Nat.le_of_ble_eq_true rfl) ?_
  intro pr ev sx mi ag bl me cd Q ls S hP hK hD hZ hX hN hl htab ret
  obtain ⟨hx, hb, hml, hown, hts⟩ := id S
  have hown : sx.vm.findClass RL = some mi.cls := hown
  have hS : va_S (wIn ((ao, .inl (cJ, 1, .inr (.inl f))) :: [(h0, .inr (1, fs)), x1, x2, x3, x4, x5, x6])) sx.heap sx.heap [] := va_S.rf
  have hl : lv_has ls 5 [(0, .ref h0), (1, .int a0), (2, .int a1), (3, .ref ao)] := hl
  refine lv_aload_n hx hb dL_openWaysWith_0 rfl (lv_at hl 3 rfl) ?_
  refine lv_iconst (v := nI 0) hx hb dL_openWaysWith_1 (by decide) ?_
  refine lv_aload_n hx hb dL_openWaysWith_2 rfl (lv_at hl 0 rfl) ?_
  refine lv_iload_n hx hb dL_openWaysWith_3 rfl (lv_at hl 1 rfl) ?_
  refine lv_iload_n hx hb dL_openWaysWith_4 rfl (lv_at hl 2 rfl) ?_
  refine x_V (As := [.int a0, .int a1]) (rest := [.int (nI 0), .ref ao]) S hM g_L_X1_openWaysWith hd_X1_openWaysWith ⟨(by show fr + 1 ≤ 11; omega), (by show 8 + (3 + 11) + lo ≤ 410; omega)⟩ ⟨Nat.le_refl _, Nat.le_refl _⟩ hP hD hK hS hZ hX [1, 2, 3, 4, 5, 6, 7] rfl (by decide) 0 rfl rfl hl.1 rfl (Nat.le_of_ble_eq_true rfl) dL_openWaysWith_5 (fun ce q9 H locs hP hS h1 h2 h3 => ?_)
  refine vx_catch (own := RL) (name := "java/lang/IndexOutOfBoundsException") hown [] ⟨0, 10, 13, 13⟩ [] htab (fun z hz => nomatch hz) (by decide) (by decide) (hts _ q_cl_L_13) (va_Nw.use rfl (hX.2.2.2.1 _ xE_1)) h1 h2 h3 ?_
  refine lv_astore (lv' := [(4, .ref q9), (0, .ref h0), (1, .int a0), (2, .int a1), (3, .ref ao)]) hx hb dL_openWaysWith_13 hl (by decide) rfl (fun ls hl => ?_)
  refine lv_iconst (v := nI 1) hx hb dL_openWaysWith_15 (by decide) ?_
  refine W.widen (k := 1) (n := 6) (by omega) (by omega) ?_
  exact ret _ _ _ _ _ _ dL_openWaysWith_16 ⟨rfl, rfl⟩ (List.Perm.refl _) hP hS

set_option maxHeartbeats 4000000 in
set_option maxRecDepth 100000 in
theorem w_L_isKnownToAll_ok {fr lo : Nat} {post : Int32 → va_W → Prop} (a0 : Int32) (h0 ao : Nat) (fs : List Value) (f : Nat → Int64) (x1 x2 x3 x4 x5 x6 : Nat × va_E) (hfl : fr ≤ 10 ∧ lo ≤ 350) (hM : Mi l yX1_isKnownToAll ws_X1_isKnownToAll fr lo (dC, dI) (tyL cI cZ cJ) [.ref h0, .int a0] ([(h0, .inr (1, fs)), x1, x2, x3, x4, x5, x6]) post) (hp : ∀ a u, post a u → (u.map (·.1)).Perm (([(h0, .inr (1, fs)), x1, x2, x3, x4, x5, x6] : va_W).map (·.1))) (hbo : ∀ a u, post a u → ∃ b, a = bI b) : Hi l yL_isKnownToAll ws_L_isKnownToAll (dC, dI) (tyL cI cZ cJ) [.ref h0, .int a0, .ref ao] ((ao, .inl (cJ, 1, .inr (.inl f))) :: [(h0, .inr (1, fs)), x1, x2, x3, x4, x5, x6]) (fun r u => r = nI 0 ∧ ∃ b w1, post (bI b) w1 ∧ u = (ao, .inl (cJ, 1, .inr (.inl (vp_updL f 0 (lB b))))) :: w1) := by
  refine Hi_of (by decide +kernel) (Nat.le_of_ble_eq_true rfl) ?_
  intro pr ev sx mi ag bl me cd Q ls S hP hK hD hZ hX hN hl htab ret
  obtain ⟨hx, hb, hml, hown, hts⟩ := id S
  have hown : sx.vm.findClass RL = some mi.cls := hown
  have hS : va_S (wIn ((ao, .inl (cJ, 1, .inr (.inl f))) :: [(h0, .inr (1, fs)), x1, x2, x3, x4, x5, x6])) sx.heap sx.heap [] := va_S.rf
  have hl : lv_has ls 4 [(0, .ref h0), (1, .int a0), (2, .ref ao)] := hl
  refine lv_aload_n hx hb dL_isKnownToAll_0 rfl (lv_at hl 2 rfl) ?_
  refine lv_iconst (v := nI 0) hx hb dL_isKnownToAll_1 (by decide) ?_
  refine lv_aload_n hx hb dL_isKnownToAll_2 rfl (lv_at hl 0 rfl) ?_
  refine lv_iload_n hx hb dL_isKnownToAll_3 rfl (lv_at hl 1 rfl) ?_
  refine call_Vi (As := [.int a0]) (wr := [(ao, .inl (cJ, 1, .inr (.inl f)))]) (rest := [.int (nI 0), .ref ao]) S hM g_L_X1_isKnownToAll hd_X1_isKnownToAll ⟨(by show fr + 1 ≤ 11; omega), (by show 8 + (2 + 11) + lo ≤ 410; omega)⟩ ⟨Nat.zero_le _, Nat.zero_le _⟩ hP hD hK hS hZ [1, 2, 3, 4, 5, 6, 7] [0] rfl rfl (by decide) 0 rfl rfl hl.1 rfl (Nat.le_of_ble_eq_true rfl) dL_isKnownToAll_4 (fun r u H locs hq hP hD hS => ?_)
  obtain ⟨b, rfl⟩ := hbo _ _ hq
  refine ternL_eq hx hb dL_isKnownToAll_7 dL_isKnownToAll_10 dL_isKnownToAll_11 dL_isKnownToAll_14 (by decide) (by decide) ?_
  have hP : va_P (dC, dI) vwCl ((ao, .inl (cJ, 1, .inr (.inl f))) :: u) H := hP
  have hD : va_D (wIn ((ao, .inl (cJ, 1, .inr (.inl f))) :: [(h0, .inr (1, fs)), x1, x2, x3, x4, x5, x6])) ((ao, .inl (cJ, 1, .inr (.inl f))) :: u) := hD
  refine va_last (n := 1) hx hb hK hP hD hS 0 2 rfl rfl (vp_in_nI (by decide) (by decide)) dL_isKnownToAll_15 (fun H locs hP hD hS => ?_)
  rw [show (nI 0).toNatClampNeg = 0 from nI_clamp (by omega)] at hP hD
  have hP : va_P (dC, dI) vwCl ((ao, .inl (cJ, 1, .inr (.inl (vp_updL f 0 (lB b))))) :: u) H := hP
  refine lv_goto (tgt := 22) hx hb dL_isKnownToAll_16 (by decide) ?_
  refine lv_iconst (v := nI 0) hx hb dL_isKnownToAll_22 (by decide) ?_
  refine W.widen (k := 1) (n := 6) (by omega) (by omega) ?_
  exact ret _ _ _ _ _ _ dL_isKnownToAll_23 ⟨rfl, b, u, hq, rfl⟩ (List.Perm.cons _ (hp _ _ hq)) hP hS

set_option maxHeartbeats 4000000 in
set_option maxRecDepth 100000 in
theorem w_L_isKnownToAll_1 {fr lo : Nat} (a0 : Int32) (h0 ao : Nat) (fs : List Value) (f : Nat → Int64) (x1 x2 x3 x4 x5 x6 : Nat × va_E) (hfl : fr ≤ 10 ∧ lo ≤ 350) (hM : Mx l yX1_isKnownToAll ws_X1_isKnownToAll fr lo (dC, dI) (tyL cI cZ cJ) [.ref h0, .int a0] ([(h0, .inr (1, fs)), x1, x2, x3, x4, x5, x6]) "java/lang/IndexOutOfBoundsException") : Hi l yL_isKnownToAll ws_L_isKnownToAll (dC, dI) (tyL cI cZ cJ) [.ref h0, .int a0, .ref ao] ((ao, .inl (cJ, 1, .inr (.inl f))) :: [(h0, .inr (1, fs)), x1, x2, x3, x4, x5, x6]) (fun r u => r = nI 1 ∧ u = (ao, .inl (cJ, 1, .inr (.inl f))) :: [(h0, .inr (1, fs)), x1, x2, x3, x4, x5, x6]) := by
  refine Hi_of (by decide +kernel) (Nat.le_of_ble_eq_true rfl) ?_
  intro pr ev sx mi ag bl me cd Q ls S hP hK hD hZ hX hN hl htab ret
  obtain ⟨hx, hb, hml, hown, hts⟩ := id S
  have hown : sx.vm.findClass RL = some mi.cls := hown
  have hS : va_S (wIn ((ao, .inl (cJ, 1, .inr (.inl f))) :: [(h0, .inr (1, fs)), x1, x2, x3, x4, x5, x6])) sx.heap sx.heap [] := va_S.rf
  have hl : lv_has ls 4 [(0, .ref h0), (1, .int a0), (2, .ref ao)] := hl
  refine lv_aload_n hx hb dL_isKnownToAll_0 rfl (lv_at hl 2 rfl) ?_
  refine lv_iconst (v := nI 0) hx hb dL_isKnownToAll_1 (by decide) ?_
  refine lv_aload_n hx hb dL_isKnownToAll_2 rfl (lv_at hl 0 rfl) ?_
  refine lv_iload_n hx hb dL_isKnownToAll_3 rfl (lv_at hl 1 rfl) ?_
  refine x_V (As := [.int a0]) (rest := [.int (nI 0), .ref ao]) S hM g_L_X1_isKnownToAll hd_X1_isKnownToAll ⟨(by show fr + 1 ≤ 11; omega), (by show 8 + (2 + 11) + lo ≤ 410; omega)⟩ ⟨Nat.le_refl _, Nat.le_refl _⟩ hP hD hK hS hZ hX [1, 2, 3, 4, 5, 6, 7] rfl (by decide) 0 rfl rfl hl.1 rfl (Nat.le_of_ble_eq_true rfl) dL_isKnownToAll_4 (fun ce q9 H locs hP hS h1 h2 h3 => ?_)
  refine vx_catch (own := RL) (name := "java/lang/IndexOutOfBoundsException") hown [] ⟨0, 16, 19, 13⟩ [] htab (fun z hz => nomatch hz) (by decide) (by decide) (hts _ q_cl_L_13) (va_Nw.use rfl (hX.2.2.2.1 _ xE_1)) h1 h2 h3 ?_
  refine lv_astore_n (lv' := [(3, .ref q9), (0, .ref h0), (1, .int a0), (2, .ref ao)]) hx hb dL_isKnownToAll_19 rfl hl (by decide) rfl (fun ls hl => ?_)
  refine lv_iconst (v := nI 1) hx hb dL_isKnownToAll_20 (by decide) ?_
  refine W.widen (k := 1) (n := 6) (by omega) (by omega) ?_
  exact ret _ _ _ _ _ _ dL_isKnownToAll_21 ⟨rfl, rfl⟩ (List.Perm.refl _) hP hS

set_option maxHeartbeats 4000000 in
set_option maxRecDepth 100000 in
theorem w_L_possibleWays_ok {fr lo : Nat} {post : Int32 → va_W → Prop} (a0 : Int32) (h0 ao : Nat) (fs : List Value) (f : Nat → Int64) (x1 x2 x3 x4 x5 x6 : Nat × va_E) (hfl : fr ≤ 10 ∧ lo ≤ 350) (hM : Mi l yX1_possibleWays ws_X1_possibleWays fr lo (dC, dI) (tyL cI cZ cJ) [.ref h0, .int a0] ([(h0, .inr (1, fs)), x1, x2, x3, x4, x5, x6]) post) (hp : ∀ a u, post a u → (u.map (·.1)).Perm (([(h0, .inr (1, fs)), x1, x2, x3, x4, x5, x6] : va_W).map (·.1))) : Hi l yL_possibleWays ws_L_possibleWays (dC, dI) (tyL cI cZ cJ) [.ref h0, .int a0, .ref ao] ((ao, .inl (cJ, 1, .inr (.inl f))) :: [(h0, .inr (1, fs)), x1, x2, x3, x4, x5, x6]) (fun r u => r = nI 0 ∧ ∃ a w1, post a w1 ∧ u = (ao, .inl (cJ, 1, .inr (.inl (vp_updL f 0 (a.toInt64))))) :: w1) := by
  refine Hi_of (by decide +kernel) (Nat.le_of_ble_eq_true rfl) ?_
  intro pr ev sx mi ag bl me cd Q ls S hP hK hD hZ hX hN hl htab ret
  obtain ⟨hx, hb, hml, hown, hts⟩ := id S
  have hown : sx.vm.findClass RL = some mi.cls := hown
  have hS : va_S (wIn ((ao, .inl (cJ, 1, .inr (.inl f))) :: [(h0, .inr (1, fs)), x1, x2, x3, x4, x5, x6])) sx.heap sx.heap [] := va_S.rf
  have hl : lv_has ls 4 [(0, .ref h0), (1, .int a0), (2, .ref ao)] := hl
  refine lv_aload_n hx hb dL_possibleWays_0 rfl (lv_at hl 2 rfl) ?_
  refine lv_iconst (v := nI 0) hx hb dL_possibleWays_1 (by decide) ?_
  refine lv_aload_n hx hb dL_possibleWays_2 rfl (lv_at hl 0 rfl) ?_
  refine lv_iload_n hx hb dL_possibleWays_3 rfl (lv_at hl 1 rfl) ?_
  refine call_Vi (As := [.int a0]) (wr := [(ao, .inl (cJ, 1, .inr (.inl f)))]) (rest := [.int (nI 0), .ref ao]) S hM g_L_X1_possibleWays hd_X1_possibleWays ⟨(by show fr + 1 ≤ 11; omega), (by show 8 + (2 + 11) + lo ≤ 410; omega)⟩ ⟨Nat.zero_le _, Nat.zero_le _⟩ hP hD hK hS hZ [1, 2, 3, 4, 5, 6, 7] [0] rfl rfl (by decide) 0 rfl rfl hl.1 rfl (Nat.le_of_ble_eq_true rfl) dL_possibleWays_4 (fun r u H locs hq hP hD hS => ?_)
  refine lv_i2l hx hb dL_possibleWays_7 rfl ?_
  have hP : va_P (dC, dI) vwCl ((ao, .inl (cJ, 1, .inr (.inl f))) :: u) H := hP
  have hD : va_D (wIn ((ao, .inl (cJ, 1, .inr (.inl f))) :: [(h0, .inr (1, fs)), x1, x2, x3, x4, x5, x6])) ((ao, .inl (cJ, 1, .inr (.inl f))) :: u) := hD
  refine va_last (n := 1) hx hb hK hP hD hS 0 2 rfl rfl (vp_in_nI (by decide) (by decide)) dL_possibleWays_8 (fun H locs hP hD hS => ?_)
  rw [show (nI 0).toNatClampNeg = 0 from nI_clamp (by omega)] at hP hD
  have hP : va_P (dC, dI) vwCl ((ao, .inl (cJ, 1, .inr (.inl (vp_updL f 0 (r.toInt64))))) :: u) H := hP
  refine lv_goto (tgt := 15) hx hb dL_possibleWays_9 (by decide) ?_
  refine lv_iconst (v := nI 0) hx hb dL_possibleWays_15 (by decide) ?_
  refine W.widen (k := 1) (n := 6) (by omega) (by omega) ?_
  exact ret _ _ _ _ _ _ dL_possibleWays_16 ⟨rfl, r, u, hq, rfl⟩ (List.Perm.cons _ (hp _ _ hq)) hP hS

set_option maxHeartbeats 4000000 in
set_option maxRecDepth 100000 in
theorem w_L_possibleWays_1 {fr lo : Nat} (a0 : Int32) (h0 ao : Nat) (fs : List Value) (f : Nat → Int64) (x1 x2 x3 x4 x5 x6 : Nat × va_E) (hfl : fr ≤ 10 ∧ lo ≤ 350) (hM : Mx l yX1_possibleWays ws_X1_possibleWays fr lo (dC, dI) (tyL cI cZ cJ) [.ref h0, .int a0] ([(h0, .inr (1, fs)), x1, x2, x3, x4, x5, x6]) "java/lang/IndexOutOfBoundsException") : Hi l yL_possibleWays ws_L_possibleWays (dC, dI) (tyL cI cZ cJ) [.ref h0, .int a0, .ref ao] ((ao, .inl (cJ, 1, .inr (.inl f))) :: [(h0, .inr (1, fs)), x1, x2, x3, x4, x5, x6]) (fun r u => r = nI 1 ∧ u = (ao, .inl (cJ, 1, .inr (.inl f))) :: [(h0, .inr (1, fs)), x1, x2, x3, x4, x5, x6]) := by
  refine Hi_of (by decide +kernel) (Nat.le_of_ble_eq_true rfl) ?_
  intro pr ev sx mi ag bl me cd Q ls S hP hK hD hZ hX hN hl htab ret
  obtain ⟨hx, hb, hml, hown, hts⟩ := id S
  have hown : sx.vm.findClass RL = some mi.cls := hown
  have hS : va_S (wIn ((ao, .inl (cJ, 1, .inr (.inl f))) :: [(h0, .inr (1, fs)), x1, x2, x3, x4, x5, x6])) sx.heap sx.heap [] := va_S.rf
  have hl : lv_has ls 4 [(0, .ref h0), (1, .int a0), (2, .ref ao)] := hl
  refine lv_aload_n hx hb dL_possibleWays_0 rfl (lv_at hl 2 rfl) ?_
  refine lv_iconst (v := nI 0) hx hb dL_possibleWays_1 (by decide) ?_
  refine lv_aload_n hx hb dL_possibleWays_2 rfl (lv_at hl 0 rfl) ?_
  refine lv_iload_n hx hb dL_possibleWays_3 rfl (lv_at hl 1 rfl) ?_
  refine x_V (As := [.int a0]) (rest := [.int (nI 0), .ref ao]) S hM g_L_X1_possibleWays hd_X1_possibleWays ⟨(by show fr + 1 ≤ 11; omega), (by show 8 + (2 + 11) + lo ≤ 410; omega)⟩ ⟨Nat.le_refl _, Nat.le_refl _⟩ hP hD hK hS hZ hX [1, 2, 3, 4, 5, 6, 7] rfl (by decide) 0 rfl rfl hl.1 rfl (Nat.le_of_ble_eq_true rfl) dL_possibleWays_4 (fun ce q9 H locs hP hS h1 h2 h3 => ?_)
  refine vx_catch (own := RL) (name := "java/lang/IndexOutOfBoundsException") hown [] ⟨0, 9, 12, 13⟩ [] htab (fun z hz => nomatch hz) (by decide) (by decide) (hts _ q_cl_L_13) (va_Nw.use rfl (hX.2.2.2.1 _ xE_1)) h1 h2 h3 ?_
  refine lv_astore_n (lv' := [(3, .ref q9), (0, .ref h0), (1, .int a0), (2, .ref ao)]) hx hb dL_possibleWays_12 rfl hl (by decide) rfl (fun ls hl => ?_)
  refine lv_iconst (v := nI 1) hx hb dL_possibleWays_13 (by decide) ?_
  refine W.widen (k := 1) (n := 6) (by omega) (by omega) ?_
  exact ret _ _ _ _ _ _ dL_possibleWays_14 ⟨rfl, rfl⟩ (List.Perm.refl _) hP hS

set_option maxHeartbeats 4000000 in
set_option maxRecDepth 100000 in
theorem w_L_holdsPossible_ok {fr lo : Nat} {post : Int32 → va_W → Prop} (a0 a1 a2 : Int32) (h0 ao : Nat) (fs : List Value) (f : Nat → Int64) (x1 x2 x3 x4 x5 x6 : Nat × va_E) (hfl : fr ≤ 10 ∧ lo ≤ 350) (hM : Mi l yX1_holdsPossible ws_X1_holdsPossible fr lo (dC, dI) (tyL cI cZ cJ) [.ref h0, .int a0, .int a1, .int a2] ([(h0, .inr (1, fs)), x1, x2, x3, x4, x5, x6]) post) (hp : ∀ a u, post a u → (u.map (·.1)).Perm (([(h0, .inr (1, fs)), x1, x2, x3, x4, x5, x6] : va_W).map (·.1))) (hbo : ∀ a u, post a u → ∃ b, a = bI b) : Hi l yL_holdsPossible ws_L_holdsPossible (dC, dI) (tyL cI cZ cJ) [.ref h0, .int a0, .int a1, .int a2, .ref ao] ((ao, .inl (cJ, 1, .inr (.inl f))) :: [(h0, .inr (1, fs)), x1, x2, x3, x4, x5, x6]) (fun r u => r = nI 0 ∧ ∃ b w1, post (bI b) w1 ∧ u = (ao, .inl (cJ, 1, .inr (.inl (vp_updL f 0 (lB b))))) :: w1) := by
  refine Hi_of (by decide +kernel) (Nat.le_of_ble_eq_true rfl) ?_
  intro pr ev sx mi ag bl me cd Q ls S hP hK hD hZ hX hN hl htab ret
  obtain ⟨hx, hb, hml, hown, hts⟩ := id S
  have hown : sx.vm.findClass RL = some mi.cls := hown
  have hS : va_S (wIn ((ao, .inl (cJ, 1, .inr (.inl f))) :: [(h0, .inr (1, fs)), x1, x2, x3, x4, x5, x6])) sx.heap sx.heap [] := va_S.rf
  have hl : lv_has ls 6 [(0, .ref h0), (1, .int a0), (2, .int a1), (3, .int a2), (4, .ref ao)] := hl
  refine lv_aload hx hb dL_holdsPossible_0 (lv_at hl 4 rfl) ?_
  refine lv_iconst (v := nI 0) hx hb dL_holdsPossible_2 (by decide) ?_
  refine lv_aload_n hx hb dL_holdsPossible_3 rfl (lv_at hl 0 rfl) ?_
  refine lv_iload_n hx hb dL_holdsPossible_4 rfl (lv_at hl 1 rfl) ?_
  refine lv_iload_n hx hb dL_holdsPossible_5 rfl (lv_at hl 2 rfl) ?_
  refine lv_iload_n hx hb dL_holdsPossible_6 rfl (lv_at hl 3 rfl) ?_
  refine call_Vi (As := [.int a0, .int a1, .int a2]) (wr := [(ao, .inl (cJ, 1, .inr (.inl f)))]) (rest := [.int (nI 0), .ref ao]) S hM g_L_X1_holdsPossible hd_X1_holdsPossible ⟨(by show fr + 1 ≤ 11; omega), (by show 8 + (4 + 11) + lo ≤ 410; omega)⟩ ⟨Nat.zero_le _, Nat.zero_le _⟩ hP hD hK hS hZ [1, 2, 3, 4, 5, 6, 7] [0] rfl rfl (by decide) 0 rfl rfl hl.1 rfl (Nat.le_of_ble_eq_true rfl) dL_holdsPossible_7 (fun r u H locs hq hP hD hS => ?_)
  obtain ⟨b, rfl⟩ := hbo _ _ hq
  refine ternL_eq hx hb dL_holdsPossible_10 dL_holdsPossible_13 dL_holdsPossible_14 dL_holdsPossible_17 (by decide) (by decide) ?_
  have hP : va_P (dC, dI) vwCl ((ao, .inl (cJ, 1, .inr (.inl f))) :: u) H := hP
  have hD : va_D (wIn ((ao, .inl (cJ, 1, .inr (.inl f))) :: [(h0, .inr (1, fs)), x1, x2, x3, x4, x5, x6])) ((ao, .inl (cJ, 1, .inr (.inl f))) :: u) := hD
  refine va_last (n := 1) hx hb hK hP hD hS 0 2 rfl rfl (vp_in_nI (by decide) (by decide)) dL_holdsPossible_18 (fun H locs hP hD hS => ?_)
  rw [show (nI 0).toNatClampNeg = 0 from nI_clamp (by omega)] at hP hD
  have hP : va_P (dC, dI) vwCl ((ao, .inl (cJ, 1, .inr (.inl (vp_updL f 0 (lB b))))) :: u) H := hP
  refine lv_goto (tgt := 26) hx hb dL_holdsPossible_19 (by decide) ?_
  refine lv_iconst (v := nI 0) hx hb dL_holdsPossible_26 (by decide) ?_
  refine W.widen (k := 1) (n := 6) (by omega) (by omega) ?_
  exact ret _ _ _ _ _ _ dL_holdsPossible_27 ⟨rfl, b, u, hq, rfl⟩ (List.Perm.cons _ (hp _ _ hq)) hP hS

set_option maxHeartbeats 4000000 in
set_option maxRecDepth 100000 in
theorem w_L_holdsPossible_1 {fr lo : Nat} (a0 a1 a2 : Int32) (h0 ao : Nat) (fs : List Value) (f : Nat → Int64) (x1 x2 x3 x4 x5 x6 : Nat × va_E) (hfl : fr ≤ 10 ∧ lo ≤ 350) (hM : Mx l yX1_holdsPossible ws_X1_holdsPossible fr lo (dC, dI) (tyL cI cZ cJ) [.ref h0, .int a0, .int a1, .int a2] ([(h0, .inr (1, fs)), x1, x2, x3, x4, x5, x6]) "java/lang/IndexOutOfBoundsException") : Hi l yL_holdsPossible ws_L_holdsPossible (dC, dI) (tyL cI cZ cJ) [.ref h0, .int a0, .int a1, .int a2, .ref ao] ((ao, .inl (cJ, 1, .inr (.inl f))) :: [(h0, .inr (1, fs)), x1, x2, x3, x4, x5, x6]) (fun r u => r = nI 1 ∧ u = (ao, .inl (cJ, 1, .inr (.inl f))) :: [(h0, .inr (1, fs)), x1, x2, x3, x4, x5, x6]) := by
  refine Hi_of (by decide +kernel) (Nat.le_of_ble_eq_true rfl) ?_
  intro pr ev sx mi ag bl me cd Q ls S hP hK hD hZ hX hN hl htab ret
  obtain ⟨hx, hb, hml, hown, hts⟩ := id S
  have hown : sx.vm.findClass RL = some mi.cls := hown
  have hS : va_S (wIn ((ao, .inl (cJ, 1, .inr (.inl f))) :: [(h0, .inr (1, fs)), x1, x2, x3, x4, x5, x6])) sx.heap sx.heap [] := va_S.rf
  have hl : lv_has ls 6 [(0, .ref h0), (1, .int a0), (2, .int a1), (3, .int a2), (4, .ref ao)] := hl
  refine lv_aload hx hb dL_holdsPossible_0 (lv_at hl 4 rfl) ?_
  refine lv_iconst (v := nI 0) hx hb dL_holdsPossible_2 (by decide) ?_
  refine lv_aload_n hx hb dL_holdsPossible_3 rfl (lv_at hl 0 rfl) ?_
  refine lv_iload_n hx hb dL_holdsPossible_4 rfl (lv_at hl 1 rfl) ?_
  refine lv_iload_n hx hb dL_holdsPossible_5 rfl (lv_at hl 2 rfl) ?_
  refine lv_iload_n hx hb dL_holdsPossible_6 rfl (lv_at hl 3 rfl) ?_
  refine x_V (As := [.int a0, .int a1, .int a2]) (rest := [.int (nI 0), .ref ao]) S hM g_L_X1_holdsPossible hd_X1_holdsPossible ⟨(by show fr + 1 ≤ 11; omega), (by show 8 + (4 + 11) + lo ≤ 410; omega)⟩ ⟨Nat.le_refl _, Nat.le_refl _⟩ hP hD hK hS hZ hX [1, 2, 3, 4, 5, 6, 7] rfl (by decide) 0 rfl rfl hl.1 rfl (Nat.le_of_ble_eq_true rfl) dL_holdsPossible_7 (fun ce q9 H locs hP hS h1 h2 h3 => ?_)
  refine vx_catch (own := RL) (name := "java/lang/IndexOutOfBoundsException") hown [] ⟨0, 19, 22, 13⟩ [] htab (fun z hz => nomatch hz) (by decide) (by decide) (hts _ q_cl_L_13) (va_Nw.use rfl (hX.2.2.2.1 _ xE_1)) h1 h2 h3 ?_
  refine lv_astore (lv' := [(5, .ref q9), (0, .ref h0), (1, .int a0), (2, .int a1), (3, .int a2), (4, .ref ao)]) hx hb dL_holdsPossible_22 hl (by decide) rfl (fun ls hl => ?_)
  refine lv_iconst (v := nI 1) hx hb dL_holdsPossible_24 (by decide) ?_
  refine W.widen (k := 1) (n := 6) (by omega) (by omega) ?_
  exact ret _ _ _ _ _ _ dL_holdsPossible_25 ⟨rfl, rfl⟩ (List.Perm.refl _) hP hS

set_option maxHeartbeats 4000000 in
set_option maxRecDepth 100000 in
theorem w_L_isCertain_ok {fr lo : Nat} {post : Int32 → va_W → Prop} (a0 : Int32) (h0 ao : Nat) (fs : List Value) (f : Nat → Int64) (x1 x2 x3 x4 x5 x6 : Nat × va_E) (hfl : fr ≤ 10 ∧ lo ≤ 350) (hM : Mi l yX1_isCertain ws_X1_isCertain fr lo (dC, dI) (tyL cI cZ cJ) [.ref h0, .int a0] ([(h0, .inr (1, fs)), x1, x2, x3, x4, x5, x6]) post) (hp : ∀ a u, post a u → (u.map (·.1)).Perm (([(h0, .inr (1, fs)), x1, x2, x3, x4, x5, x6] : va_W).map (·.1))) (hbo : ∀ a u, post a u → ∃ b, a = bI b) : Hi l yL_isCertain ws_L_isCertain (dC, dI) (tyL cI cZ cJ) [.ref h0, .int a0, .ref ao] ((ao, .inl (cJ, 1, .inr (.inl f))) :: [(h0, .inr (1, fs)), x1, x2, x3, x4, x5, x6]) (fun r u => r = nI 0 ∧ ∃ b w1, post (bI b) w1 ∧ u = (ao, .inl (cJ, 1, .inr (.inl (vp_updL f 0 (lB b))))) :: w1) := by
  refine Hi_of (by decide +kernel) (Nat.le_of_ble_eq_true rfl) ?_
  intro pr ev sx mi ag bl me cd Q ls S hP hK hD hZ hX hN hl htab ret
  obtain ⟨hx, hb, hml, hown, hts⟩ := id S
  have hown : sx.vm.findClass RL = some mi.cls := hown
  have hS : va_S (wIn ((ao, .inl (cJ, 1, .inr (.inl f))) :: [(h0, .inr (1, fs)), x1, x2, x3, x4, x5, x6])) sx.heap sx.heap [] := va_S.rf
  have hl : lv_has ls 4 [(0, .ref h0), (1, .int a0), (2, .ref ao)] := hl
  refine lv_aload_n hx hb dL_isCertain_0 rfl (lv_at hl 2 rfl) ?_
  refine lv_iconst (v := nI 0) hx hb dL_isCertain_1 (by decide) ?_
  refine lv_aload_n hx hb dL_isCertain_2 rfl (lv_at hl 0 rfl) ?_
  refine lv_iload_n hx hb dL_isCertain_3 rfl (lv_at hl 1 rfl) ?_
  refine call_Vi (As := [.int a0]) (wr := [(ao, .inl (cJ, 1, .inr (.inl f)))]) (rest := [.int (nI 0), .ref ao]) S hM g_L_X1_isCertain hd_X1_isCertain ⟨(by show fr + 1 ≤ 11; omega), (by show 8 + (2 + 11) + lo ≤ 410; omega)⟩ ⟨Nat.zero_le _, Nat.zero_le _⟩ hP hD hK hS hZ [1, 2, 3, 4, 5, 6, 7] [0] rfl rfl (by decide) 0 rfl rfl hl.1 rfl (Nat.le_of_ble_eq_true rfl) dL_isCertain_4 (fun r u H locs hq hP hD hS => ?_)
  obtain ⟨b, rfl⟩ := hbo _ _ hq
  refine ternL_eq hx hb dL_isCertain_7 dL_isCertain_10 dL_isCertain_11 dL_isCertain_14 (by decide) (by decide) ?_
  have hP : va_P (dC, dI) vwCl ((ao, .inl (cJ, 1, .inr (.inl f))) :: u) H := hP
  have hD : va_D (wIn ((ao, .inl (cJ, 1, .inr (.inl f))) :: [(h0, .inr (1, fs)), x1, x2, x3, x4, x5, x6])) ((ao, .inl (cJ, 1, .inr (.inl f))) :: u) := hD
  refine va_last (n := 1) hx hb hK hP hD hS 0 2 rfl rfl (vp_in_nI (by decide) (by decide)) dL_isCertain_15 (fun H locs hP hD hS => ?_)
  rw [show (nI 0).toNatClampNeg = 0 from nI_clamp (by omega)] at hP hD
  have hP : va_P (dC, dI) vwCl ((ao, .inl (cJ, 1, .inr (.inl (vp_updL f 0 (lB b))))) :: u) H := hP
  refine lv_goto (tgt := 22) hx hb dL_isCertain_16 (by decide) ?_
  refine lv_iconst (v := nI 0) hx hb dL_isCertain_22 (by decide) ?_
  refine W.widen (k := 1) (n := 6) (by omega) (by omega) ?_
  exact ret _ _ _ _ _ _ dL_isCertain_23 ⟨rfl, b, u, hq, rfl⟩ (List.Perm.cons _ (hp _ _ hq)) hP hS

set_option maxHeartbeats 4000000 in
set_option maxRecDepth 100000 in
theorem w_L_isCertain_1 {fr lo : Nat} (a0 : Int32) (h0 ao : Nat) (fs : List Value) (f : Nat → Int64) (x1 x2 x3 x4 x5 x6 : Nat × va_E) (hfl : fr ≤ 10 ∧ lo ≤ 350) (hM : Mx l yX1_isCertain ws_X1_isCertain fr lo (dC, dI) (tyL cI cZ cJ) [.ref h0, .int a0] ([(h0, .inr (1, fs)), x1, x2, x3, x4, x5, x6]) "java/lang/IndexOutOfBoundsException") : Hi l yL_isCertain ws_L_isCertain (dC, dI) (tyL cI cZ cJ) [.ref h0, .int a0, .ref ao] ((ao, .inl (cJ, 1, .inr (.inl f))) :: [(h0, .inr (1, fs)), x1, x2, x3, x4, x5, x6]) (fun r u => r = nI 1 ∧ u = (ao, .inl (cJ, 1, .inr (.inl f))) :: [(h0, .inr (1, fs)), x1, x2, x3, x4, x5, x6]) := by
  refine Hi_of (by decide +kernel) (Nat.le_of_ble_eq_true rfl) ?_
  intro pr ev sx mi ag bl me cd Q ls S hP hK hD hZ hX hN hl htab ret
  obtain ⟨hx, hb, hml, hown, hts⟩ := id S
  have hown : sx.vm.findClass RL = some mi.cls := hown
  have hS : va_S (wIn ((ao, .inl (cJ, 1, .inr (.inl f))) :: [(h0, .inr (1, fs)), x1, x2, x3, x4, x5, x6])) sx.heap sx.heap [] := va_S.rf
  have hl : lv_has ls 4 [(0, .ref h0), (1, .int a0), (2, .ref ao)] := hl
  refine lv_aload_n hx hb dL_isCertain_0 rfl (lv_at hl 2 rfl) ?_
  refine lv_iconst (v := nI 0) hx hb dL_isCertain_1 (by decide) ?_
  refine lv_aload_n hx hb dL_isCertain_2 rfl (lv_at hl 0 rfl) ?_
  refine lv_iload_n hx hb dL_isCertain_3 rfl (lv_at hl 1 rfl) ?_
  refine x_V (As := [.int a0]) (rest := [.int (nI 0), .ref ao]) S hM g_L_X1_isCertain hd_X1_isCertain ⟨(by show fr + 1 ≤ 11; omega), (by show 8 + (2 + 11) + lo ≤ 410; omega)⟩ ⟨Nat.le_refl _, Nat.le_refl _⟩ hP hD hK hS hZ hX [1, 2, 3, 4, 5, 6, 7] rfl (by decide) 0 rfl rfl hl.1 rfl (Nat.le_of_ble_eq_true rfl) dL_isCertain_4 (fun ce q9 H locs hP hS h1 h2 h3 => ?_)
  refine vx_catch (own := RL) (name := "java/lang/IndexOutOfBoundsException") hown [] ⟨0, 16, 19, 13⟩ [] htab (fun z hz => nomatch hz) (by decide) (by decide) (hts _ q_cl_L_13) (va_Nw.use rfl (hX.2.2.2.1 _ xE_1)) h1 h2 h3 ?_
  refine lv_astore_n (lv' := [(3, .ref q9), (0, .ref h0), (1, .int a0), (2, .ref ao)]) hx hb dL_isCertain_19 rfl hl (by decide) rfl (fun ls hl => ?_)
  refine lv_iconst (v := nI 1) hx hb dL_isCertain_20 (by decide) ?_
  refine W.widen (k := 1) (n := 6) (by omega) (by omega) ?_
  exact ret _ _ _ _ _ _ dL_isCertain_21 ⟨rfl, rfl⟩ (List.Perm.refl _) hP hS

set_option maxHeartbeats 4000000 in
set_option maxRecDepth 100000 in
theorem w_L_knowsHatOf_ok {fr lo : Nat} {post : Int32 → va_W → Prop} (a0 a1 : Int32) (h0 ao : Nat) (fs : List Value) (f : Nat → Int64) (x1 x2 x3 x4 x5 x6 : Nat × va_E) (hfl : fr ≤ 10 ∧ lo ≤ 350) (hM : Mi l yX1_knowsHatOf ws_X1_knowsHatOf fr lo (dC, dI) (tyL cI cZ cJ) [.ref h0, .int a0, .int a1] ([(h0, .inr (1, fs)), x1, x2, x3, x4, x5, x6]) post) (hp : ∀ a u, post a u → (u.map (·.1)).Perm (([(h0, .inr (1, fs)), x1, x2, x3, x4, x5, x6] : va_W).map (·.1))) (hbo : ∀ a u, post a u → ∃ b, a = bI b) : Hi l yL_knowsHatOf ws_L_knowsHatOf (dC, dI) (tyL cI cZ cJ) [.ref h0, .int a0, .int a1, .ref ao] ((ao, .inl (cJ, 1, .inr (.inl f))) :: [(h0, .inr (1, fs)), x1, x2, x3, x4, x5, x6]) (fun r u => r = nI 0 ∧ ∃ b w1, post (bI b) w1 ∧ u = (ao, .inl (cJ, 1, .inr (.inl (vp_updL f 0 (lB b))))) :: w1) := by
  refine Hi_of (by decide +kernel) (Nat.le_of_ble_eq_true rfl) ?_
  intro pr ev sx mi ag bl me cd Q ls S hP hK hD hZ hX hN hl htab ret
  obtain ⟨hx, hb, hml, hown, hts⟩ := id S
  have hown : sx.vm.findClass RL = some mi.cls := hown
  have hS : va_S (wIn ((ao, .inl (cJ, 1, .inr (.inl f))) :: [(h0, .inr (1, fs)), x1, x2, x3, x4, x5, x6])) sx.heap sx.heap [] := va_S.rf
  have hl : lv_has ls 5 [(0, .ref h0), (1, .int a0), (2, .int a1), (3, .ref ao)] := hl
  refine lv_aload_n hx hb dL_knowsHatOf_0 rfl (lv_at hl 3 rfl) ?_
  refine lv_iconst (v := nI 0) hx hb dL_knowsHatOf_1 (by decide) ?_
  refine lv_aload_n hx hb dL_knowsHatOf_2 rfl (lv_at hl 0 rfl) ?_
  refine lv_iload_n hx hb dL_knowsHatOf_3 rfl (lv_at hl 1 rfl) ?_
  refine lv_iload_n hx hb dL_knowsHatOf_4 rfl (lv_at hl 2 rfl) ?_
  refine call_Vi (As := [.int a0, .int a1]) (wr := [(ao, .inl (cJ, 1, .inr (.inl f)))]) (rest := [.int (nI 0), .ref ao]) S hM g_L_X1_knowsHatOf hd_X1_knowsHatOf ⟨(by show fr + 1 ≤ 11; omega), (by show 8 + (3 + 11) + lo ≤ 410; omega)⟩ ⟨Nat.zero_le _, Nat.zero_le _⟩ hP hD hK hS hZ [1, 2, 3, 4, 5, 6, 7] [0] rfl rfl (by decide) 0 rfl rfl hl.1 rfl (Nat.le_of_ble_eq_true rfl) dL_knowsHatOf_5 (fun r u H locs hq hP hD hS => ?_)
  obtain ⟨b, rfl⟩ := hbo _ _ hq
  refine ternL_eq hx hb dL_knowsHatOf_8 dL_knowsHatOf_11 dL_knowsHatOf_12 dL_knowsHatOf_15 (by decide) (by decide) ?_
  have hP : va_P (dC, dI) vwCl ((ao, .inl (cJ, 1, .inr (.inl f))) :: u) H := hP
  have hD : va_D (wIn ((ao, .inl (cJ, 1, .inr (.inl f))) :: [(h0, .inr (1, fs)), x1, x2, x3, x4, x5, x6])) ((ao, .inl (cJ, 1, .inr (.inl f))) :: u) := hD
  refine va_last (n := 1) hx hb hK hP hD hS 0 2 rfl rfl (vp_in_nI (by decide) (by decide)) dL_knowsHatOf_16 (fun H locs hP hD hS => ?_)
  rw [show (nI 0).toNatClampNeg = 0 from nI_clamp (by omega)] at hP hD
  have hP : va_P (dC, dI) vwCl ((ao, .inl (cJ, 1, .inr (.inl (vp_updL f 0 (lB b))))) :: u) H := hP
  refine lv_goto (tgt := 24) hx hb dL_knowsHatOf_17 (by decide) ?_
  refine lv_iconst (v := nI 0) hx hb dL_knowsHatOf_24 (by decide) ?_
  refine W.widen (k := 1) (n := 6) (by omega) (by omega) ?_
  exact ret _ _ _ _ _ _ dL_knowsHatOf_25 ⟨rfl, b, u, hq, rfl⟩ (List.Perm.cons _ (hp _ _ hq)) hP hS

set_option maxHeartbeats 4000000 in
set_option maxRecDepth 100000 in
theorem w_L_knowsHatOf_1 {fr lo : Nat} (a0 a1 : Int32) (h0 ao : Nat) (fs : List Value) (f : Nat → Int64) (x1 x2 x3 x4 x5 x6 : Nat × va_E) (hfl : fr ≤ 10 ∧ lo ≤ 350) (hM : Mx l yX1_knowsHatOf ws_X1_knowsHatOf fr lo (dC, dI) (tyL cI cZ cJ) [.ref h0, .int a0, .int a1] ([(h0, .inr (1, fs)), x1, x2, x3, x4, x5, x6]) "java/lang/IndexOutOfBoundsException") : Hi l yL_knowsHatOf ws_L_knowsHatOf (dC, dI) (tyL cI cZ cJ) [.ref h0, .int a0, .int a1, .ref ao] ((ao, .inl (cJ, 1, .inr (.inl f))) :: [(h0, .inr (1, fs)), x1, x2, x3, x4, x5, x6]) (fun r u => r = nI 1 ∧ u = (ao, .inl (cJ, 1, .inr (.inl f))) :: [(h0, .inr (1, fs)), x1, x2, x3, x4, x5, x6]) := by
  refine Hi_of (by decide +kernel) (Nat.le_of_ble_eq_true rfl) ?_
  intro pr ev sx mi ag bl me cd Q ls S hP hK hD hZ hX hN hl htab ret
  obtain ⟨hx, hb, hml, hown, hts⟩ := id S
  have hown : sx.vm.findClass RL = some mi.cls := hown
  have hS : va_S (wIn ((ao, .inl (cJ, 1, .inr (.inl f))) :: [(h0, .inr (1, fs)), x1, x2, x3, x4, x5, x6])) sx.heap sx.heap [] := va_S.rf
  have hl : lv_has ls 5 [(0, .ref h0), (1, .int a0), (2, .int a1), (3, .ref ao)] := hl
  refine lv_aload_n hx hb dL_knowsHatOf_0 rfl (lv_at hl 3 rfl) ?_
  refine lv_iconst (v := nI 0) hx hb dL_knowsHatOf_1 (by decide) ?_
  refine lv_aload_n hx hb dL_knowsHatOf_2 rfl (lv_at hl 0 rfl) ?_
  refine lv_iload_n hx hb dL_knowsHatOf_3 rfl (lv_at hl 1 rfl) ?_
  refine lv_iload_n hx hb dL_knowsHatOf_4 rfl (lv_at hl 2 rfl) ?_
  refine x_V (As := [.int a0, .int a1]) (rest := [.int (nI 0), .ref ao]) S hM g_L_X1_knowsHatOf hd_X1_knowsHatOf ⟨(by show fr + 1 ≤ 11; omega), (by show 8 + (3 + 11) + lo ≤ 410; omega)⟩ ⟨Nat.le_refl _, Nat.le_refl _⟩ hP hD hK hS hZ hX [1, 2, 3, 4, 5, 6, 7] rfl (by decide) 0 rfl rfl hl.1 rfl (Nat.le_of_ble_eq_true rfl) dL_knowsHatOf_5 (fun ce q9 H locs hP hS h1 h2 h3 => ?_)
  refine vx_catch (own := RL) (name := "java/lang/IndexOutOfBoundsException") hown [] ⟨0, 17, 20, 13⟩ [] htab (fun z hz => nomatch hz) (by decide) (by decide) (hts _ q_cl_L_13) (va_Nw.use rfl (hX.2.2.2.1 _ xE_1)) h1 h2 h3 ?_
  refine lv_astore (lv' := [(4, .ref q9), (0, .ref h0), (1, .int a0), (2, .int a1), (3, .ref ao)]) hx hb dL_knowsHatOf_20 hl (by decide) rfl (fun ls hl => ?_)
  refine lv_iconst (v := nI 1) hx hb dL_knowsHatOf_22 (by decide) ?_
  refine W.widen (k := 1) (n := 6) (by omega) (by omega) ?_
  exact ret _ _ _ _ _ _ dL_knowsHatOf_23 ⟨rfl, rfl⟩ (List.Perm.refl _) hP hS

set_option maxHeartbeats 4000000 in
set_option maxRecDepth 100000 in
theorem w_L_knowsCertain_ok {fr lo : Nat} {post : Int32 → va_W → Prop} (a0 a1 : Int32) (h0 ao : Nat) (fs : List Value) (f : Nat → Int64) (x1 x2 x3 x4 x5 x6 : Nat × va_E) (hfl : fr ≤ 10 ∧ lo ≤ 350) (hM : Mi l yX1_knowsCertain ws_X1_knowsCertain fr lo (dC, dI) (tyL cI cZ cJ) [.ref h0, .int a0, .int a1] ([(h0, .inr (1, fs)), x1, x2, x3, x4, x5, x6]) post) (hp : ∀ a u, post a u → (u.map (·.1)).Perm (([(h0, .inr (1, fs)), x1, x2, x3, x4, x5, x6] : va_W).map (·.1))) (hbo : ∀ a u, post a u → ∃ b, a = bI b) : Hi l yL_knowsCertain ws_L_knowsCertain (dC, dI) (tyL cI cZ cJ) [.ref h0, .int a0, .int a1, .ref ao] ((ao, .inl (cJ, 1, .inr (.inl f))) :: [(h0, .inr (1, fs)), x1, x2, x3, x4, x5, x6]) (fun r u => r = nI 0 ∧ ∃ b w1, post (bI b) w1 ∧ u = (ao, .inl (cJ, 1, .inr (.inl (vp_updL f 0 (lB b))))) :: w1) := by
  refine Hi_of (by decide +kernel) (Nat.le_of_ble_eq_true rfl) ?_
  intro pr ev sx mi ag bl me cd Q ls S hP hK hD hZ hX hN hl htab ret
  obtain ⟨hx, hb, hml, hown, hts⟩ := id S
  have hown : sx.vm.findClass RL = some mi.cls := hown
  have hS : va_S (wIn ((ao, .inl (cJ, 1, .inr (.inl f))) :: [(h0, .inr (1, fs)), x1, x2, x3, x4, x5, x6])) sx.heap sx.heap [] := va_S.rf
  have hl : lv_has ls 5 [(0, .ref h0), (1, .int a0), (2, .int a1), (3, .ref ao)] := hl
  refine lv_aload_n hx hb dL_knowsCertain_0 rfl (lv_at hl 3 rfl) ?_
  refine lv_iconst (v := nI 0) hx hb dL_knowsCertain_1 (by decide) ?_
  refine lv_aload_n hx hb dL_knowsCertain_2 rfl (lv_at hl 0 rfl) ?_
  refine lv_iload_n hx hb dL_knowsCertain_3 rfl (lv_at hl 1 rfl) ?_
  refine lv_iload_n hx hb dL_knowsCertain_4 rfl (lv_at hl 2 rfl) ?_
  refine call_Vi (As := [.int a0, .int a1]) (wr := [(ao, .inl (cJ, 1, .inr (.inl f)))]) (rest := [.int (nI 0), .ref ao]) S hM g_L_X1_knowsCertain hd_X1_knowsCertain ⟨(by show fr + 1 ≤ 11; omega), (by show 8 + (6 + 11) + lo ≤ 410; omega)⟩ ⟨Nat.zero_le _, Nat.zero_le _⟩ hP hD hK hS hZ [1, 2, 3, 4, 5, 6, 7] [0] rfl rfl (by decide) 0 rfl rfl hl.1 rfl (Nat.le_of_ble_eq_true rfl) dL_knowsCertain_5 (fun r u H locs hq hP hD hS => ?_)
  obtain ⟨b, rfl⟩ := hbo _ _ hq
  refine ternL_eq hx hb dL_knowsCertain_8 dL_knowsCertain_11 dL_knowsCertain_12 dL_knowsCertain_15 (by decide) (by decide) ?_
  have hP : va_P (dC, dI) vwCl ((ao, .inl (cJ, 1, .inr (.inl f))) :: u) H := hP
  have hD : va_D (wIn ((ao, .inl (cJ, 1, .inr (.inl f))) :: [(h0, .inr (1, fs)), x1, x2, x3, x4, x5, x6])) ((ao, .inl (cJ, 1, .inr (.inl f))) :: u) := hD
  refine va_last (n := 1) hx hb hK hP hD hS 0 2 rfl rfl (vp_in_nI (by decide) (by decide)) dL_knowsCertain_16 (fun H locs hP hD hS => ?_)
  rw [show (nI 0).toNatClampNeg = 0 from nI_clamp (by omega)] at hP hD
  have hP : va_P (dC, dI) vwCl ((ao, .inl (cJ, 1, .inr (.inl (vp_updL f 0 (lB b))))) :: u) H := hP
  refine lv_goto (tgt := 24) hx hb dL_knowsCertain_17 (by decide) ?_
  refine lv_iconst (v := nI 0) hx hb dL_knowsCertain_24 (by decide) ?_
  refine W.widen (k := 1) (n := 6) (by omega) (by omega) ?_
  exact ret _ _ _ _ _ _ dL_knowsCertain_25 ⟨rfl, b, u, hq, rfl⟩ (List.Perm.cons _ (hp _ _ hq)) hP hS

set_option maxHeartbeats 4000000 in
set_option maxRecDepth 100000 in
theorem w_L_knowsCertain_1 {fr lo : Nat} (a0 a1 : Int32) (h0 ao : Nat) (fs : List Value) (f : Nat → Int64) (x1 x2 x3 x4 x5 x6 : Nat × va_E) (hfl : fr ≤ 10 ∧ lo ≤ 350) (hM : Mx l yX1_knowsCertain ws_X1_knowsCertain fr lo (dC, dI) (tyL cI cZ cJ) [.ref h0, .int a0, .int a1] ([(h0, .inr (1, fs)), x1, x2, x3, x4, x5, x6]) "java/lang/IndexOutOfBoundsException") : Hi l yL_knowsCertain ws_L_knowsCertain (dC, dI) (tyL cI cZ cJ) [.ref h0, .int a0, .int a1, .ref ao] ((ao, .inl (cJ, 1, .inr (.inl f))) :: [(h0, .inr (1, fs)), x1, x2, x3, x4, x5, x6]) (fun r u => r = nI 1 ∧ u = (ao, .inl (cJ, 1, .inr (.inl f))) :: [(h0, .inr (1, fs)), x1, x2, x3, x4, x5, x6]) := by
  refine Hi_of (by decide +kernel) (Nat.le_of_ble_eq_true rfl) ?_
  intro pr ev sx mi ag bl me cd Q ls S hP hK hD hZ hX hN hl htab ret
  obtain ⟨hx, hb, hml, hown, hts⟩ := id S
  have hown : sx.vm.findClass RL = some mi.cls := hown
  have hS : va_S (wIn ((ao, .inl (cJ, 1, .inr (.inl f))) :: [(h0, .inr (1, fs)), x1, x2, x3, x4, x5, x6])) sx.heap sx.heap [] := va_S.rf
  have hl : lv_has ls 5 [(0, .ref h0), (1, .int a0), (2, .int a1), (3, .ref ao)] := hl
  refine lv_aload_n hx hb dL_knowsCertain_0 rfl (lv_at hl 3 rfl) ?_
  refine lv_iconst (v := nI 0) hx hb dL_knowsCertain_1 (by decide) ?_
  refine lv_aload_n hx hb dL_knowsCertain_2 rfl (lv_at hl 0 rfl) ?_
  refine lv_iload_n hx hb dL_knowsCertain_3 rfl (lv_at hl 1 rfl) ?_
  refine lv_iload_n hx hb dL_knowsCertain_4 rfl (lv_at hl 2 rfl) ?_
  refine x_V (As := [.int a0, .int a1]) (rest := [.int (nI 0), .ref ao]) S hM g_L_X1_knowsCertain hd_X1_knowsCertain ⟨(by show fr + 1 ≤ 11; omega), (by show 8 + (6 + 11) + lo ≤ 410; omega)⟩ ⟨Nat.le_refl _, Nat.le_refl _⟩ hP hD hK hS hZ hX [1, 2, 3, 4, 5, 6, 7] rfl (by decide) 0 rfl rfl hl.1 rfl (Nat.le_of_ble_eq_true rfl) dL_knowsCertain_5 (fun ce q9 H locs hP hS h1 h2 h3 => ?_)
  refine vx_catch (own := RL) (name := "java/lang/IndexOutOfBoundsException") hown [] ⟨0, 17, 20, 13⟩ [] htab (fun z hz => nomatch hz) (by decide) (by decide) (hts _ q_cl_L_13) (va_Nw.use rfl (hX.2.2.2.1 _ xE_1)) h1 h2 h3 ?_
  refine lv_astore (lv' := [(4, .ref q9), (0, .ref h0), (1, .int a0), (2, .int a1), (3, .ref ao)]) hx hb dL_knowsCertain_20 hl (by decide) rfl (fun ls hl => ?_)
  refine lv_iconst (v := nI 1) hx hb dL_knowsCertain_22 (by decide) ?_
  refine W.widen (k := 1) (n := 6) (by omega) (by omega) ?_
  exact ret _ _ _ _ _ _ dL_knowsCertain_23 ⟨rfl, rfl⟩ (List.Perm.refl _) hP hS

set_option maxHeartbeats 4000000 in
set_option maxRecDepth 100000 in
theorem w_L_openAfterTurn_ok {fr lo : Nat} {post : Int32 → va_W → Prop} (h0 ao : Nat) (fs : List Value) (f : Nat → Int64) (x1 x2 x3 x4 x5 x6 : Nat × va_E) (hfl : fr ≤ 10 ∧ lo ≤ 350) (hM : Mi l yX1_openAfterTurn ws_X1_openAfterTurn fr lo (dC, dI) (tyL cI cZ cJ) [.ref h0] ([(h0, .inr (1, fs)), x1, x2, x3, x4, x5, x6]) post) (hp : ∀ a u, post a u → (u.map (·.1)).Perm (([(h0, .inr (1, fs)), x1, x2, x3, x4, x5, x6] : va_W).map (·.1))) : Hi l yL_openAfterTurn ws_L_openAfterTurn (dC, dI) (tyL cI cZ cJ) [.ref h0, .ref ao] ((ao, .inl (cJ, 1, .inr (.inl f))) :: [(h0, .inr (1, fs)), x1, x2, x3, x4, x5, x6]) (fun r u => r = nI 0 ∧ ∃ a w1, post a w1 ∧ u = (ao, .inl (cJ, 1, .inr (.inl (vp_updL f 0 (a.toInt64))))) :: w1) := by
  refine Hi_of (by decide +kernel) (Nat.le_of_ble_eq_true rfl) ?_
  intro pr ev sx mi ag bl me cd Q ls S hP hK hD hZ hX hN hl htab ret
  obtain ⟨hx, hb, hml, hown, hts⟩ := id S
  have hown : sx.vm.findClass RL = some mi.cls := hown
  have hS : va_S (wIn ((ao, .inl (cJ, 1, .inr (.inl f))) :: [(h0, .inr (1, fs)), x1, x2, x3, x4, x5, x6])) sx.heap sx.heap [] := va_S.rf
  have hl : lv_has ls 3 [(0, .ref h0), (1, .ref ao)] := hl
  refine lv_aload_n hx hb dL_openAfterTurn_0 rfl (lv_at hl 1 rfl) ?_
  refine lv_iconst (v := nI 0) hx hb dL_openAfterTurn_1 (by decide) ?_
  refine lv_aload_n hx hb dL_openAfterTurn_2 rfl (lv_at hl 0 rfl) ?_
  refine call_Vi (As := []) (wr := [(ao, .inl (cJ, 1, .inr (.inl f)))]) (rest := [.int (nI 0), .ref ao]) S hM g_L_X1_openAfterTurn hd_X1_openAfterTurn ⟨(by show fr + 1 ≤ 11; omega), (by show 8 + (1 + 11) + lo ≤ 410; omega)⟩ ⟨Nat.zero_le _, Nat.zero_le _⟩ hP hD hK hS hZ [1, 2, 3, 4, 5, 6, 7] [0] rfl rfl (by decide) 0 rfl rfl hl.1 rfl (Nat.le_of_ble_eq_true rfl) dL_openAfterTurn_3 (fun r u H locs hq hP hD hS => ?_)
  refine lv_i2l hx hb dL_openAfterTurn_6 rfl ?_
  have hP : va_P (dC, dI) vwCl ((ao, .inl (cJ, 1, .inr (.inl f))) :: u) H := hP
  have hD : va_D (wIn ((ao, .inl (cJ, 1, .inr (.inl f))) :: [(h0, .inr (1, fs)), x1, x2, x3, x4, x5, x6])) ((ao, .inl (cJ, 1, .inr (.inl f))) :: u) := hD
  refine va_last (n := 1) hx hb hK hP hD hS 0 2 rfl rfl (vp_in_nI (by decide) (by decide)) dL_openAfterTurn_7 (fun H locs hP hD hS => ?_)
  rw [show (nI 0).toNatClampNeg = 0 from nI_clamp (by omega)] at hP hD
  have hP : va_P (dC, dI) vwCl ((ao, .inl (cJ, 1, .inr (.inl (vp_updL f 0 (r.toInt64))))) :: u) H := hP
  refine lv_goto (tgt := 14) hx hb dL_openAfterTurn_8 (by decide) ?_
  refine lv_iconst (v := nI 0) hx hb dL_openAfterTurn_14 (by decide) ?_
  refine W.widen (k := 1) (n := 6) (by omega) (by omega) ?_
  exact ret _ _ _ _ _ _ dL_openAfterTurn_15 ⟨rfl, r, u, hq, rfl⟩ (List.Perm.cons _ (hp _ _ hq)) hP hS

set_option maxHeartbeats 4000000 in
set_option maxRecDepth 100000 in
theorem w_L_openAfterTurn_1 {fr lo : Nat} (h0 ao : Nat) (fs : List Value) (f : Nat → Int64) (x1 x2 x3 x4 x5 x6 : Nat × va_E) (hfl : fr ≤ 10 ∧ lo ≤ 350) (hM : Mx l yX1_openAfterTurn ws_X1_openAfterTurn fr lo (dC, dI) (tyL cI cZ cJ) [.ref h0] ([(h0, .inr (1, fs)), x1, x2, x3, x4, x5, x6]) "java/lang/IllegalStateException") : Hi l yL_openAfterTurn ws_L_openAfterTurn (dC, dI) (tyL cI cZ cJ) [.ref h0, .ref ao] ((ao, .inl (cJ, 1, .inr (.inl f))) :: [(h0, .inr (1, fs)), x1, x2, x3, x4, x5, x6]) (fun r u => r = nI 1 ∧ u = (ao, .inl (cJ, 1, .inr (.inl f))) :: [(h0, .inr (1, fs)), x1, x2, x3, x4, x5, x6]) := by
  refine Hi_of (by decide +kernel) (Nat.le_of_ble_eq_true rfl) ?_
  intro pr ev sx mi ag bl me cd Q ls S hP hK hD hZ hX hN hl htab ret
  obtain ⟨hx, hb, hml, hown, hts⟩ := id S
  have hown : sx.vm.findClass RL = some mi.cls := hown
  have hS : va_S (wIn ((ao, .inl (cJ, 1, .inr (.inl f))) :: [(h0, .inr (1, fs)), x1, x2, x3, x4, x5, x6])) sx.heap sx.heap [] := va_S.rf
  have hl : lv_has ls 3 [(0, .ref h0), (1, .ref ao)] := hl
  refine lv_aload_n hx hb dL_openAfterTurn_0 rfl (lv_at hl 1 rfl) ?_
  refine lv_iconst (v := nI 0) hx hb dL_openAfterTurn_1 (by decide) ?_
  refine lv_aload_n hx hb dL_openAfterTurn_2 rfl (lv_at hl 0 rfl) ?_
  refine x_V (As := []) (rest := [.int (nI 0), .ref ao]) S hM g_L_X1_openAfterTurn hd_X1_openAfterTurn ⟨(by show fr + 1 ≤ 11; omega), (by show 8 + (1 + 11) + lo ≤ 410; omega)⟩ ⟨Nat.le_refl _, Nat.le_refl _⟩ hP hD hK hS hZ hX [1, 2, 3, 4, 5, 6, 7] rfl (by decide) 0 rfl rfl hl.1 rfl (Nat.le_of_ble_eq_true rfl) dL_openAfterTurn_3 (fun ce q9 H locs hP hS h1 h2 h3 => ?_)
  refine vx_catch (own := RL) (name := "java/lang/IllegalStateException") hown [] ⟨0, 8, 11, 15⟩ [] htab (fun z hz => nomatch hz) (by decide) (by decide) (hts _ q_cl_L_15) (va_Nw.use rfl (hX.2.2.2.1 _ xE_0)) h1 h2 h3 ?_
  refine lv_astore_n (lv' := [(2, .ref q9), (0, .ref h0), (1, .ref ao)]) hx hb dL_openAfterTurn_11 rfl hl (by decide) rfl (fun ls hl => ?_)
  refine lv_iconst (v := nI 1) hx hb dL_openAfterTurn_12 (by decide) ?_
  refine W.widen (k := 1) (n := 6) (by omega) (by omega) ?_
  exact ret _ _ _ _ _ _ dL_openAfterTurn_13 ⟨rfl, rfl⟩ (List.Perm.refl _) hP hS

set_option maxHeartbeats 4000000 in
set_option maxRecDepth 100000 in
theorem w_L_turnsUntilCertain_ok {fr lo : Nat} {post : Int32 → va_W → Prop} (a0 : Int32) (h0 ao : Nat) (fs : List Value) (f : Nat → Int64) (x1 x2 x3 x4 x5 x6 : Nat × va_E) (hfl : fr ≤ 10 ∧ lo ≤ 350) (hM : Mi l yX1_turnsUntilCertain ws_X1_turnsUntilCertain fr lo (dC, dI) (tyL cI cZ cJ) [.ref h0, .int a0] ([(h0, .inr (1, fs)), x1, x2, x3, x4, x5, x6]) post) (hp : ∀ a u, post a u → (u.map (·.1)).Perm (([(h0, .inr (1, fs)), x1, x2, x3, x4, x5, x6] : va_W).map (·.1))) : Hi l yL_turnsUntilCertain ws_L_turnsUntilCertain (dC, dI) (tyL cI cZ cJ) [.ref h0, .int a0, .ref ao] ((ao, .inl (cJ, 1, .inr (.inl f))) :: [(h0, .inr (1, fs)), x1, x2, x3, x4, x5, x6]) (fun r u => r = nI 0 ∧ ∃ a w1, post a w1 ∧ u = (ao, .inl (cJ, 1, .inr (.inl (vp_updL f 0 (a.toInt64))))) :: w1) := by
  refine Hi_of (by decide +kernel) (Nat.le_of_ble_eq_true rfl) ?_
  intro pr ev sx mi ag bl me cd Q ls S hP hK hD hZ hX hN hl htab ret
  obtain ⟨hx, hb, hml, hown, hts⟩ := id S
  have hown : sx.vm.findClass RL = some mi.cls := hown
  have hS : va_S (wIn ((ao, .inl (cJ, 1, .inr (.inl f))) :: [(h0, .inr (1, fs)), x1, x2, x3, x4, x5, x6])) sx.heap sx.heap [] := va_S.rf
  have hl : lv_has ls 4 [(0, .ref h0), (1, .int a0), (2, .ref ao)] := hl
  refine lv_aload_n hx hb dL_turnsUntilCertain_0 rfl (lv_at hl 2 rfl) ?_
  refine lv_iconst (v := nI 0) hx hb dL_turnsUntilCertain_1 (by decide) ?_
  refine lv_aload_n hx hb dL_turnsUntilCertain_2 rfl (lv_at hl 0 rfl) ?_
  refine lv_iload_n hx hb dL_turnsUntilCertain_3 rfl (lv_at hl 1 rfl) ?_
  refine call_Vi (As := [.int a0]) (wr := [(ao, .inl (cJ, 1, .inr (.inl f)))]) (rest := [.int (nI 0), .ref ao]) S hM g_L_X1_turnsUntilCertain hd_X1_turnsUntilCertain ⟨(by show fr + 1 ≤ 11; omega), (by show 8 + (2 + 11) + lo ≤ 410; omega)⟩ ⟨Nat.zero_le _, Nat.zero_le _⟩ hP hD hK hS hZ [1, 2, 3, 4, 5, 6, 7] [0] rfl rfl (by decide) 0 rfl rfl hl.1 rfl (Nat.le_of_ble_eq_true rfl) dL_turnsUntilCertain_4 (fun r u H locs hq hP hD hS => ?_)
  refine lv_i2l hx hb dL_turnsUntilCertain_7 rfl ?_
  have hP : va_P (dC, dI) vwCl ((ao, .inl (cJ, 1, .inr (.inl f))) :: u) H := hP
  have hD : va_D (wIn ((ao, .inl (cJ, 1, .inr (.inl f))) :: [(h0, .inr (1, fs)), x1, x2, x3, x4, x5, x6])) ((ao, .inl (cJ, 1, .inr (.inl f))) :: u) := hD
  refine va_last (n := 1) hx hb hK hP hD hS 0 2 rfl rfl (vp_in_nI (by decide) (by decide)) dL_turnsUntilCertain_8 (fun H locs hP hD hS => ?_)
  rw [show (nI 0).toNatClampNeg = 0 from nI_clamp (by omega)] at hP hD
  have hP : va_P (dC, dI) vwCl ((ao, .inl (cJ, 1, .inr (.inl (vp_updL f 0 (r.toInt64))))) :: u) H := hP
  refine lv_goto (tgt := 15) hx hb dL_turnsUntilCertain_9 (by decide) ?_
  refine lv_iconst (v := nI 0) hx hb dL_turnsUntilCertain_15 (by decide) ?_
  refine W.widen (k := 1) (n := 6) (by omega) (by omega) ?_
  exact ret _ _ _ _ _ _ dL_turnsUntilCertain_16 ⟨rfl, r, u, hq, rfl⟩ (List.Perm.cons _ (hp _ _ hq)) hP hS

set_option maxHeartbeats 4000000 in
set_option maxRecDepth 100000 in
theorem w_L_turnsUntilCertain_1 {fr lo : Nat} (a0 : Int32) (h0 ao : Nat) (fs : List Value) (f : Nat → Int64) (x1 x2 x3 x4 x5 x6 : Nat × va_E) (hfl : fr ≤ 10 ∧ lo ≤ 350) (hM : Mx l yX1_turnsUntilCertain ws_X1_turnsUntilCertain fr lo (dC, dI) (tyL cI cZ cJ) [.ref h0, .int a0] ([(h0, .inr (1, fs)), x1, x2, x3, x4, x5, x6]) "java/lang/IndexOutOfBoundsException") : Hi l yL_turnsUntilCertain ws_L_turnsUntilCertain (dC, dI) (tyL cI cZ cJ) [.ref h0, .int a0, .ref ao] ((ao, .inl (cJ, 1, .inr (.inl f))) :: [(h0, .inr (1, fs)), x1, x2, x3, x4, x5, x6]) (fun r u => r = nI 1 ∧ u = (ao, .inl (cJ, 1, .inr (.inl f))) :: [(h0, .inr (1, fs)), x1, x2, x3, x4, x5, x6]) := by
  refine Hi_of (by decide +kernel) (Nat.le_of_ble_eq_true rfl) ?_
  intro pr ev sx mi ag bl me cd Q ls S hP hK hD hZ hX hN hl htab ret
  obtain ⟨hx, hb, hml, hown, hts⟩ := id S
  have hown : sx.vm.findClass RL = some mi.cls := hown
  have hS : va_S (wIn ((ao, .inl (cJ, 1, .inr (.inl f))) :: [(h0, .inr (1, fs)), x1, x2, x3, x4, x5, x6])) sx.heap sx.heap [] := va_S.rf
  have hl : lv_has ls 4 [(0, .ref h0), (1, .int a0), (2, .ref ao)] := hl
  refine lv_aload_n hx hb dL_turnsUntilCertain_0 rfl (lv_at hl 2 rfl) ?_
  refine lv_iconst (v := nI 0) hx hb dL_turnsUntilCertain_1 (by decide) ?_
  refine lv_aload_n hx hb dL_turnsUntilCertain_2 rfl (lv_at hl 0 rfl) ?_
  refine lv_iload_n hx hb dL_turnsUntilCertain_3 rfl (lv_at hl 1 rfl) ?_
  refine x_V (As := [.int a0]) (rest := [.int (nI 0), .ref ao]) S hM g_L_X1_turnsUntilCertain hd_X1_turnsUntilCertain ⟨(by show fr + 1 ≤ 11; omega), (by show 8 + (2 + 11) + lo ≤ 410; omega)⟩ ⟨Nat.le_refl _, Nat.le_refl _⟩ hP hD hK hS hZ hX [1, 2, 3, 4, 5, 6, 7] rfl (by decide) 0 rfl rfl hl.1 rfl (Nat.le_of_ble_eq_true rfl) dL_turnsUntilCertain_4 (fun ce q9 H locs hP hS h1 h2 h3 => ?_)
  refine vx_catch (own := RL) (name := "java/lang/IndexOutOfBoundsException") hown [] ⟨0, 9, 12, 13⟩ [] htab (fun z hz => nomatch hz) (by decide) (by decide) (hts _ q_cl_L_13) (va_Nw.use rfl (hX.2.2.2.1 _ xE_1)) h1 h2 h3 ?_
  refine lv_astore_n (lv' := [(3, .ref q9), (0, .ref h0), (1, .int a0), (2, .ref ao)]) hx hb dL_turnsUntilCertain_12 rfl hl (by decide) rfl (fun ls hl => ?_)
  refine lv_iconst (v := nI 1) hx hb dL_turnsUntilCertain_13 (by decide) ?_
  refine W.widen (k := 1) (n := 6) (by omega) (by omega) ?_
  exact ret _ _ _ _ _ _ dL_turnsUntilCertain_14 ⟨rfl, rfl⟩ (List.Perm.refl _) hP hS

set_option maxHeartbeats 4000000 in
set_option maxRecDepth 100000 in
theorem w_L_certainIfTold_ok {fr lo : Nat} {post : Int32 → va_W → Prop} (a0 : Int32) (h0 ao : Nat) (fs : List Value) (f : Nat → Int64) (x1 x2 x3 x4 x5 x6 : Nat × va_E) (hfl : fr ≤ 10 ∧ lo ≤ 350) (hM : Mi l yX1_certainIfTold ws_X1_certainIfTold fr lo (dC, dI) (tyL cI cZ cJ) [.ref h0, .int a0] ([(h0, .inr (1, fs)), x1, x2, x3, x4, x5, x6]) post) (hp : ∀ a u, post a u → (u.map (·.1)).Perm (([(h0, .inr (1, fs)), x1, x2, x3, x4, x5, x6] : va_W).map (·.1))) : Hi l yL_certainIfTold ws_L_certainIfTold (dC, dI) (tyL cI cZ cJ) [.ref h0, .int a0, .ref ao] ((ao, .inl (cJ, 1, .inr (.inl f))) :: [(h0, .inr (1, fs)), x1, x2, x3, x4, x5, x6]) (fun r u => r = nI 0 ∧ ∃ a w1, post a w1 ∧ u = (ao, .inl (cJ, 1, .inr (.inl (vp_updL f 0 (a.toInt64))))) :: w1) := by
  refine Hi_of (by decide +kernel) (Nat.le_of_ble_eq_true rfl) ?_
  intro pr ev sx mi ag bl me cd Q ls S hP hK hD hZ hX hN hl htab ret
  obtain ⟨hx, hb, hml, hown, hts⟩ := id S
  have hown : sx.vm.findClass RL = some mi.cls := hown
  have hS : va_S (wIn ((ao, .inl (cJ, 1, .inr (.inl f))) :: [(h0, .inr (1, fs)), x1, x2, x3, x4, x5, x6])) sx.heap sx.heap [] := va_S.rf
  have hl : lv_has ls 4 [(0, .ref h0), (1, .int a0), (2, .ref ao)] := hl
  refine lv_aload_n hx hb dL_certainIfTold_0 rfl (lv_at hl 2 rfl) ?_
  refine lv_iconst (v := nI 0) hx hb dL_certainIfTold_1 (by decide) ?_
  refine lv_aload_n hx hb dL_certainIfTold_2 rfl (lv_at hl 0 rfl) ?_
  refine lv_iload_n hx hb dL_certainIfTold_3 rfl (lv_at hl 1 rfl) ?_
  refine call_Vi (As := [.int a0]) (wr := [(ao, .inl (cJ, 1, .inr (.inl f)))]) (rest := [.int (nI 0), .ref ao]) S hM g_L_X1_certainIfTold hd_X1_certainIfTold ⟨(by show fr + 1 ≤ 11; omega), (by show 8 + (2 + 11) + lo ≤ 410; omega)⟩ ⟨Nat.zero_le _, Nat.zero_le _⟩ hP hD hK hS hZ [1, 2, 3, 4, 5, 6, 7] [0] rfl rfl (by decide) 0 rfl rfl hl.1 rfl (Nat.le_of_ble_eq_true rfl) dL_certainIfTold_4 (fun r u H locs hq hP hD hS => ?_)
  refine lv_i2l hx hb dL_certainIfTold_7 rfl ?_
  have hP : va_P (dC, dI) vwCl ((ao, .inl (cJ, 1, .inr (.inl f))) :: u) H := hP
  have hD : va_D (wIn ((ao, .inl (cJ, 1, .inr (.inl f))) :: [(h0, .inr (1, fs)), x1, x2, x3, x4, x5, x6])) ((ao, .inl (cJ, 1, .inr (.inl f))) :: u) := hD
  refine va_last (n := 1) hx hb hK hP hD hS 0 2 rfl rfl (vp_in_nI (by decide) (by decide)) dL_certainIfTold_8 (fun H locs hP hD hS => ?_)
  rw [show (nI 0).toNatClampNeg = 0 from nI_clamp (by omega)] at hP hD
  have hP : va_P (dC, dI) vwCl ((ao, .inl (cJ, 1, .inr (.inl (vp_updL f 0 (r.toInt64))))) :: u) H := hP
  refine lv_goto (tgt := 15) hx hb dL_certainIfTold_9 (by decide) ?_
  refine lv_iconst (v := nI 0) hx hb dL_certainIfTold_15 (by decide) ?_
  refine W.widen (k := 1) (n := 6) (by omega) (by omega) ?_
  exact ret _ _ _ _ _ _ dL_certainIfTold_16 ⟨rfl, r, u, hq, rfl⟩ (List.Perm.cons _ (hp _ _ hq)) hP hS

set_option maxHeartbeats 4000000 in
set_option maxRecDepth 100000 in
theorem w_L_certainIfTold_1 {fr lo : Nat} (a0 : Int32) (h0 ao : Nat) (fs : List Value) (f : Nat → Int64) (x1 x2 x3 x4 x5 x6 : Nat × va_E) (hfl : fr ≤ 10 ∧ lo ≤ 350) (hM : Mx l yX1_certainIfTold ws_X1_certainIfTold fr lo (dC, dI) (tyL cI cZ cJ) [.ref h0, .int a0] ([(h0, .inr (1, fs)), x1, x2, x3, x4, x5, x6]) "java/lang/IndexOutOfBoundsException") : Hi l yL_certainIfTold ws_L_certainIfTold (dC, dI) (tyL cI cZ cJ) [.ref h0, .int a0, .ref ao] ((ao, .inl (cJ, 1, .inr (.inl f))) :: [(h0, .inr (1, fs)), x1, x2, x3, x4, x5, x6]) (fun r u => r = nI 1 ∧ u = (ao, .inl (cJ, 1, .inr (.inl f))) :: [(h0, .inr (1, fs)), x1, x2, x3, x4, x5, x6]) := by
  refine Hi_of (by decide +kernel) (Nat.le_of_ble_eq_true rfl) ?_
  intro pr ev sx mi ag bl me cd Q ls S hP hK hD hZ hX hN hl htab ret
  obtain ⟨hx, hb, hml, hown, hts⟩ := id S
  have hown : sx.vm.findClass RL = some mi.cls := hown
  have hS : va_S (wIn ((ao, .inl (cJ, 1, .inr (.inl f))) :: [(h0, .inr (1, fs)), x1, x2, x3, x4, x5, x6])) sx.heap sx.heap [] := va_S.rf
  have hl : lv_has ls 4 [(0, .ref h0), (1, .int a0), (2, .ref ao)] := hl
  refine lv_aload_n hx hb dL_certainIfTold_0 rfl (lv_at hl 2 rfl) ?_
  refine lv_iconst (v := nI 0) hx hb dL_certainIfTold_1 (by decide) ?_
  refine lv_aload_n hx hb dL_certainIfTold_2 rfl (lv_at hl 0 rfl) ?_
  refine lv_iload_n hx hb dL_certainIfTold_3 rfl (lv_at hl 1 rfl) ?_
  refine x_V (As := [.int a0]) (rest := [.int (nI 0), .ref ao]) S hM g_L_X1_certainIfTold hd_X1_certainIfTold ⟨(by show fr + 1 ≤ 11; omega), (by show 8 + (2 + 11) + lo ≤ 410; omega)⟩ ⟨Nat.le_refl _, Nat.le_refl _⟩ hP hD hK hS hZ hX [1, 2, 3, 4, 5, 6, 7] rfl (by decide) 0 rfl rfl hl.1 rfl (Nat.le_of_ble_eq_true rfl) dL_certainIfTold_4 (fun ce q9 H locs hP hS h1 h2 h3 => ?_)
  refine vx_catch (own := RL) (name := "java/lang/IndexOutOfBoundsException") hown [] ⟨0, 9, 12, 13⟩ [] htab (fun z hz => nomatch hz) (by decide) (by decide) (hts _ q_cl_L_13) (va_Nw.use rfl (hX.2.2.2.1 _ xE_1)) h1 h2 h3 ?_
  refine lv_astore_n (lv' := [(3, .ref q9), (0, .ref h0), (1, .int a0), (2, .ref ao)]) hx hb dL_certainIfTold_12 rfl hl (by decide) rfl (fun ls hl => ?_)
  refine lv_iconst (v := nI 1) hx hb dL_certainIfTold_13 (by decide) ?_
  refine W.widen (k := 1) (n := 6) (by omega) (by omega) ?_
  exact ret _ _ _ _ _ _ dL_certainIfTold_14 ⟨rfl, rfl⟩ (List.Perm.refl _) hP hS

end
