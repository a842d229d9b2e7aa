/-! the law's own steps -/
theorem mx_nI {a b : Nat} (ha : a < 2 ^ 31) (hb : b < 2 ^ 31) : (if nI a < nI b then nI b else nI a) = nI (if a < b then b else a) := by
  by_cases h : a < b
  · rw [if_pos h, if_pos ((nI_ltI ha hb).mpr h)]
  · rw [if_neg h, if_neg (fun q => h ((nI_ltI ha hb).mp q))]
theorem other_ne {n p j : Nat} (hn : 1 < n) (hp : p < n) (hj : j < if 1 < n - 1 then n - 1 else 1) : (p + 1 + j) % n ≠ p := by
  have hj2 : j < n - 1 := by split at hj <;> omega
  by_cases h : p + 1 + j < n
  · rw [Nat.mod_eq_of_lt h]; omega
  · rw [Nat.mod_eq_sub_mod (by omega), Nat.mod_eq_of_lt (by omega)]; omega
/-- a game and a model of it, alike -/
def GS (cI cZ cS cW : ClassId) (h0 h1 h2 h3 h4 h5 h6 b0 T : Nat) (u : va_W) : Prop :=
  ∃ (n wn t tc sc : Nat) (uw : Bool) (c1 c2 : Nat) (s ow hf tf : Nat → Nat) (b1 b2 b3 b4 m tn sl : Nat) (bg : Bool) (ht rs : Nat → Nat) (sn : Nat → Nat → Bool) (rw : Nat → Nat) (wy : Nat → Nat → Nat) (o : Nat → Bool),
    u = gW cI h0 h1 h2 h3 h4 h5 h6 h1 h2 n wn t tc sc uw c1 c2 s ow hf tf ++ sW cI cZ cS cW b0 b1 b2 b3 b4 n m tn sl bg ht rs sn rw wy o ∧ Rl n m wn t tc sc uw c1 s hf tn sl bg ht sn wy o ∧ 0 < n ∧ tn ≤ T
section
variable {l : Launch} {dC : Nat → ClassId} {dI : Nat → Nat → Nat} {cI cZ cS cW : ClassId}

set_option maxHeartbeats 4000000 in
set_option maxRecDepth 100000 in
theorem m_L_below (v : Int32) (n : Nat) (h0n : 0 < n) (hn31 : n < 2 ^ 31) : Mp l yL_below ws_L_below 0 0 (dC, dI) (tyL cI cZ cS cW) [.int v, .int (nI n)] ([]) (fun r => ∃ j, j < n ∧ r = nI j) := by
  refine Mi_of (by decide +kernel) (Nat.le_of_ble_eq_true rfl) ?_
  intro pr ev sx mi ag bl me cd Q ls S hP hK hD hZ hl ret
  obtain ⟨hx, hb, hml, hown, hts⟩ := id S
  have hown : sx.vm.findClass RL = some mi.cls := hown
  have hS : va_S (wIn ([])) sx.heap sx.heap [] := va_S.rf
  have hl : lv_has ls 2 [(0, .int v), (1, .int (nI n))] := hl
  refine lv_iload_n hx hb dL_below_0 rfl (lv_at hl 0 rfl) ?_
  refine lv_ldc hx hb hown (hts _ q_k_L_7) dL_below_1 ?_
  obtain ⟨k, hk, ek⟩ := pk_andE v (m := 2147483647) 31 (by decide)
  refine lv_iand hx hb dL_below_3 ?_
  refine W_i (y := nI k) (ek) ?_
  refine lv_iload_n hx hb dL_below_4 rfl (lv_at hl 1 rfl) ?_
  refine lv_irem hx hb dL_below_5 (nI_ne0 (by omega) (by omega)) ?_
  refine W_i (y := nI (k % n)) (pk_rem (by omega) (by omega) (by omega)) ?_
  exact ret _ ([]) _ _ _ _ dL_below_6 rfl ⟨rfl, _, Nat.mod_lt k h0n, rfl⟩ (List.Perm.refl _) hP hS

theorem all_pm (G O Z : va_W) : ((G ++ Z) ++ O).Perm (G ++ (O ++ Z)) := by
  rw [List.append_assoc]
  exact List.perm_append_comm.append_left G
theorem all_pm2 (G A Z B I : va_W) : (G ++ ((B ++ A) ++ (Z ++ I))).Perm ((G ++ (A ++ Z)) ++ (B ++ I)) := by
  rw [List.append_assoc G (A ++ Z) (B ++ I)]
  exact (rows_pm A Z B I).append_left G
theorem ord_pm (G T : va_W) {a b c d e : Nat × va_E} : (G ++ ([a, d, e, b, c] ++ T)).Perm (G ++ ([a, b, c, d, e] ++ T)) := by
  refine ((List.Perm.cons a ?_).append_right T).append_left G
  exact (List.perm_append_comm (l₁ := [d, e]) (l₂ := [b, c]))
set_option maxHeartbeats 40000000 in
set_option maxRecDepth 100000 in
theorem m_L_act (h0 h1 h2 h3 h4 h5 h6 n wn t tc sc : Nat) (uw : Bool) (c1 c2 : Nat) (s ow hf tf : Nat → Nat) (b0 b1 b2 b3 b4 m tn sl : Nat) (bg : Bool) (ht rs : Nat → Nat) (sn : Nat → Nat → Bool) (rw : Nat → Nat) (wy : Nat → Nat → Nat) (o : Nat → Bool) (x : Int32) (R : Rl n m wn t tc sc uw c1 s hf tn sl bg ht sn wy o) (h0n : 0 < n) (htn : tn < 2 ^ 19) (sz : Nat) : Gi l yL_act ws_L_act 6 139 261 2100 sz (dC, dI) (tyL cI cZ cS cW) [.ref h0, .ref b0, .int x] (gW cI h0 h1 h2 h3 h4 h5 h6 h1 h2 n wn t tc sc uw c1 c2 s ow hf tf ++ (sW cI cZ cS cW b0 b1 b2 b3 b4 n m tn sl bg ht rs sn rw wy o)) (fun r u => r = nI 1 ∧ GS cI cZ cS cW h0 h1 h2 h3 h4 h5 h6 b0 (tn + 1) u) := by
  refine Gi_of (by decide +kernel) (Nat.le_of_ble_eq_true rfl) ?_
  intro pr ev sx mi ag bl me cd Q ls A S hP hK hD hA hZ hl hin ret
  obtain ⟨hx, hb, hml, hown, hts⟩ := id S
  have hown : sx.vm.findClass RL = some mi.cls := hown
  have hS : va_S A sx.heap sx.heap [] := va_S.rf
  have hl : lv_has ls 12 [(0, .ref h0), (1, .ref b0), (2, .int x)] := hl
  obtain ⟨hn, hw, hs, hc1, hb1⟩ := R.inv
  have hm : m ≤ 243 := R.m243
  have hht := R.gx.h4
  have hwy := R.wy4
  have ht5 := R.t5
  refine lv_aload_n hx hb dL_act_0 rfl (lv_at hl 1 rfl) ?_
  refine va_get (D := (dC, dI)) (ci := 2) (v := .int (nI n)) (C := RX2) (T := TX2) (N := 8) hx hb hts inX2 hown hK hP 7 rfl rfl 0 (by decide) (hts _ q_fl_L_9) (fun _ h9 => h9) rfl dL_act_1 ?_
  refine lv_istore_n (lv' := [(3, .int (nI n)), (0, .ref h0), (1, .ref b0), (2, .int x)]) hx hb dL_act_4 rfl hl (by decide) rfl (fun ls hl => ?_)
  refine lv_iload_n hx hb dL_act_5 rfl (lv_at hl 3 rfl) ?_
  refine lv_bipush (v := nI 9) hx hb dL_act_6 (by decide) ?_
  refine lv_ishr hx hb dL_act_8 ?_
  refine W_i (y := (x >>> (nI 9 &&& 31))) (rfl) ?_
  refine lv_bipush (v := nI 14) hx hb dL_act_9 (by decide) ?_
  refine call_Sp (As := [.int (x >>> (nI 9 &&& 31)), .int (nI 14)]) (rest := []) S (m_L_below (x >>> (nI 9 &&& 31)) 14 (by omega) (by omega)) g_L_L_below hd_L_below ⟨Nat.le_of_ble_eq_true rfl, Nat.le_of_ble_eq_true rfl⟩ ⟨by show _ ≤ 261; omega, by show _ ≤ 2100; omega⟩ hP hD hK hS hZ [] rfl (by decide) hl.1 rfl (Nat.le_of_ble_eq_true rfl) dL_act_11 (fun r H locs hq hP hS => ?_)
  obtain ⟨j4, hj4, rfl⟩ := hq
  refine lv_istore (lv' := [(4, .int (nI j4)), (3, .int (nI n)), (0, .ref h0), (1, .ref b0), (2, .int x)]) hx hb dL_act_14 hl (by decide) rfl (fun ls hl => ?_)
  refine lv_iload_n hx hb dL_act_16 rfl (lv_at hl 1 rfl) ?_
  refine ifN_eq (tgt := 26) hx hb dL_act_17 (by decide) (by omega) (fun c_17 => absurd c_17 (by omega)) (fun c_17 => ?_)
  refine lv_iload hx hb dL_act_20 (lv_at hl 0 rfl) ?_
  refine lv_iconst (v := nI 3) hx hb dL_act_22 (by decide) ?_
  refine icN_ge (tgt := 71) hx hb dL_act_23 (by decide) (by omega) (by omega) (fun c_23 => ?_) (fun c_23 => ?_)
  · refine lv_iload_n hx hb dL_act_71 rfl (lv_at hl 4 rfl) ?_
    refine lv_iconst (v := nI 1) hx hb dL_act_72 (by decide) ?_
    refine lv_ishr hx hb dL_act_73 ?_
    refine W_i (y := (x >>> (nI 1 &&& 31))) (rfl) ?_
    refine lv_iload_n hx hb dL_act_74 rfl (lv_at hl 1 rfl) ?_
    refine call_Sp (As := [.int (x >>> (nI 1 &&& 31)), .int (nI n)]) (rest := []) S (m_L_below (x >>> (nI 1 &&& 31)) n h0n (by omega)) g_L_L_below hd_L_below ⟨Nat.le_of_ble_eq_true rfl, Nat.le_of_ble_eq_true rfl⟩ ⟨by show _ ≤ 261; omega, by show _ ≤ 2100; omega⟩ hP hD hK hS hZ [] rfl (by decide) hl.1 rfl (Nat.le_of_ble_eq_true rfl) dL_act_75 (fun r H locs hq hP hS => ?_)
    obtain ⟨p, hp, rfl⟩ := hq
    refine lv_istore (lv' := [(5, .int (nI p)), (4, .int (nI j4)), (3, .int (nI n)), (0, .ref h0), (1, .ref b0), (2, .int x)]) hx hb dL_act_78 hl (by decide) rfl (fun ls hl => ?_)
    refine lv_iload hx hb dL_act_80 (lv_at hl 0 rfl) ?_
    refine lv_iconst (v := nI 1) hx hb dL_act_82 (by decide) ?_
    refine lv_iadd hx hb dL_act_83 ?_
    refine W_i (y := nI (p + 1)) (nI_add _ _) ?_
    refine lv_iload_n hx hb dL_act_84 rfl (lv_at hl 5 rfl) ?_
    refine lv_iconst (v := nI 3) hx hb dL_act_85 (by decide) ?_
    refine lv_ishr hx hb dL_act_86 ?_
    refine W_i (y := (x >>> (nI 3 &&& 31))) (rfl) ?_
    refine lv_iconst (v := nI 1) hx hb dL_act_87 (by decide) ?_
    refine lv_iload_n hx hb dL_act_88 rfl (lv_at hl 2 rfl) ?_
    refine lv_iconst (v := nI 1) hx hb dL_act_89 (by decide) ?_
    refine lv_isub hx hb dL_act_90 ?_
    refine W_i (y := nI (n - 1)) (pk_sub (by omega)) ?_
    refine va_mmax hx hb (hml.trans hl.1.symm) hown (hts _ q_ml_L_35) (hts _ q_st_J9_max_7cf53) (hts _ q_in_J9) (hts _ q_c_J9_max_7cf53) (Nat.le_of_ble_eq_true rfl) (Nat.le_of_ble_eq_true rfl) (by show _ ≤ 261; omega) (by show _ ≤ 2100; omega) dL_act_91 ?_
    refine W_i (y := nI (if 1 < n - 1 then n - 1 else 1)) (mx_nI (by omega) (by omega)) ?_
    refine call_Sp (As := [.int (x >>> (nI 3 &&& 31)), .int (nI (if 1 < n - 1 then n - 1 else 1))]) (rest := [.int (nI (p + 1))]) S (m_L_below (x >>> (nI 3 &&& 31)) (if 1 < n - 1 then n - 1 else 1) (by split <;> omega) (by split <;> omega)) g_L_L_below hd_L_below ⟨Nat.le_of_ble_eq_true rfl, Nat.le_of_ble_eq_true rfl⟩ ⟨by show _ ≤ 261; omega, by show _ ≤ 2100; omega⟩ hP hD hK hS hZ [] rfl (by decide) hl.1 rfl (Nat.le_of_ble_eq_true rfl) dL_act_94 (fun r H locs hq hP hS => ?_)
    obtain ⟨j6, hj6, rfl⟩ := hq
    refine lv_iadd hx hb dL_act_97 ?_
    refine W_i (y := nI ((p + 1) + j6)) (nI_add _ _) ?_
    refine lv_iload_n hx hb dL_act_98 rfl (lv_at hl 2 rfl) ?_
    refine lv_irem hx hb dL_act_99 (nI_ne0 (by omega) (by omega)) ?_
    refine W_i (y := nI (((p + 1) + j6) % n)) (pk_rem (by have : j6 < 5 := by { split at hj6 <;> omega }; omega) h0n (by omega)) ?_
    obtain ⟨k6, hk6⟩ : ∃ k6, k6 = (p + 1 + j6) % n := ⟨_, rfl⟩
    have hk : k6 < n := by rw [hk6]; exact Nat.mod_lt _ h0n
    have hj : p < n := hp
    have hne : ¬ n = 1 → k6 ≠ p := fun h9 => by rw [hk6]; exact other_ne (by omega) hp hj6
    refine W_i (y := nI k6) (by rw [hk6]) ?_
    refine lv_istore (lv' := [(6, .int (nI k6)), (5, .int (nI p)), (4, .int (nI j4)), (3, .int (nI n)), (0, .ref h0), (1, .ref b0), (2, .int x)]) hx hb dL_act_100 hl (by decide) rfl (fun ls hl => ?_)
    refine lv_iload hx hb dL_act_102 (lv_at hl 2 rfl) ?_
    have hl := lv_sub hl [0, 1, 3, 4, 5, 6] rfl
    rcases (show (j4 = 3 ∨ j4 = 4) ∨ j4 = 5 ∨ (j4 = 6 ∨ j4 = 7) ∨ j4 = 8 ∨ j4 = 9 ∨ 10 ≤ j4 by omega) with h9 | h9 | h9 | h9 | h9 | h9
    · refine lv_tableIn (off := 44) (tgt := 148) hx hb dL_act_104 (by rcases h9 with rfl | rfl <;> decide) (by rcases h9 with rfl | rfl <;> decide) (by rcases h9 with rfl | rfl <;> decide) (by decide) ?_
      refine lv_iload_n hx hb dL_act_148 rfl (lv_at hl 2 rfl) ?_
      refine lv_iconst (v := nI 1) hx hb dL_act_149 (by decide) ?_
      refine icN_ne (tgt := 155) hx hb dL_act_150 (by decide) (by omega) (by omega) (fun c_150 => ?_) (fun c_150 => ?_)
      · refine lv_aload_n hx hb dL_act_155 rfl (lv_at hl 4 rfl) ?_
        refine va_get (D := (dC, dI)) (ci := 2) (v := .ref b2) (C := RX2) (T := TX2) (N := 8) hx hb hts inX2 hown hK hP 7 rfl rfl 5 (by decide) (hts _ q_fl_L_40) (fun _ h9 => h9) rfl dL_act_156 ?_
        refine lv_iload hx hb dL_act_159 (lv_at hl 1 rfl) ?_
        refine aa_ld hx hb hK hP 9 2 rfl rfl (j := p) (by omega) (by omega) dL_act_161 ?_
        refine lv_iload hx hb dL_act_162 (lv_at hl 0 rfl) ?_
        refine lv_aload_n hx hb dL_act_164 rfl (lv_at hl 4 rfl) ?_
        refine va_get (D := (dC, dI)) (ci := 2) (v := .ref b2) (C := RX2) (T := TX2) (N := 8) hx hb hts inX2 hown hK hP 7 rfl rfl 5 (by decide) (hts _ q_fl_L_40) (fun _ h9 => h9) rfl dL_act_165 ?_
        refine lv_iload hx hb dL_act_168 (lv_at hl 1 rfl) ?_
        refine aa_ld hx hb hK hP 9 2 rfl rfl (j := p) (by omega) (by omega) dL_act_170 ?_
        refine lv_iload hx hb dL_act_171 (lv_at hl 0 rfl) ?_
        refine za_ld hx hb hK (hP.one (List.mem_append_right _ (List.mem_append_right _ (List.mem_append_left _ (rB_mem (by omega)))))) 0 1 rfl rfl (j := k6) (by omega) (by omega) dL_act_173 ?_
        refine ifB_ne (tgt := 181) hx hb dL_act_174 (by decide) (fun c_174 => ?_) (fun c_174 => ?_)
        · refine lv_iconst (v := nI 0) hx hb dL_act_181 (by decide) ?_
          refine W_i (y := bI false) rfl ?_
          refine rz_st (X := gW cI h0 h1 h2 h3 h4 h5 h6 h1 h2 n wn t tc sc uw c1 c2 s ow hf tf) (T := [(b0, .inr (2, [.int (nI n), .int (nI tn), .int (nI sl), .int (bI bg), .ref b1, .ref b2, .ref b3, .ref b4])), (b1, .inl (cI, n, .inl (fun k => nI (ht k)))), (b2, eQ cS n rs), (b3, eQ cW m rw), (b4, .inl (cZ, m, .inl (fun k => bI (o k))))]) (B := rB (fun w0 => eI cI n (wy w0)) rw m) (sn := sn) (n := n) (ad := rs) (m2 := n) hx hb hK hP hD hS 1 rfl (w := p) (j := k6) (v := false) (by omega) (by omega) (by omega) dL_act_182 (fun H locs hP hD hS => ?_)
          have hP : va_P (dC, dI) vwCl (gW cI h0 h1 h2 h3 h4 h5 h6 h1 h2 n wn t tc sc uw c1 c2 s ow hf tf ++ (sW cI cZ cS cW b0 b1 b2 b3 b4 n m tn sl bg ht rs (upN sn p (upN (sn p) k6 false)) rw wy o)) H := hP
          have hD : va_D A (gW cI h0 h1 h2 h3 h4 h5 h6 h1 h2 n wn t tc sc uw c1 c2 s ow hf tf ++ (sW cI cZ cS cW b0 b1 b2 b3 b4 n m tn sl bg ht rs (upN sn p (upN (sn p) k6 false)) rw wy o)) := hD
          have R2 := R.away hj hk (fun e9 => hne c_150 e9.symm)
          rw [c_174] at R2
          obtain ⟨hn, hw, hs2, hc1, hb1⟩ := R2.inv
          refine lv_aload_n hx hb dL_act_183 rfl (lv_at hl 3 rfl) ?_
          refine lv_iload hx hb dL_act_184 (lv_at hl 1 rfl) ?_
          refine lv_iload hx hb dL_act_186 (lv_at hl 0 rfl) ?_
          refine call_ViF (As := [.int (nI p), .int (nI k6)]) (rest := []) (wr := sW cI cZ cS cW b0 b1 b2 b3 b4 n m tn sl bg ht rs (upN sn p (upN (sn p) k6 false)) rw wy o) S (m_X1_turnAway h0 h1 h2 h3 h4 h5 h6 n wn t tc sc uw c1 c2 s ow hf tf p k6 (by omega) (by omega) (fun e9 => hne c_150 e9.symm) hn hw hs hc1 hb1) g_L_X1_turnAway hd_X1_turnAway ⟨Nat.le_of_ble_eq_true rfl, Nat.le_of_ble_eq_true rfl⟩ ⟨by show _ ≤ 261; omega, by show _ ≤ 2100; omega⟩ hP hD hK hS hZ 0 rfl rfl hl.1 rfl (Nat.le_of_ble_eq_true rfl) dL_act_188 (fun r u H locs hq hP hD hS => ?_)
          obtain ⟨rfl, rfl⟩ := hq
          have hP : va_P (dC, dI) vwCl (gW cI h0 h1 h2 h3 h4 h5 h6 h1 h2 n wn t tc sc uw c1 c2 (upN s p (s p ^^^ 3 * 2 ^ (k6 * 2))) ow hf tf ++ (sW cI cZ cS cW b0 b1 b2 b3 b4 n m tn sl bg ht rs (upN sn p (upN (sn p) k6 false)) rw wy o)) H := hP
          have hD : va_D A (gW cI h0 h1 h2 h3 h4 h5 h6 h1 h2 n wn t tc sc uw c1 c2 (upN s p (s p ^^^ 3 * 2 ^ (k6 * 2))) ow hf tf ++ (sW cI cZ cS cW b0 b1 b2 b3 b4 n m tn sl bg ht rs (upN sn p (upN (sn p) k6 false)) rw wy o)) := hD
          refine lv_aload_n hx hb dL_act_191 rfl (lv_at hl 4 rfl) ?_
          refine va_get (D := (dC, dI)) (ci := 2) (v := .ref b2) (C := RX2) (T := TX2) (N := 8) hx hb hts inX2 hown hK hP 7 rfl rfl 5 (by decide) (hts _ q_fl_L_40) (fun _ h9 => h9) rfl dL_act_192 ?_
          refine lv_iload hx hb dL_act_195 (lv_at hl 1 rfl) ?_
          refine aa_ld hx hb hK hP 9 2 rfl rfl (j := p) (by omega) (by omega) dL_act_197 ?_
          refine lv_iload hx hb dL_act_198 (lv_at hl 0 rfl) ?_
          refine za_ld hx hb hK (hP.one (List.mem_append_right _ (List.mem_append_right _ (List.mem_append_left _ (rB_mem (by omega)))))) 0 1 rfl rfl (j := k6) (by omega) (by omega) dL_act_200 ?_
          refine icB_ne (tgt := 208) hx hb dL_act_201 (by decide) (fun c_201 => absurd c_201 (fun e9 => e9 (R2.gx.see hj hk))) (fun c_201 => ?_)
          refine lv_iconst (v := nI 1) hx hb dL_act_204 (by decide) ?_
          refine lv_goto (tgt := 209) hx hb dL_act_205 (by decide) ?_
          refine W.widen (k := 261) (n := 2100) (by omega) (by omega) ?_
          exact ret _ (gW cI h0 h1 h2 h3 h4 h5 h6 h1 h2 n wn t tc sc uw c1 c2 (upN s p (s p ^^^ 3 * 2 ^ (k6 * 2))) ow hf tf ++ (sW cI cZ cS cW b0 b1 b2 b3 b4 n m tn sl bg ht rs (upN sn p (upN (sn p) k6 false)) rw wy o)) _ _ _ _ dL_act_209 rfl ⟨rfl, _, _, _, _, _, _, _, _, _, _, _, _, _, _, _, _, _, _, _, _, _, _, _, _, _, _, rfl, R2, (by omega), (by omega)⟩ hP hD hS
        · refine lv_iconst (v := nI 1) hx hb dL_act_177 (by decide) ?_
          refine lv_goto (tgt := 182) hx hb dL_act_178 (by decide) ?_
          refine W_i (y := bI true) rfl ?_
          refine rz_st (X := gW cI h0 h1 h2 h3 h4 h5 h6 h1 h2 n wn t tc sc uw c1 c2 s ow hf tf) (T := [(b0, .inr (2, [.int (nI n), .int (nI tn), .int (nI sl), .int (bI bg), .ref b1, .ref b2, .ref b3, .ref b4])), (b1, .inl (cI, n, .inl (fun k => nI (ht k)))), (b2, eQ cS n rs), (b3, eQ cW m rw), (b4, .inl (cZ, m, .inl (fun k => bI (o k))))]) (B := rB (fun w0 => eI cI n (wy w0)) rw m) (sn := sn) (n := n) (ad := rs) (m2 := n) hx hb hK hP hD hS 1 rfl (w := p) (j := k6) (v := true) (by omega) (by omega) (by omega) dL_act_182 (fun H locs hP hD hS => ?_)
          have hP : va_P (dC, dI) vwCl (gW cI h0 h1 h2 h3 h4 h5 h6 h1 h2 n wn t tc sc uw c1 c2 s ow hf tf ++ (sW cI cZ cS cW b0 b1 b2 b3 b4 n m tn sl bg ht rs (upN sn p (upN (sn p) k6 true)) rw wy o)) H := hP
          have hD : va_D A (gW cI h0 h1 h2 h3 h4 h5 h6 h1 h2 n wn t tc sc uw c1 c2 s ow hf tf ++ (sW cI cZ cS cW b0 b1 b2 b3 b4 n m tn sl bg ht rs (upN sn p (upN (sn p) k6 true)) rw wy o)) := hD
          have R2 := R.away hj hk (fun e9 => hne c_150 e9.symm)
          rw [c_174] at R2
          obtain ⟨hn, hw, hs2, hc1, hb1⟩ := R2.inv
          refine lv_aload_n hx hb dL_act_183 rfl (lv_at hl 3 rfl) ?_
          refine lv_iload hx hb dL_act_184 (lv_at hl 1 rfl) ?_
          refine lv_iload hx hb dL_act_186 (lv_at hl 0 rfl) ?_
          refine call_ViF (As := [.int (nI p), .int (nI k6)]) (rest := []) (wr := sW cI cZ cS cW b0 b1 b2 b3 b4 n m tn sl bg ht rs (upN sn p (upN (sn p) k6 true)) rw wy o) S (m_X1_turnAway h0 h1 h2 h3 h4 h5 h6 n wn t tc sc uw c1 c2 s ow hf tf p k6 (by omega) (by omega) (fun e9 => hne c_150 e9.symm) hn hw hs hc1 hb1) g_L_X1_turnAway hd_X1_turnAway ⟨Nat.le_of_ble_eq_true rfl, Nat.le_of_ble_eq_true rfl⟩ ⟨by show _ ≤ 261; omega, by show _ ≤ 2100; omega⟩ hP hD hK hS hZ 0 rfl rfl hl.1 rfl (Nat.le_of_ble_eq_true rfl) dL_act_188 (fun r u H locs hq hP hD hS => ?_)
          obtain ⟨rfl, rfl⟩ := hq
          have hP : va_P (dC, dI) vwCl (gW cI h0 h1 h2 h3 h4 h5 h6 h1 h2 n wn t tc sc uw c1 c2 (upN s p (s p ^^^ 3 * 2 ^ (k6 * 2))) ow hf tf ++ (sW cI cZ cS cW b0 b1 b2 b3 b4 n m tn sl bg ht rs (upN sn p (upN (sn p) k6 true)) rw wy o)) H := hP
          have hD : va_D A (gW cI h0 h1 h2 h3 h4 h5 h6 h1 h2 n wn t tc sc uw c1 c2 (upN s p (s p ^^^ 3 * 2 ^ (k6 * 2))) ow hf tf ++ (sW cI cZ cS cW b0 b1 b2 b3 b4 n m tn sl bg ht rs (upN sn p (upN (sn p) k6 true)) rw wy o)) := hD
          refine lv_aload_n hx hb dL_act_191 rfl (lv_at hl 4 rfl) ?_
          refine va_get (D := (dC, dI)) (ci := 2) (v := .ref b2) (C := RX2) (T := TX2) (N := 8) hx hb hts inX2 hown hK hP 7 rfl rfl 5 (by decide) (hts _ q_fl_L_40) (fun _ h9 => h9) rfl dL_act_192 ?_
          refine lv_iload hx hb dL_act_195 (lv_at hl 1 rfl) ?_
          refine aa_ld hx hb hK hP 9 2 rfl rfl (j := p) (by omega) (by omega) dL_act_197 ?_
          refine lv_iload hx hb dL_act_198 (lv_at hl 0 rfl) ?_
          refine za_ld hx hb hK (hP.one (List.mem_append_right _ (List.mem_append_right _ (List.mem_append_left _ (rB_mem (by omega)))))) 0 1 rfl rfl (j := k6) (by omega) (by omega) dL_act_200 ?_
          refine icB_ne (tgt := 208) hx hb dL_act_201 (by decide) (fun c_201 => absurd c_201 (fun e9 => e9 (R2.gx.see hj hk))) (fun c_201 => ?_)
          refine lv_iconst (v := nI 1) hx hb dL_act_204 (by decide) ?_
          refine lv_goto (tgt := 209) hx hb dL_act_205 (by decide) ?_
          refine W.widen (k := 261) (n := 2100) (by omega) (by omega) ?_
          exact ret _ (gW cI h0 h1 h2 h3 h4 h5 h6 h1 h2 n wn t tc sc uw c1 c2 (upN s p (s p ^^^ 3 * 2 ^ (k6 * 2))) ow hf tf ++ (sW cI cZ cS cW b0 b1 b2 b3 b4 n m tn sl bg ht rs (upN sn p (upN (sn p) k6 true)) rw wy o)) _ _ _ _ dL_act_209 rfl ⟨rfl, _, _, _, _, _, _, _, _, _, _, _, _, _, _, _, _, _, _, _, _, _, _, _, _, _, _, rfl, R2, (by omega), (by omega)⟩ hP hD hS
      · refine lv_iconst (v := nI 1) hx hb dL_act_153 (by decide) ?_
        refine W.widen (k := 261) (n := 2100) (by omega) (by omega) ?_
        exact ret _ (gW cI h0 h1 h2 h3 h4 h5 h6 h1 h2 n wn t tc sc uw c1 c2 s ow hf tf ++ (sW cI cZ cS cW b0 b1 b2 b3 b4 n m tn sl bg ht rs sn rw wy o)) _ _ _ _ dL_act_154 rfl ⟨rfl, _, _, _, _, _, _, _, _, _, _, _, _, _, _, _, _, _, _, _, _, _, _, _, _, _, _, rfl, R, (by omega), (by omega)⟩ hP hD hS
    · refine lv_tableIn (off := 106) (tgt := 210) hx hb dL_act_104 (by subst h9; decide) (by subst h9; decide) (by subst h9; decide) (by decide) ?_
      refine lv_iload_n hx hb dL_act_210 rfl (lv_at hl 2 rfl) ?_
      refine lv_iconst (v := nI 1) hx hb dL_act_211 (by decide) ?_
      refine icN_ne (tgt := 217) hx hb dL_act_212 (by decide) (by omega) (by omega) (fun c_212 => ?_) (fun c_212 => ?_)
      · refine lv_aload_n hx hb dL_act_217 rfl (lv_at hl 4 rfl) ?_
        refine lv_iload hx hb dL_act_218 (lv_at hl 1 rfl) ?_
        refine lv_iload hx hb dL_act_220 (lv_at hl 0 rfl) ?_
        refine call_VgV (As := [.int (nI p), .int (nI k6)]) (rest := []) (wr := gW cI h0 h1 h2 h3 h4 h5 h6 h1 h2 n wn t tc sc uw c1 c2 s ow hf tf) (wc := sW cI cZ cS cW b0 b1 b2 b3 b4 n m tn sl bg ht rs sn rw wy o) S (m_X2_borrow b0 b1 b2 b3 b4 n m tn sl bg ht rs sn rw wy o p k6 hn (by omega) (by omega) (by omega) (fun e9 => hne c_212 e9.symm) H.size) g_L_X2_borrow hd_X2_borrow ⟨Nat.le_of_ble_eq_true rfl, Nat.le_of_ble_eq_true rfl⟩ ⟨by show _ ≤ 261; omega, by show _ ≤ 2100; omega⟩ hP hD hK hS hA hZ 0 rfl rfl hl.1 rfl (Nat.le_of_ble_eq_true rfl) dL_act_222 (fun u H locs hq hP hD hS => ?_)
        obtain ⟨wy2, hwy2, rfl⟩ := hq
        have hP : va_P (dC, dI) vwCl (gW cI h0 h1 h2 h3 h4 h5 h6 h1 h2 n wn t tc sc uw c1 c2 s ow hf tf ++ (sW cI cZ cS cW b0 b1 b2 b3 b4 n m tn sl true (upN (upN ht p (ht k6)) k6 (ht p)) rs sn rw wy2 o)) H := hP
        have hD : va_D A (gW cI h0 h1 h2 h3 h4 h5 h6 h1 h2 n wn t tc sc uw c1 c2 s ow hf tf ++ (sW cI cZ cS cW b0 b1 b2 b3 b4 n m tn sl true (upN (upN ht p (ht k6)) k6 (ht p)) rs sn rw wy2 o)) := hD
        refine lv_aload_n hx hb dL_act_225 rfl (lv_at hl 3 rfl) ?_
        refine lv_iload hx hb dL_act_226 (lv_at hl 1 rfl) ?_
        refine lv_iload hx hb dL_act_228 (lv_at hl 0 rfl) ?_
        refine call_ViF (As := [.int (nI p), .int (nI k6)]) (rest := []) (wr := sW cI cZ cS cW b0 b1 b2 b3 b4 n m tn sl true (upN (upN ht p (ht k6)) k6 (ht p)) rs sn rw wy2 o) S (m_X1_borrow h0 h1 h2 h3 h4 h5 h6 n wn t tc sc uw c1 c2 s ow hf tf p k6 (by omega) (by omega) (fun e9 => hne c_212 e9.symm) hn hw hs hc1 hb1) g_L_X1_borrow hd_X1_borrow ⟨Nat.le_of_ble_eq_true rfl, Nat.le_of_ble_eq_true rfl⟩ ⟨by show _ ≤ 261; omega, by show _ ≤ 2100; omega⟩ hP hD hK hS hZ 0 rfl rfl hl.1 rfl (Nat.le_of_ble_eq_true rfl) dL_act_230 (fun r u H locs hq hP hD hS => ?_)
        obtain ⟨rfl, g9, rfl, hg9⟩ := hq
        have hP : va_P (dC, dI) vwCl (gW cI h0 h1 h2 h3 h4 h5 h6 h1 h2 n (xch wn p k6) t tc sc true c1 c2 s ow g9 tf ++ (sW cI cZ cS cW b0 b1 b2 b3 b4 n m tn sl true (upN (upN ht p (ht k6)) k6 (ht p)) rs sn rw wy2 o)) H := hP
        have hD : va_D A (gW cI h0 h1 h2 h3 h4 h5 h6 h1 h2 n (xch wn p k6) t tc sc true c1 c2 s ow g9 tf ++ (sW cI cZ cS cW b0 b1 b2 b3 b4 n m tn sl true (upN (upN ht p (ht k6)) k6 (ht p)) rs sn rw wy2 o)) := hD
        refine lv_aload_n hx hb dL_act_233 rfl (lv_at hl 4 rfl) ?_
        refine va_get (D := (dC, dI)) (ci := 2) (v := .ref b1) (C := RX2) (T := TX2) (N := 8) hx hb hts inX2 hown hK hP 7 rfl rfl 4 (by decide) (hts _ q_fl_L_54) (fun _ h9 => h9) rfl dL_act_234 ?_
        refine lv_iload hx hb dL_act_237 (lv_at hl 1 rfl) ?_
        refine ia_ld hx hb hK hP 8 0 rfl rfl (j := p) (by omega) (by omega) dL_act_239 ?_
        refine icN_ne (tgt := 247) hx hb dL_act_240 (by decide) (lt_31 (Nat.lt_trans (qd_lt _ _) (by omega))) (by rw [← R.borrowA hj hk (fun e9 => hne c_212 e9.symm)]; exact lt_31 (Nat.lt_trans (qd_lt _ _) (by omega))) (fun c_240 => absurd c_240 (fun e9 => e9 (R.borrowA hj hk (fun e9 => hne c_212 e9.symm)))) (fun c_240 => ?_)
        refine lv_iconst (v := nI 1) hx hb dL_act_243 (by decide) ?_
        refine lv_goto (tgt := 248) hx hb dL_act_244 (by decide) ?_
        refine W.widen (k := 261) (n := 2100) (by omega) (by omega) ?_
        exact ret _ (gW cI h0 h1 h2 h3 h4 h5 h6 h1 h2 n (xch wn p k6) t tc sc true c1 c2 s ow g9 tf ++ (sW cI cZ cS cW b0 b1 b2 b3 b4 n m tn sl true (upN (upN ht p (ht k6)) k6 (ht p)) rs sn rw wy2 o)) _ _ _ _ dL_act_248 rfl ⟨rfl, _, _, _, _, _, _, _, _, _, _, _, _, _, _, _, _, _, _, _, _, _, _, _, _, _, _, rfl, R.borrow hj hk (fun e9 => hne c_212 e9.symm) hg9 hwy2, (by omega), (by omega)⟩ hP hD hS
      · refine lv_iconst (v := nI 1) hx hb dL_act_215 (by decide) ?_
        refine W.widen (k := 261) (n := 2100) (by omega) (by omega) ?_
        exact ret _ (gW cI h0 h1 h2 h3 h4 h5 h6 h1 h2 n wn t tc sc uw c1 c2 s ow hf tf ++ (sW cI cZ cS cW b0 b1 b2 b3 b4 n m tn sl bg ht rs sn rw wy o)) _ _ _ _ dL_act_216 rfl ⟨rfl, _, _, _, _, _, _, _, _, _, _, _, _, _, _, _, _, _, _, _, _, _, _, _, _, _, _, rfl, R, (by omega), (by omega)⟩ hP hD hS
    · refine lv_tableIn (off := 145) (tgt := 249) hx hb dL_act_104 (by rcases h9 with rfl | rfl <;> decide) (by rcases h9 with rfl | rfl <;> decide) (by rcases h9 with rfl | rfl <;> decide) (by decide) ?_
      refine lv_iload_n hx hb dL_act_249 rfl (lv_at hl 5 rfl) ?_
      refine lv_iconst (v := nI 4) hx hb dL_act_250 (by decide) ?_
      refine lv_ishr hx hb dL_act_251 ?_
      refine W_i (y := (x >>> (nI 4 &&& 31))) (rfl) ?_
      refine lv_iconst (v := nI 3) hx hb dL_act_252 (by decide) ?_
      refine call_Sp (As := [.int (x >>> (nI 4 &&& 31)), .int (nI 3)]) (rest := []) S (m_L_below (x >>> (nI 4 &&& 31)) 3 (by omega) (by omega)) g_L_L_below hd_L_below ⟨Nat.le_of_ble_eq_true rfl, Nat.le_of_ble_eq_true rfl⟩ ⟨by show _ ≤ 261; omega, by show _ ≤ 2100; omega⟩ hP hD hK hS hZ [] rfl (by decide) hl.1 rfl (Nat.le_of_ble_eq_true rfl) dL_act_253 (fun r H locs hq hP hS => ?_)
      obtain ⟨co, hco, rfl⟩ := hq
      refine lv_istore (lv' := [(7, .int (nI co)), (6, .int (nI k6)), (5, .int (nI p)), (3, .int (nI n)), (0, .ref h0), (1, .ref b0), (2, .int x)]) hx hb dL_act_256 hl (by decide) rfl (fun ls hl => ?_)
      refine lv_aload_n hx hb dL_act_258 rfl (lv_at hl 5 rfl) ?_
      refine lv_aload_n hx hb dL_act_259 rfl (lv_at hl 5 rfl) ?_
      refine va_get (D := (dC, dI)) (ci := 2) (v := .ref b1) (C := RX2) (T := TX2) (N := 8) hx hb hts inX2 hown hK hP 7 rfl rfl 4 (by decide) (hts _ q_fl_L_54) (fun _ h9 => h9) rfl dL_act_260 ?_
      refine lv_iload hx hb dL_act_263 (lv_at hl 0 rfl) ?_
      refine call_VpS (As := [.ref b1, .int (nI co)]) (rest := []) S (m_X2_have b0 b1 b2 b3 b4 n m tn sl bg ht rs sn rw wy o b1 co ht hn (List.mem_append_left _ (List.mem_cons_of_mem _ List.mem_cons_self)) hht (by omega)) g_L_X2_have hd_X2_have ⟨Nat.le_of_ble_eq_true rfl, Nat.le_of_ble_eq_true rfl⟩ ⟨by show _ ≤ 261; omega, by show _ ≤ 2100; omega⟩ hP hD hK hS hZ (List.sublist_append_right _ _) 0 rfl rfl hl.1 rfl (Nat.le_of_ble_eq_true rfl) dL_act_265 (fun r H locs hq hP hS => ?_)
      obtain rfl := hq
      refine lv_istore (lv' := [(8, .int (nI (havS ht co n))), (7, .int (nI co)), (6, .int (nI k6)), (5, .int (nI p)), (3, .int (nI n)), (0, .ref h0), (1, .ref b0), (2, .int x)]) hx hb dL_act_268 hl (by decide) rfl (fun ls hl => ?_)
      refine lv_iload_n hx hb dL_act_270 rfl (lv_at hl 7 rfl) ?_
      refine lv_bipush (v := nI 6) hx hb dL_act_271 (by decide) ?_
      refine lv_ishr hx hb dL_act_273 ?_
      refine W_i (y := (x >>> (nI 6 &&& 31))) (rfl) ?_
      refine lv_iload hx hb dL_act_274 (lv_at hl 0 rfl) ?_
      refine lv_iconst (v := nI 1) hx hb dL_act_276 (by decide) ?_
      refine lv_iadd hx hb dL_act_277 ?_
      refine W_i (y := nI ((havS ht co n) + 1)) (nI_add _ _) ?_
      refine call_Sp (As := [.int (x >>> (nI 6 &&& 31)), .int (nI ((havS ht co n) + 1))]) (rest := []) S (m_L_below (x >>> (nI 6 &&& 31)) ((havS ht co n) + 1) (by omega) (by have := havS_le ht co n; omega)) g_L_L_below hd_L_below ⟨Nat.le_of_ble_eq_true rfl, Nat.le_of_ble_eq_true rfl⟩ ⟨by show _ ≤ 261; omega, by show _ ≤ 2100; omega⟩ hP hD hK hS hZ [] rfl (by decide) hl.1 rfl (Nat.le_of_ble_eq_true rfl) dL_act_278 (fun r H locs hq hP hS => ?_)
      obtain ⟨j9, hj9, rfl⟩ := hq
      refine lv_istore (lv' := [(9, .int (nI j9)), (8, .int (nI (havS ht co n))), (7, .int (nI co)), (6, .int (nI k6)), (5, .int (nI p)), (3, .int (nI n)), (0, .ref h0), (1, .ref b0), (2, .int x)]) hx hb dL_act_281 hl (by decide) rfl (fun ls hl => ?_)
      refine lv_aload_n hx hb dL_act_283 rfl (lv_at hl 6 rfl) ?_
      refine lv_iload hx hb dL_act_284 (lv_at hl 2 rfl) ?_
      refine lv_iload hx hb dL_act_286 (lv_at hl 0 rfl) ?_
      refine call_ViF (As := [.int (nI co), .int (nI j9)]) (rest := []) (wr := sW cI cZ cS cW b0 b1 b2 b3 b4 n m tn sl bg ht rs sn rw wy o) S (m_X1_sayAtLeast h0 h1 h2 h3 h4 h5 h6 n wn t tc sc uw c1 c2 s ow hf tf co j9 (by omega) (by have := havS_le ht co n; omega) (by rw [R.hat]; omega) hn hw hs hc1 hb1) g_L_X1_sayAtLeast hd_X1_sayAtLeast ⟨Nat.le_of_ble_eq_true rfl, Nat.le_of_ble_eq_true rfl⟩ ⟨by show _ ≤ 261; omega, by show _ ≤ 2100; omega⟩ hP hD hK hS hZ 0 rfl rfl hl.1 rfl (Nat.le_of_ble_eq_true rfl) dL_act_288 (fun r u H locs hq hP hD hS => ?_)
      obtain ⟨k9, g9, rfl, rfl, hg9⟩ := hq
      have hP : va_P (dC, dI) vwCl (gW cI h0 h1 h2 h3 h4 h5 h6 h1 h2 n wn t tc sc true k9 c2 s ow g9 tf ++ (sW cI cZ cS cW b0 b1 b2 b3 b4 n m tn sl bg ht rs sn rw wy o)) H := hP
      have hD : va_D A (gW cI h0 h1 h2 h3 h4 h5 h6 h1 h2 n wn t tc sc true k9 c2 s ow g9 tf ++ (sW cI cZ cS cW b0 b1 b2 b3 b4 n m tn sl bg ht rs sn rw wy o)) := hD
      refine lv_aload_n hx hb dL_act_291 rfl (lv_at hl 7 rfl) ?_
      refine lv_iload hx hb dL_act_292 (lv_at hl 2 rfl) ?_
      refine lv_iload hx hb dL_act_294 (lv_at hl 0 rfl) ?_
      refine lv_iconst (v := nI 1) hx hb dL_act_296 (by decide) ?_
      refine W_i (y := bI true) (rfl) ?_
      refine call_VgI (As := [.int (nI co), .int (nI j9), .int (bI true)]) (rest := [.int (nI k9)]) (wr := gW cI h0 h1 h2 h3 h4 h5 h6 h1 h2 n wn t tc sc true k9 c2 s ow g9 tf) (wc := sW cI cZ cS cW b0 b1 b2 b3 b4 n m tn sl bg ht rs sn rw wy o) S (m_X2_say b0 b1 b2 b3 b4 n m tn sl bg ht rs sn rw wy o co j9 true hn (by omega) (by omega) (by have := havS_le ht co n; omega) hwy H.size) g_L_X2_say hd_X2_say ⟨Nat.le_of_ble_eq_true rfl, Nat.le_of_ble_eq_true rfl⟩ ⟨by show _ ≤ 261; omega, by show _ ≤ 2100; omega⟩ hP hD hK hS hA hZ 0 rfl rfl hl.1 rfl (Nat.le_of_ble_eq_true rfl) dL_act_297 (fun r u H locs hq hP hD hS => ?_)
      obtain ⟨o2, rfl, ho2, rfl⟩ := hq
      have hP : va_P (dC, dI) vwCl (gW cI h0 h1 h2 h3 h4 h5 h6 h1 h2 n wn t tc sc true k9 c2 s ow g9 tf ++ (sW cI cZ cS cW b0 b1 b2 b3 b4 n m tn sl true ht rs sn rw wy o2)) H := hP
      have hD : va_D A (gW cI h0 h1 h2 h3 h4 h5 h6 h1 h2 n wn t tc sc true k9 c2 s ow g9 tf ++ (sW cI cZ cS cW b0 b1 b2 b3 b4 n m tn sl true ht rs sn rw wy o2)) := hD
      have R2 := R.say (o2 := o2) hg9 (fun w hw => by rw [ho2 w hw, R.isL hw]) (by have h9 := R.hat co; have h8 := havS_le ht co n; simp [h9]; omega)
      refine icN_ne (tgt := 307) hx hb dL_act_300 (by decide) (by have := R2.inv.2.2.2.1; omega) (by have := cntP_le o2 m; omega) (fun c_300 => absurd c_300 (fun e9 => e9 R2.c1e)) (fun c_300 => ?_)
      refine lv_iconst (v := nI 1) hx hb dL_act_303 (by decide) ?_
      refine lv_goto (tgt := 308) hx hb dL_act_304 (by decide) ?_
      refine W.widen (k := 261) (n := 2100) (by omega) (by omega) ?_
      exact ret _ (gW cI h0 h1 h2 h3 h4 h5 h6 h1 h2 n wn t tc sc true k9 c2 s ow g9 tf ++ (sW cI cZ cS cW b0 b1 b2 b3 b4 n m tn sl true ht rs sn rw wy o2)) _ _ _ _ dL_act_308 rfl ⟨rfl, _, _, _, _, _, _, _, _, _, _, _, _, _, _, _, _, _, _, _, _, _, _, _, _, _, _, rfl, R2, (by omega), (by omega)⟩ hP hD hS
    · refine lv_tableIn (off := 205) (tgt := 309) hx hb dL_act_104 (by subst h9; decide) (by subst h9; decide) (by subst h9; decide) (by decide) ?_
      refine lv_iload_n hx hb dL_act_309 rfl (lv_at hl 5 rfl) ?_
      refine lv_iconst (v := nI 4) hx hb dL_act_310 (by decide) ?_
      refine lv_ishr hx hb dL_act_311 ?_
      refine W_i (y := (x >>> (nI 4 &&& 31))) (rfl) ?_
      refine lv_iconst (v := nI 3) hx hb dL_act_312 (by decide) ?_
      refine call_Sp (As := [.int (x >>> (nI 4 &&& 31)), .int (nI 3)]) (rest := []) S (m_L_below (x >>> (nI 4 &&& 31)) 3 (by omega) (by omega)) g_L_L_below hd_L_below ⟨Nat.le_of_ble_eq_true rfl, Nat.le_of_ble_eq_true rfl⟩ ⟨by show _ ≤ 261; omega, by show _ ≤ 2100; omega⟩ hP hD hK hS hZ [] rfl (by decide) hl.1 rfl (Nat.le_of_ble_eq_true rfl) dL_act_313 (fun r H locs hq hP hS => ?_)
      obtain ⟨co, hco, rfl⟩ := hq
      refine lv_istore (lv' := [(10, .int (nI co)), (6, .int (nI k6)), (5, .int (nI p)), (3, .int (nI n)), (0, .ref h0), (1, .ref b0), (2, .int x)]) hx hb dL_act_316 hl (by decide) rfl (fun ls hl => ?_)
      refine lv_aload_n hx hb dL_act_318 rfl (lv_at hl 5 rfl) ?_
      refine lv_aload_n hx hb dL_act_319 rfl (lv_at hl 5 rfl) ?_
      refine va_get (D := (dC, dI)) (ci := 2) (v := .ref b1) (C := RX2) (T := TX2) (N := 8) hx hb hts inX2 hown hK hP 7 rfl rfl 4 (by decide) (hts _ q_fl_L_54) (fun _ h9 => h9) rfl dL_act_320 ?_
      refine lv_iload hx hb dL_act_323 (lv_at hl 0 rfl) ?_
      refine call_VpS (As := [.ref b1, .int (nI co)]) (rest := []) S (m_X2_have b0 b1 b2 b3 b4 n m tn sl bg ht rs sn rw wy o b1 co ht hn (List.mem_append_left _ (List.mem_cons_of_mem _ List.mem_cons_self)) hht (by omega)) g_L_X2_have hd_X2_have ⟨Nat.le_of_ble_eq_true rfl, Nat.le_of_ble_eq_true rfl⟩ ⟨by show _ ≤ 261; omega, by show _ ≤ 2100; omega⟩ hP hD hK hS hZ (List.sublist_append_right _ _) 0 rfl rfl hl.1 rfl (Nat.le_of_ble_eq_true rfl) dL_act_325 (fun r H locs hq hP hS => ?_)
      obtain rfl := hq
      refine lv_iload_n hx hb dL_act_328 rfl (lv_at hl 6 rfl) ?_
      refine lv_bipush (v := nI 6) hx hb dL_act_329 (by decide) ?_
      refine lv_ishr hx hb dL_act_331 ?_
      refine W_i (y := (x >>> (nI 6 &&& 31))) (rfl) ?_
      refine lv_iconst (v := nI 2) hx hb dL_act_332 (by decide) ?_
      refine call_Sp (As := [.int (x >>> (nI 6 &&& 31)), .int (nI 2)]) (rest := [.int (nI (havS ht co n))]) S (m_L_below (x >>> (nI 6 &&& 31)) 2 (by omega) (by omega)) g_L_L_below hd_L_below ⟨Nat.le_of_ble_eq_true rfl, Nat.le_of_ble_eq_true rfl⟩ ⟨by show _ ≤ 261; omega, by show _ ≤ 2100; omega⟩ hP hD hK hS hZ [] rfl (by decide) hl.1 rfl (Nat.le_of_ble_eq_true rfl) dL_act_333 (fun r H locs hq hP hS => ?_)
      obtain ⟨j9, hj9, rfl⟩ := hq
      refine lv_iadd hx hb dL_act_336 ?_
      refine W_i (y := nI ((havS ht co n) + j9)) (nI_add _ _) ?_
      refine lv_istore (lv' := [(11, .int (nI ((havS ht co n) + j9))), (10, .int (nI co)), (6, .int (nI k6)), (5, .int (nI p)), (3, .int (nI n)), (0, .ref h0), (1, .ref b0), (2, .int x)]) hx hb dL_act_337 hl (by decide) rfl (fun ls hl => ?_)
      refine lv_iload hx hb dL_act_339 (lv_at hl 0 rfl) ?_
      refine lv_iconst (v := nI 5) hx hb dL_act_341 (by decide) ?_
      refine icN_le (tgt := 347) hx hb dL_act_342 (by decide) (by have := havS_le ht co n; omega) (by omega) (fun c_342 => ?_) (fun c_342 => ?_)
      · refine lv_aload_n hx hb dL_act_347 rfl (lv_at hl 5 rfl) ?_
        refine lv_iload hx hb dL_act_348 (lv_at hl 1 rfl) ?_
        refine lv_iload hx hb dL_act_350 (lv_at hl 0 rfl) ?_
        refine call_ViF (As := [.int (nI co), .int (nI ((havS ht co n) + j9))]) (rest := []) (wr := sW cI cZ cS cW b0 b1 b2 b3 b4 n m tn sl bg ht rs sn rw wy o) S (m_X1_sayAtMost h0 h1 h2 h3 h4 h5 h6 n wn t tc sc uw c1 c2 s ow hf tf co ((havS ht co n) + j9) (by omega) (by omega) (by rw [R.hat]; omega) hn hw hs hc1 hb1) g_L_X1_sayAtMost hd_X1_sayAtMost ⟨Nat.le_of_ble_eq_true rfl, Nat.le_of_ble_eq_true rfl⟩ ⟨by show _ ≤ 261; omega, by show _ ≤ 2100; omega⟩ hP hD hK hS hZ 0 rfl rfl hl.1 rfl (Nat.le_of_ble_eq_true rfl) dL_act_352 (fun r u H locs hq hP hD hS => ?_)
        obtain ⟨k9, g9, rfl, rfl, hg9⟩ := hq
        have hP : va_P (dC, dI) vwCl (gW cI h0 h1 h2 h3 h4 h5 h6 h1 h2 n wn t tc sc true k9 c2 s ow g9 tf ++ (sW cI cZ cS cW b0 b1 b2 b3 b4 n m tn sl bg ht rs sn rw wy o)) H := hP
        have hD : va_D A (gW cI h0 h1 h2 h3 h4 h5 h6 h1 h2 n wn t tc sc true k9 c2 s ow g9 tf ++ (sW cI cZ cS cW b0 b1 b2 b3 b4 n m tn sl bg ht rs sn rw wy o)) := hD
        refine lv_aload_n hx hb dL_act_355 rfl (lv_at hl 6 rfl) ?_
        refine lv_iload hx hb dL_act_356 (lv_at hl 1 rfl) ?_
        refine lv_iload hx hb dL_act_358 (lv_at hl 0 rfl) ?_
        refine lv_iconst (v := nI 0) hx hb dL_act_360 (by decide) ?_
        refine W_i (y := bI false) (rfl) ?_
        refine call_VgI (As := [.int (nI co), .int (nI ((havS ht co n) + j9)), .int (bI false)]) (rest := [.int (nI k9)]) (wr := gW cI h0 h1 h2 h3 h4 h5 h6 h1 h2 n wn t tc sc true k9 c2 s ow g9 tf) (wc := sW cI cZ cS cW b0 b1 b2 b3 b4 n m tn sl bg ht rs sn rw wy o) S (m_X2_say b0 b1 b2 b3 b4 n m tn sl bg ht rs sn rw wy o co ((havS ht co n) + j9) false hn (by omega) (by omega) (by omega) hwy H.size) g_L_X2_say hd_X2_say ⟨Nat.le_of_ble_eq_true rfl, Nat.le_of_ble_eq_true rfl⟩ ⟨by show _ ≤ 261; omega, by show _ ≤ 2100; omega⟩ hP hD hK hS hA hZ 0 rfl rfl hl.1 rfl (Nat.le_of_ble_eq_true rfl) dL_act_361 (fun r u H locs hq hP hD hS => ?_)
        obtain ⟨o2, rfl, ho2, rfl⟩ := hq
        have hP : va_P (dC, dI) vwCl (gW cI h0 h1 h2 h3 h4 h5 h6 h1 h2 n wn t tc sc true k9 c2 s ow g9 tf ++ (sW cI cZ cS cW b0 b1 b2 b3 b4 n m tn sl true ht rs sn rw wy o2)) H := hP
        have hD : va_D A (gW cI h0 h1 h2 h3 h4 h5 h6 h1 h2 n wn t tc sc true k9 c2 s ow g9 tf ++ (sW cI cZ cS cW b0 b1 b2 b3 b4 n m tn sl true ht rs sn rw wy o2)) := hD
        have R2 := R.say (o2 := o2) hg9 (fun w hw => by rw [ho2 w hw, R.isM hw]) (by have h9 := R.hat co; simp [h9])
        refine icN_ne (tgt := 371) hx hb dL_act_364 (by decide) (by have := R2.inv.2.2.2.1; omega) (by have := cntP_le o2 m; omega) (fun c_364 => absurd c_364 (fun e9 => e9 R2.c1e)) (fun c_364 => ?_)
        refine lv_iconst (v := nI 1) hx hb dL_act_367 (by decide) ?_
        refine lv_goto (tgt := 372) hx hb dL_act_368 (by decide) ?_
        refine W.widen (k := 261) (n := 2100) (by omega) (by omega) ?_
        exact ret _ (gW cI h0 h1 h2 h3 h4 h5 h6 h1 h2 n wn t tc sc true k9 c2 s ow g9 tf ++ (sW cI cZ cS cW b0 b1 b2 b3 b4 n m tn sl true ht rs sn rw wy o2)) _ _ _ _ dL_act_372 rfl ⟨rfl, _, _, _, _, _, _, _, _, _, _, _, _, _, _, _, _, _, _, _, _, _, _, _, _, _, _, rfl, R2, (by omega), (by omega)⟩ hP hD hS
      · refine lv_iconst (v := nI 1) hx hb dL_act_345 (by decide) ?_
        refine W.widen (k := 261) (n := 2100) (by omega) (by omega) ?_
        exact ret _ (gW cI h0 h1 h2 h3 h4 h5 h6 h1 h2 n wn t tc sc uw c1 c2 s ow hf tf ++ (sW cI cZ cS cW b0 b1 b2 b3 b4 n m tn sl bg ht rs sn rw wy o)) _ _ _ _ dL_act_346 rfl ⟨rfl, _, _, _, _, _, _, _, _, _, _, _, _, _, _, _, _, _, _, _, _, _, _, _, _, _, _, rfl, R, (by omega), (by omega)⟩ hP hD hS
    · refine lv_tableIn (off := 269) (tgt := 373) hx hb dL_act_104 (by subst h9; decide) (by subst h9; decide) (by subst h9; decide) (by decide) ?_
      refine lv_iload_n hx hb dL_act_373 rfl (lv_at hl 5 rfl) ?_
      refine lv_iconst (v := nI 4) hx hb dL_act_374 (by decide) ?_
      refine call_Sp (As := [.int x, .int (nI 4)]) (rest := []) S (m_L_below x 4 (by omega) (by omega)) g_L_L_below hd_L_below ⟨Nat.le_of_ble_eq_true rfl, Nat.le_of_ble_eq_true rfl⟩ ⟨by show _ ≤ 261; omega, by show _ ≤ 2100; omega⟩ hP hD hK hS hZ [] rfl (by decide) hl.1 rfl (Nat.le_of_ble_eq_true rfl) dL_act_375 (fun r H locs hq hP hS => ?_)
      obtain ⟨j9, hj9, rfl⟩ := hq
      refine ifN_le (tgt := 383) hx hb dL_act_378 (by decide) (by omega) (fun c_378 => ?_) (fun c_378 => ?_)
      · refine lv_aload_n hx hb dL_act_383 rfl (lv_at hl 4 rfl) ?_
        have hP := hP.sl (u := gW cI h0 h1 h2 h3 h4 h5 h6 h1 h2 n wn t tc sc uw c1 c2 s ow hf tf ++ ([(b0, .inr (2, [.int (nI n), .int (nI tn), .int (nI sl), .int (bI bg), .ref b1, .ref b2, .ref b3, .ref b4])), (b1, .inl (cI, n, .inl (fun k => nI (ht k)))), (b2, eQ cS n rs)] ++ (rB (fun w0 => eZ cZ n (sn w0)) rs n))) (List.Sublist.append_left (List.Sublist.append (List.Sublist.cons₂ _ (List.Sublist.cons₂ _ (List.Sublist.cons₂ _ (List.nil_sublist _)))) (List.sublist_append_left _ _)) _)
        have hD := hD.sl (u := gW cI h0 h1 h2 h3 h4 h5 h6 h1 h2 n wn t tc sc uw c1 c2 s ow hf tf ++ ([(b0, .inr (2, [.int (nI n), .int (nI tn), .int (nI sl), .int (bI bg), .ref b1, .ref b2, .ref b3, .ref b4])), (b1, .inl (cI, n, .inl (fun k => nI (ht k)))), (b2, eQ cS n rs)] ++ (rB (fun w0 => eZ cZ n (sn w0)) rs n))) (List.Sublist.append_left (List.Sublist.append (List.Sublist.cons₂ _ (List.Sublist.cons₂ _ (List.Sublist.cons₂ _ (List.nil_sublist _)))) (List.sublist_append_left _ _)) _)
        have hP := hP.pm (all_pm (gW cI h0 h1 h2 h3 h4 h5 h6 h1 h2 n wn t tc sc uw c1 c2 s ow hf tf) ([(b0, .inr (2, [.int (nI n), .int (nI tn), .int (nI sl), .int (bI bg), .ref b1, .ref b2, .ref b3, .ref b4]))]) ([(b1, .inl (cI, n, .inl (fun k => nI (ht k)))), (b2, eQ cS n rs)] ++ (rB (fun w0 => eZ cZ n (sn w0)) rs n)))
        have hD := hD.pm (all_pm (gW cI h0 h1 h2 h3 h4 h5 h6 h1 h2 n wn t tc sc uw c1 c2 s ow hf tf) ([(b0, .inr (2, [.int (nI n), .int (nI tn), .int (nI sl), .int (bI bg), .ref b1, .ref b2, .ref b3, .ref b4]))]) ([(b1, .inl (cI, n, .inl (fun k => nI (ht k)))), (b2, eQ cS n rs)] ++ (rB (fun w0 => eZ cZ n (sn w0)) rs n)))
        refine call_VgV (As := []) (rest := []) (wr := (gW cI h0 h1 h2 h3 h4 h5 h6 h1 h2 n wn t tc sc uw c1 c2 s ow hf tf) ++ ([(b1, .inl (cI, n, .inl (fun k => nI (ht k)))), (b2, eQ cS n rs)] ++ (rB (fun w0 => eZ cZ n (sn w0)) rs n))) (wc := [(b0, .inr (2, [.int (nI n), .int (nI tn), .int (nI sl), .int (bI bg), .ref b1, .ref b2, .ref b3, .ref b4]))]) S (m_X2_all b0 n tn sl bg (.ref b1) (.ref b2) (.ref b3) (.ref b4) hn H.size) g_L_X2_all hd_X2_all ⟨Nat.le_of_ble_eq_true rfl, Nat.le_of_ble_eq_true rfl⟩ ⟨by show _ ≤ 261; omega, by show _ ≤ 2100; omega⟩ hP hD hK hS hA hZ 0 rfl rfl hl.1 rfl (Nat.le_of_ble_eq_true rfl) dL_act_384 (fun u H locs hq hP hD hS => ?_)
        obtain ⟨d3, d4, rw2, wy2, o2, hwy2, ho2, rfl⟩ := hq
        have hP := hP.pm (all_pm2 (gW cI h0 h1 h2 h3 h4 h5 h6 h1 h2 n wn t tc sc uw c1 c2 s ow hf tf) ([(b1, .inl (cI, n, .inl (fun k => nI (ht k)))), (b2, eQ cS n rs)]) (rB (fun w0 => eZ cZ n (sn w0)) rs n) ([(b0, .inr (2, [.int (nI n), .int (nI tn), .int (nI sl), .int (bI bg), .ref b1, .ref b2, .ref d3, .ref d4])), (d3, eQ cW (3 ^ n) rw2), (d4, .inl (cZ, (3 ^ n), .inl (fun k => bI (o2 k))))]) (rB (fun w0 => eI cI n (wy2 w0)) rw2 (3 ^ n)))
        have hD := hD.pm (all_pm2 (gW cI h0 h1 h2 h3 h4 h5 h6 h1 h2 n wn t tc sc uw c1 c2 s ow hf tf) ([(b1, .inl (cI, n, .inl (fun k => nI (ht k)))), (b2, eQ cS n rs)]) (rB (fun w0 => eZ cZ n (sn w0)) rs n) ([(b0, .inr (2, [.int (nI n), .int (nI tn), .int (nI sl), .int (bI bg), .ref b1, .ref b2, .ref d3, .ref d4])), (d3, eQ cW (3 ^ n) rw2), (d4, .inl (cZ, (3 ^ n), .inl (fun k => bI (o2 k))))]) (rB (fun w0 => eI cI n (wy2 w0)) rw2 (3 ^ n)))
        have hP := hP.pm (ord_pm (gW cI h0 h1 h2 h3 h4 h5 h6 h1 h2 n wn t tc sc uw c1 c2 s ow hf tf) (rB (fun w0 => eZ cZ n (sn w0)) rs n ++ rB (fun w0 => eI cI n (wy2 w0)) rw2 (3 ^ n)) (a := (b0, .inr (2, [.int (nI n), .int (nI tn), .int (nI sl), .int (bI bg), .ref b1, .ref b2, .ref d3, .ref d4]))) (b := (d3, eQ cW (3 ^ n) rw2)) (c := (d4, .inl (cZ, (3 ^ n), .inl (fun k => bI (o2 k))))) (d := (b1, .inl (cI, n, .inl (fun k => nI (ht k))))) (e := (b2, eQ cS n rs)))
        have hD := hD.pm (ord_pm (gW cI h0 h1 h2 h3 h4 h5 h6 h1 h2 n wn t tc sc uw c1 c2 s ow hf tf) (rB (fun w0 => eZ cZ n (sn w0)) rs n ++ rB (fun w0 => eI cI n (wy2 w0)) rw2 (3 ^ n)) (a := (b0, .inr (2, [.int (nI n), .int (nI tn), .int (nI sl), .int (bI bg), .ref b1, .ref b2, .ref d3, .ref d4]))) (b := (d3, eQ cW (3 ^ n) rw2)) (c := (d4, .inl (cZ, (3 ^ n), .inl (fun k => bI (o2 k))))) (d := (b1, .inl (cI, n, .inl (fun k => nI (ht k))))) (e := (b2, eQ cS n rs)))
        have hP : va_P (dC, dI) vwCl (gW cI h0 h1 h2 h3 h4 h5 h6 h1 h2 n wn t tc sc uw c1 c2 s ow hf tf ++ (sW cI cZ cS cW b0 b1 b2 d3 d4 n (3 ^ n) tn sl bg ht rs sn rw2 wy2 o2)) H := hP
        have hD : va_D A (gW cI h0 h1 h2 h3 h4 h5 h6 h1 h2 n wn t tc sc uw c1 c2 s ow hf tf ++ (sW cI cZ cS cW b0 b1 b2 d3 d4 n (3 ^ n) tn sl bg ht rs sn rw2 wy2 o2)) := hD
        refine lv_aload_n hx hb dL_act_387 rfl (lv_at hl 4 rfl) ?_
        refine lv_iconst (v := nI 0) hx hb dL_act_388 (by decide) ?_
        refine va_put (D := (dC, dI)) (ci := 2) (v := .int (nI 0)) (ty := .int) (C := RX2) (T := TX2) (N := 8) hx hb hts inX2 tyX2 tyX2_ok nmX2 hown hK hP hD hS 7 rfl rfl 1 (by decide) (hts _ q_fl_L_75) (fun _ h9 => h9) rfl (by decide +kernel) rfl rfl (Nat.le_of_ble_eq_true rfl) dL_act_389 (fun H locs hP hD hS => ?_)
        have hP : va_P (dC, dI) vwCl (gW cI h0 h1 h2 h3 h4 h5 h6 h1 h2 n wn t tc sc uw c1 c2 s ow hf tf ++ (sW cI cZ cS cW b0 b1 b2 d3 d4 n (3 ^ n) 0 sl bg ht rs sn rw2 wy2 o2)) H := hP
        have hD : va_D A (gW cI h0 h1 h2 h3 h4 h5 h6 h1 h2 n wn t tc sc uw c1 c2 s ow hf tf ++ (sW cI cZ cS cW b0 b1 b2 d3 d4 n (3 ^ n) 0 sl bg ht rs sn rw2 wy2 o2)) := hD
        refine lv_aload_n hx hb dL_act_392 rfl (lv_at hl 4 rfl) ?_
        refine lv_iconst (v := nI 0) hx hb dL_act_393 (by decide) ?_
        refine va_put (D := (dC, dI)) (ci := 2) (v := .int (nI 0)) (ty := .int) (C := RX2) (T := TX2) (N := 8) hx hb hts inX2 tyX2 tyX2_ok nmX2 hown hK hP hD hS 7 rfl rfl 2 (by decide) (hts _ q_fl_L_78) (fun _ h9 => h9) rfl (by decide +kernel) rfl rfl (Nat.le_of_ble_eq_true rfl) dL_act_394 (fun H locs hP hD hS => ?_)
        have hP : va_P (dC, dI) vwCl (gW cI h0 h1 h2 h3 h4 h5 h6 h1 h2 n wn t tc sc uw c1 c2 s ow hf tf ++ (sW cI cZ cS cW b0 b1 b2 d3 d4 n (3 ^ n) 0 0 bg ht rs sn rw2 wy2 o2)) H := hP
        have hD : va_D A (gW cI h0 h1 h2 h3 h4 h5 h6 h1 h2 n wn t tc sc uw c1 c2 s ow hf tf ++ (sW cI cZ cS cW b0 b1 b2 d3 d4 n (3 ^ n) 0 0 bg ht rs sn rw2 wy2 o2)) := hD
        refine lv_aload_n hx hb dL_act_397 rfl (lv_at hl 4 rfl) ?_
        refine lv_iconst (v := nI 0) hx hb dL_act_398 (by decide) ?_
        refine W_i (y := bI false) rfl ?_
        refine va_put (D := (dC, dI)) (ci := 2) (v := .int (bI false)) (ty := .boolean) (C := RX2) (T := TX2) (N := 8) hx hb hts inX2 tyX2 tyX2_ok nmX2 hown hK hP hD hS 7 rfl rfl 3 (by decide) (hts _ q_fl_L_21) (fun _ h9 => h9) rfl (by decide +kernel) rfl rfl (Nat.le_of_ble_eq_true rfl) dL_act_399 (fun H locs hP hD hS => ?_)
        have hP : va_P (dC, dI) vwCl (gW cI h0 h1 h2 h3 h4 h5 h6 h1 h2 n wn t tc sc uw c1 c2 s ow hf tf ++ (sW cI cZ cS cW b0 b1 b2 d3 d4 n (3 ^ n) 0 0 false ht rs sn rw2 wy2 o2)) H := hP
        have hD : va_D A (gW cI h0 h1 h2 h3 h4 h5 h6 h1 h2 n wn t tc sc uw c1 c2 s ow hf tf ++ (sW cI cZ cS cW b0 b1 b2 d3 d4 n (3 ^ n) 0 0 false ht rs sn rw2 wy2 o2)) := hD
        refine lv_aload_n hx hb dL_act_402 rfl (lv_at hl 3 rfl) ?_
        refine call_ViF (As := []) (rest := []) (wr := sW cI cZ cS cW b0 b1 b2 d3 d4 n (3 ^ n) 0 0 false ht rs sn rw2 wy2 o2) S (m_X1_begin h0 h1 h2 h3 h4 h5 h6 n wn t tc sc uw c1 c2 s ow hf tf   hn hw hs hc1 hb1) g_L_X1_begin hd_X1_begin ⟨Nat.le_of_ble_eq_true rfl, Nat.le_of_ble_eq_true rfl⟩ ⟨by show _ ≤ 261; omega, by show _ ≤ 2100; omega⟩ hP hD hK hS hZ 0 rfl rfl hl.1 rfl (Nat.le_of_ble_eq_true rfl) dL_act_403 (fun r u H locs hq hP hD hS => ?_)
        obtain ⟨rfl, g9, rfl, hg9⟩ := hq
        have hP : va_P (dC, dI) vwCl (gW cI h0 h1 h2 h3 h4 h5 h6 h1 h2 n wn 0 0 0 false (3 ^ n) c2 s ow g9 tf ++ (sW cI cZ cS cW b0 b1 b2 d3 d4 n (3 ^ n) 0 0 false ht rs sn rw2 wy2 o2)) H := hP
        have hD : va_D A (gW cI h0 h1 h2 h3 h4 h5 h6 h1 h2 n wn 0 0 0 false (3 ^ n) c2 s ow g9 tf ++ (sW cI cZ cS cW b0 b1 b2 d3 d4 n (3 ^ n) 0 0 false ht rs sn rw2 wy2 o2)) := hD
        refine lv_aload_n hx hb dL_act_406 rfl (lv_at hl 4 rfl) ?_
        refine va_get (D := (dC, dI)) (ci := 2) (v := .ref d3) (C := RX2) (T := TX2) (N := 8) hx hb hts inX2 hown hK hP 7 rfl rfl 6 (by decide) (hts _ q_fl_L_85) (fun _ h9 => h9) rfl dL_act_407 ?_
        refine va_alen (v := nI (3 ^ n)) hx hb hK hP 10 3 rfl rfl rfl dL_act_410 ?_
        refine icN_ne (tgt := 418) hx hb dL_act_411 (by decide) (by have := p3_243 n hn; omega) (by have := p3_243 n hn; omega) (fun c_411 => absurd c_411 (fun e9 => e9 rfl)) (fun c_411 => ?_)
        refine lv_iconst (v := nI 1) hx hb dL_act_414 (by decide) ?_
        refine lv_goto (tgt := 419) hx hb dL_act_415 (by decide) ?_
        refine W.widen (k := 261) (n := 2100) (by omega) (by omega) ?_
        exact ret _ (gW cI h0 h1 h2 h3 h4 h5 h6 h1 h2 n wn 0 0 0 false (3 ^ n) c2 s ow g9 tf ++ (sW cI cZ cS cW b0 b1 b2 d3 d4 n (3 ^ n) 0 0 false ht rs sn rw2 wy2 o2)) _ _ _ _ dL_act_419 rfl ⟨rfl, _, _, _, _, _, _, _, _, _, _, _, _, _, _, _, _, _, _, _, _, _, _, _, _, _, _, rfl, R.begin hg9 hwy2 ho2, (by omega), (by omega)⟩ hP hD hS
      · refine lv_iconst (v := nI 1) hx hb dL_act_381 (by decide) ?_
        refine W.widen (k := 261) (n := 2100) (by omega) (by omega) ?_
        exact ret _ (gW cI h0 h1 h2 h3 h4 h5 h6 h1 h2 n wn t tc sc uw c1 c2 s ow hf tf ++ (sW cI cZ cS cW b0 b1 b2 b3 b4 n m tn sl bg ht rs sn rw wy o)) _ _ _ _ dL_act_382 rfl ⟨rfl, _, _, _, _, _, _, _, _, _, _, _, _, _, _, _, _, _, _, _, _, _, _, _, _, _, _, rfl, R, (by omega), (by omega)⟩ hP hD hS
    · refine lv_tableOut (tgt := 420) hx hb dL_act_104 (.inr (by rw [nI_toInt (by omega)]; omega)) (by decide) ?_
      refine lv_aload_n hx hb dL_act_420 rfl (lv_at hl 3 rfl) ?_
      refine call_ViF (As := []) (rest := []) (wr := sW cI cZ cS cW b0 b1 b2 b3 b4 n m tn sl bg ht rs sn rw wy o) S (m_X1_takeTurn h0 h1 h2 h3 h4 h5 h6 n wn t tc sc uw c1 c2 s ow hf tf  h0n ht5 hn hw hs hc1 hb1) g_L_X1_takeTurn hd_X1_takeTurn ⟨Nat.le_of_ble_eq_true rfl, Nat.le_of_ble_eq_true rfl⟩ ⟨by show _ ≤ 261; omega, by show _ ≤ 2100; omega⟩ hP hD hK hS hZ 0 rfl rfl hl.1 rfl (Nat.le_of_ble_eq_true rfl) dL_act_421 (fun r u H locs hq hP hD hS => ?_)
      obtain ⟨rfl, k9, og9, g9, rfl, hg9⟩ := hq
      have hP : va_P (dC, dI) vwCl (gW cI h0 h1 h2 h3 h4 h5 h6 h1 h2 n wn (aftN n t) (tc + 1) (if cert wn (s t) t (Lof hf c1) = true then sc else sc + 1) true k9 c2 s og9 g9 tf ++ (sW cI cZ cS cW b0 b1 b2 b3 b4 n m tn sl bg ht rs sn rw wy o)) H := hP
      have hD : va_D A (gW cI h0 h1 h2 h3 h4 h5 h6 h1 h2 n wn (aftN n t) (tc + 1) (if cert wn (s t) t (Lof hf c1) = true then sc else sc + 1) true k9 c2 s og9 g9 tf ++ (sW cI cZ cS cW b0 b1 b2 b3 b4 n m tn sl bg ht rs sn rw wy o)) := hD
      refine lv_aload_n hx hb dL_act_424 rfl (lv_at hl 4 rfl) ?_
      refine call_VgI (As := []) (rest := [.int (if cert wn (s t) t (Lof hf c1) = true then nI (qd wn t) else -1)]) (wr := gW cI h0 h1 h2 h3 h4 h5 h6 h1 h2 n wn (aftN n t) (tc + 1) (if cert wn (s t) t (Lof hf c1) = true then sc else sc + 1) true k9 c2 s og9 g9 tf) (wc := sW cI cZ cS cW b0 b1 b2 b3 b4 n m tn sl bg ht rs sn rw wy o) S (m_X2_turn b0 b1 b2 b3 b4 n m tn sl bg ht rs sn rw wy o (tn % n) hn (by omega) h0n rfl (Nat.mod_lt _ h0n) (by omega) hht hwy H.size) g_L_X2_turn hd_X2_turn ⟨Nat.le_of_ble_eq_true rfl, Nat.le_of_ble_eq_true rfl⟩ ⟨by show _ ≤ 261; omega, by show _ ≤ 2100; omega⟩ hP hD hK hS hA hZ 0 rfl rfl hl.1 rfl (Nat.le_of_ble_eq_true rfl) dL_act_425 (fun r u H locs hq hP hD hS => ?_)
      obtain ⟨rfl, q9, o2, ho2, rfl⟩ := hq
      have hP : va_P (dC, dI) vwCl (gW cI h0 h1 h2 h3 h4 h5 h6 h1 h2 n wn (aftN n t) (tc + 1) (if cert wn (s t) t (Lof hf c1) = true then sc else sc + 1) true k9 c2 s og9 g9 tf ++ (sW cI cZ cS cW b0 b1 b2 b3 q9 n m (tn + 1) (if surS n m sn wy o (tn % n) (tn % n) ht = true then sl else sl + 1) true ht rs sn rw wy o2)) H := hP
      have hD : va_D A (gW cI h0 h1 h2 h3 h4 h5 h6 h1 h2 n wn (aftN n t) (tc + 1) (if cert wn (s t) t (Lof hf c1) = true then sc else sc + 1) true k9 c2 s og9 g9 tf ++ (sW cI cZ cS cW b0 b1 b2 b3 q9 n m (tn + 1) (if surS n m sn wy o (tn % n) (tn % n) ht = true then sl else sl + 1) true ht rs sn rw wy o2)) := hD
      refine lv_icmp_ne (tgt := 435) hx hb dL_act_428 (by decide) (fun c_428 => absurd c_428 (fun e9 => e9 (R.turnA h0n rfl))) (fun c_428 => ?_)
      refine lv_iconst (v := nI 1) hx hb dL_act_431 (by decide) ?_
      refine lv_goto (tgt := 436) hx hb dL_act_432 (by decide) ?_
      refine W.widen (k := 261) (n := 2100) (by omega) (by omega) ?_
      exact ret _ (gW cI h0 h1 h2 h3 h4 h5 h6 h1 h2 n wn (aftN n t) (tc + 1) (if cert wn (s t) t (Lof hf c1) = true then sc else sc + 1) true k9 c2 s og9 g9 tf ++ (sW cI cZ cS cW b0 b1 b2 b3 q9 n m (tn + 1) (if surS n m sn wy o (tn % n) (tn % n) ht = true then sl else sl + 1) true ht rs sn rw wy o2)) _ _ _ _ dL_act_436 rfl ⟨rfl, _, _, _, _, _, _, _, _, _, _, _, _, _, _, _, _, _, _, _, _, _, _, _, _, _, _, rfl, R.turn h0n rfl hg9 ho2, (by omega), (by omega)⟩ hP hD hS
  · refine lv_iload_n hx hb dL_act_26 rfl (lv_at hl 1 rfl) ?_
    refine lv_iconst (v := nI 5) hx hb dL_act_27 (by decide) ?_
    refine icN_eq (tgt := 38) hx hb dL_act_28 (by decide) (by omega) (by omega) (fun c_28 => ?_) (fun c_28 => ?_)
    · refine lv_iconst (v := nI 1) hx hb dL_act_38 (by decide) ?_
      refine W.widen (k := 261) (n := 2100) (by omega) (by omega) ?_
      exact ret _ (gW cI h0 h1 h2 h3 h4 h5 h6 h1 h2 n wn t tc sc uw c1 c2 s ow hf tf ++ (sW cI cZ cS cW b0 b1 b2 b3 b4 n m tn sl bg ht rs sn rw wy o)) _ _ _ _ dL_act_39 rfl ⟨rfl, _, _, _, _, _, _, _, _, _, _, _, _, _, _, _, _, _, _, _, _, _, _, _, _, _, _, rfl, R, (by omega), (by omega)⟩ hP hD hS
    · refine lv_aload_n hx hb dL_act_31 rfl (lv_at hl 3 rfl) ?_
      refine va_get (D := (dC, dI)) (ci := 2) (v := .int (bI bg)) (C := RX2) (T := TX2) (N := 8) hx hb hts inX2 hown hK hP 7 rfl rfl 3 (by decide) (hts _ q_fl_L_21) (fun _ h9 => h9) rfl dL_act_32 ?_
      refine ifB_eq (tgt := 40) hx hb dL_act_35 (by decide) (fun c_35 => ?_) (fun c_35 => ?_)
      · refine lv_iload_n hx hb dL_act_40 rfl (lv_at hl 4 rfl) ?_
        refine lv_iconst (v := nI 2) hx hb dL_act_41 (by decide) ?_
        refine lv_ishr hx hb dL_act_42 ?_
        refine W_i (y := (x >>> (nI 2 &&& 31))) (rfl) ?_
        refine lv_iconst (v := nI 3) hx hb dL_act_43 (by decide) ?_
        refine call_Sp (As := [.int (x >>> (nI 2 &&& 31)), .int (nI 3)]) (rest := []) S (m_L_below (x >>> (nI 2 &&& 31)) 3 (by omega) (by omega)) g_L_L_below hd_L_below ⟨Nat.le_of_ble_eq_true rfl, Nat.le_of_ble_eq_true rfl⟩ ⟨by show _ ≤ 261; omega, by show _ ≤ 2100; omega⟩ hP hD hK hS hZ [] rfl (by decide) hl.1 rfl (Nat.le_of_ble_eq_true rfl) dL_act_44 (fun r H locs hq hP hS => ?_)
        obtain ⟨co, hco, rfl⟩ := hq
        refine lv_istore (lv' := [(5, .int (nI co)), (4, .int (nI j4)), (3, .int (nI n)), (0, .ref h0), (1, .ref b0), (2, .int x)]) hx hb dL_act_47 hl (by decide) rfl (fun ls hl => ?_)
        refine lv_aload_n hx hb dL_act_49 rfl (lv_at hl 4 rfl) ?_
        refine lv_iload hx hb dL_act_50 (lv_at hl 0 rfl) ?_
        have hP := hP.sl (u := gW cI h0 h1 h2 h3 h4 h5 h6 h1 h2 n wn t tc sc uw c1 c2 s ow hf tf ++ ([(b0, .inr (2, [.int (nI n), .int (nI tn), .int (nI sl), .int (bI bg), .ref b1, .ref b2, .ref b3, .ref b4])), (b1, .inl (cI, n, .inl (fun k => nI (ht k)))), (b2, eQ cS n rs)] ++ (rB (fun w0 => eZ cZ n (sn w0)) rs n))) (List.Sublist.append_left (List.Sublist.append (List.Sublist.cons₂ _ (List.Sublist.cons₂ _ (List.Sublist.cons₂ _ (List.nil_sublist _)))) (List.sublist_append_left _ _)) _)
        have hD := hD.sl (u := gW cI h0 h1 h2 h3 h4 h5 h6 h1 h2 n wn t tc sc uw c1 c2 s ow hf tf ++ ([(b0, .inr (2, [.int (nI n), .int (nI tn), .int (nI sl), .int (bI bg), .ref b1, .ref b2, .ref b3, .ref b4])), (b1, .inl (cI, n, .inl (fun k => nI (ht k)))), (b2, eQ cS n rs)] ++ (rB (fun w0 => eZ cZ n (sn w0)) rs n))) (List.Sublist.append_left (List.Sublist.append (List.Sublist.cons₂ _ (List.Sublist.cons₂ _ (List.Sublist.cons₂ _ (List.nil_sublist _)))) (List.sublist_append_left _ _)) _)
        refine call_VgV (As := [.int (nI co)]) (rest := []) (wr := gW cI h0 h1 h2 h3 h4 h5 h6 h1 h2 n wn t tc sc uw c1 c2 s ow hf tf) (wc := [(b0, .inr (2, [.int (nI n), .int (nI tn), .int (nI sl), .int (bI bg), .ref b1, .ref b2, .ref b3, .ref b4])), (b1, .inl (cI, n, .inl (fun k => nI (ht k)))), (b2, eQ cS n rs)] ++ (rB (fun w0 => eZ cZ n (sn w0)) rs n)) S (m_X2_add b0 b1 b2 n tn sl bg ht rs sn (.ref b3) (.ref b4) co (by omega) H.size) g_L_X2_add hd_X2_add ⟨Nat.le_of_ble_eq_true rfl, Nat.le_of_ble_eq_true rfl⟩ ⟨by show _ ≤ 261; omega, by show _ ≤ 2100; omega⟩ hP hD hK hS hA hZ 0 rfl rfl hl.1 rfl (Nat.le_of_ble_eq_true rfl) dL_act_52 (fun u H locs hq hP hD hS => ?_)
        obtain ⟨d1, d2, d3, d4, ht2, rs2, sn2, rw2, wy2, o2, hh1, hh2, hsn2, hwy2, ho2, rfl⟩ := hq
        have hP : va_P (dC, dI) vwCl (gW cI h0 h1 h2 h3 h4 h5 h6 h1 h2 n wn t tc sc uw c1 c2 s ow hf tf ++ (sW cI cZ cS cW b0 d1 d2 d3 d4 (n + 1) (3 ^ (n + 1)) tn sl bg ht2 rs2 sn2 rw2 wy2 o2)) H := hP
        have hD : va_D A (gW cI h0 h1 h2 h3 h4 h5 h6 h1 h2 n wn t tc sc uw c1 c2 s ow hf tf ++ (sW cI cZ cS cW b0 d1 d2 d3 d4 (n + 1) (3 ^ (n + 1)) tn sl bg ht2 rs2 sn2 rw2 wy2 o2)) := hD
        have hu : bg = false := c_35
        have hub : uw = false := by rw [R.ub]; exact hu
        have h81 : c1 ≤ 81 := by have h9 := R.c1m; rw [R.m3] at h9; exact Nat.le_trans h9 (p3_81 n (by omega))
        refine lv_aload_n hx hb dL_act_55 rfl (lv_at hl 3 rfl) ?_
        refine lv_iload hx hb dL_act_56 (lv_at hl 0 rfl) ?_
        refine call_ViF (As := [.int (nI co)]) (rest := []) (wr := sW cI cZ cS cW b0 d1 d2 d3 d4 (n + 1) (3 ^ (n + 1)) tn sl bg ht2 rs2 sn2 rw2 wy2 o2) S (m_X1_addPlayer h0 h1 h2 h3 h4 h5 h6 n wn t tc sc uw c1 c2 s ow hf tf co (by omega) (by omega) hub h81 hn hw hs hc1 hb1) g_L_X1_addPlayer hd_X1_addPlayer ⟨Nat.le_of_ble_eq_true rfl, Nat.le_of_ble_eq_true rfl⟩ ⟨by show _ ≤ 261; omega, by show _ ≤ 2100; omega⟩ hP hD hK hS hZ 0 rfl rfl hl.1 rfl (Nat.le_of_ble_eq_true rfl) dL_act_58 (fun r u H locs hq hP hD hS => ?_)
        obtain ⟨rfl, g9, rfl, hg9⟩ := hq
        have hP : va_P (dC, dI) vwCl (gW cI h0 h1 h2 h3 h4 h5 h6 h1 h2 (n + 1) (wn ||| co * 2 ^ (n * 2)) t tc sc uw (3 * c1) c2 (upN (lkS s n n) n (mskN n)) ow g9 tf ++ (sW cI cZ cS cW b0 d1 d2 d3 d4 (n + 1) (3 ^ (n + 1)) tn sl bg ht2 rs2 sn2 rw2 wy2 o2)) H := hP
        have hD : va_D A (gW cI h0 h1 h2 h3 h4 h5 h6 h1 h2 (n + 1) (wn ||| co * 2 ^ (n * 2)) t tc sc uw (3 * c1) c2 (upN (lkS s n n) n (mskN n)) ow g9 tf ++ (sW cI cZ cS cW b0 d1 d2 d3 d4 (n + 1) (3 ^ (n + 1)) tn sl bg ht2 rs2 sn2 rw2 wy2 o2)) := hD
        refine lv_iload_n hx hb dL_act_61 rfl (lv_at hl 2 rfl) ?_
        refine icN_ne (tgt := 69) hx hb dL_act_62 (by decide) (by omega) (by omega) (fun c_62 => absurd c_62 (fun e9 => e9 rfl)) (fun c_62 => ?_)
        refine lv_iconst (v := nI 1) hx hb dL_act_65 (by decide) ?_
        refine lv_goto (tgt := 70) hx hb dL_act_66 (by decide) ?_
        refine W.widen (k := 261) (n := 2100) (by omega) (by omega) ?_
        exact ret _ (gW cI h0 h1 h2 h3 h4 h5 h6 h1 h2 (n + 1) (wn ||| co * 2 ^ (n * 2)) t tc sc uw (3 * c1) c2 (upN (lkS s n n) n (mskN n)) ow g9 tf ++ (sW cI cZ cS cW b0 d1 d2 d3 d4 (n + 1) (3 ^ (n + 1)) tn sl bg ht2 rs2 sn2 rw2 wy2 o2)) _ _ _ _ dL_act_70 rfl ⟨rfl, _, _, _, _, _, _, _, _, _, _, _, _, _, _, _, _, _, _, _, _, _, _, _, _, _, _, rfl, R.add (by omega) hu (by omega) hg9 hh1 hh2 hsn2 hwy2 ho2, (by omega), (by omega)⟩ hP hD hS
      · refine lv_iconst (v := nI 1) hx hb dL_act_38 (by decide) ?_
        refine W.widen (k := 261) (n := 2100) (by omega) (by omega) ?_
        exact ret _ (gW cI h0 h1 h2 h3 h4 h5 h6 h1 h2 n wn t tc sc uw c1 c2 s ow hf tf ++ (sW cI cZ cS cW b0 b1 b2 b3 b4 n m tn sl bg ht rs sn rw wy o)) _ _ _ _ dL_act_39 rfl ⟨rfl, _, _, _, _, _, _, _, _, _, _, _, _, _, _, _, _, _, _, _, _, _, _, _, _, _, _, rfl, R, (by omega), (by omega)⟩ hP hD hS

end
