theorem lgc (x : Int64) : lg_cmp x x = 0 := by unfold lg_cmp; simp
section
variable {p : Program} {l : Launch} {e : Env} {s : State} {m : MethodId} {args : Array Value} {below : List Frame} {meth : Method} {c : Code} {dC : Nat → ClassId} {dI : Nat → Nat → Nat} {cI cZ cJ : ClassId} {A : Nat → Prop} {Q : State → Prop} {b L : Nat} {xs : Nat → Int32} {ao h0 h1 h2 h3 h4 h5 h6 m0 k : Nat}

set_option maxHeartbeats 4000000 in
set_option maxRecDepth 100000 in
theorem cs_0 (X : LX p l s m args c dC dI cI cZ cJ A b L xs) (hkL : 4 * k + 4 ≤ L) (nxt : NX p l e s m args below meth c dC dI cI cZ cJ A Q b ao h0 h1 h2 h3 h4 h5 h6 m0 1553 (4 * k) (k + 1) (k + 1)) : NX p l e s m args below meth c dC dI cI cZ cJ A Q b ao h0 h1 h2 h3 h4 h5 h6 m0 172 (4 * k) k k := by
  obtain ⟨S, hlt, hK, hZ, hX, hN, hNw, hA, hbA, hXs, hbl, hL⟩ := X
  obtain ⟨hx, hb, hml, hown, hts⟩ := id S
  intro f n wn t tc sc uw c1 c2 s' ow hf tf m1 m2 m3 m4 m5 m6 th bg tn sl ht sn o nx kp ow2 H locs ls cells slots R htk hl hP hD hS hcc hss
  refine lv_aload_n hx hb dL_law_172 rfl (lv_at hl 2 rfl) ?_
  refine lv_aload_n hx hb dL_law_173 rfl (lv_at hl 1 rfl) ?_
  refine lv_iload hx hb dL_law_174 (lv_at hl 0 rfl) ?_
  refine lv_iconst (v := nI 1) hx hb dL_law_176 (by decide) ?_
  refine lv_iadd hx hb dL_law_177 ?_
  refine W_i (y := nI (4 * k + 1)) (nI_add _ _) ?_
  refine va_sld hx hb hXs hbl hbA hS (vp_in_nI (show 4 * k + 1 < L by omega) (by omega)) dL_law_178 ?_
  refine lv_aload_n hx hb dL_law_179 rfl (lv_at hl 4 rfl) ?_
  obtain ⟨P1, P2, fr, lo, hfr, hlo, hH, hM, hJ⟩ := op_addPlayer (cJ := cJ) hlt ao h0 h1 h2 h3 h4 h5 h6 n wn t tc sc uw c1 c2 s' ow hf tf f m0 m1 m2 m3 m4 m5 m6 th bg tn sl ht sn o nx kp ow2 R (by omega) (xs (nI (4 * k + 1)).toNatClampNeg)
  refine call_Hi (As := [.ref h0, .int (xs (nI (4 * k + 1)).toNatClampNeg), .ref ao]) (rest := []) (wr := mW cI cZ m0 m1 m2 m3 m4 m5 m6 th n bg tn sl ht sn o nx kp ow2) S hH g_L_L_addPlayer hd_L_addPlayer ⟨Nat.le_of_ble_eq_true rfl, Nat.le_of_ble_eq_true rfl⟩ ⟨(by show _ ≤ 601024; omega), (by show _ ≤ 7293034; omega)⟩ hP hD hK hS hZ hX hN [0, 1, 2, 3, 4, 5, 6, 7] [8, 9, 10, 11, 12, 13, 14] rfl rfl (by decide) hl.1 rfl (Nat.le_of_ble_eq_true rfl) dL_law_180 (fun r1 u1 H locs q1 hP hD hS => ?_)
  refine lv_istore (lv' := [(5, .int r1), (4, .int (nI (4 * k))), (0, .ref b), (1, .ref h0), (2, .ref m0), (3, .ref ao)]) hx hb dL_law_183 hl (by decide) rfl (fun ls hl => ?_)
  refine lv_aload_n hx hb dL_law_185 rfl (lv_at hl 4 rfl) ?_
  refine lv_aload_n hx hb dL_law_186 rfl (lv_at hl 2 rfl) ?_
  refine lv_iload hx hb dL_law_187 (lv_at hl 1 rfl) ?_
  refine lv_iconst (v := nI 1) hx hb dL_law_189 (by decide) ?_
  refine lv_iadd hx hb dL_law_190 ?_
  refine W_i (y := nI (4 * k + 1)) (nI_add _ _) ?_
  refine va_sld hx hb hXs hbl hbA hS (vp_in_nI (show 4 * k + 1 < L by omega) (by omega)) dL_law_191 ?_
  refine call_Vi (As := [.int (xs (nI (4 * k + 1)).toNatClampNeg)]) (wr := u1) (rest := []) S hM g_L_X2_addPlayer hd_X2_addPlayer ⟨(by show fr + 1 ≤ 12; omega), (by show 8 + (3 + 11) + lo ≤ 440; omega)⟩ ⟨(by show _ ≤ 601024; omega), (by show _ ≤ 7293034; omega)⟩ hP hD hK hS hZ [0, 1, 2, 3, 4, 5, 6] ((List.range u1.length).map (· + 7)) rfl (ix_B (mW cI cZ m0 m1 m2 m3 m4 m5 m6 th n bg tn sl ht sn o nx kp ow2) u1 7 rfl) (nd_B _) 0 rfl rfl hl.1 rfl (Nat.le_of_ble_eq_true rfl) dL_law_192 (fun r2 u2 H locs q2 hP hD hS => ?_)
  refine lv_istore (lv' := [(6, .int r2), (5, .int r1), (4, .int (nI (4 * k))), (0, .ref b), (1, .ref h0), (2, .ref m0), (3, .ref ao)]) hx hb dL_law_195 hl (by decide) rfl (fun ls hl => ?_)
  obtain ⟨f, n, wn, t, tc, sc, uw, c1, c2, s', ow, hf, tf, m1, m2, m3, m4, m5, m6, th, bg, tn, sl, ht, sn, o, nx, kp, ow2, rfl, rfl, R, htk2, hth, rfl, hans⟩ := hJ _ _ _ _ q1 q2
  have hP : va_P (dC, dI) vwCl (GO cI cJ ao h0 h1 h2 h3 h4 h5 h6 f n wn t tc sc uw c1 c2 s' ow hf tf ++ mW cI cZ m0 m1 m2 m3 m4 m5 m6 th n bg tn sl ht sn o nx kp ow2) H := hP
  have hD : va_D A (GO cI cJ ao h0 h1 h2 h3 h4 h5 h6 f n wn t tc sc uw c1 c2 s' ow hf tf ++ mW cI cZ m0 m1 m2 m3 m4 m5 m6 th n bg tn sl ht sn o nx kp ow2) := hD
  refine lv_aload_n hx hb dL_law_197 rfl (lv_at hl 5 rfl) ?_
  refine call_Vp (As := []) (rest := []) S (m_X2_thrown m0 m1 m2 m3 m4 m5 m6 th n bg tn sl ht sn o nx kp ow2) g_L_X2_thrown hd_X2_thrown ⟨Nat.le_of_ble_eq_true rfl, Nat.le_of_ble_eq_true rfl⟩ ⟨(by show _ ≤ 601024; omega), (by show _ ≤ 7293034; omega)⟩ hP hD hK hS hZ [8, 9, 10, 11, 12, 13, 14] rfl (by decide) 0 rfl rfl hl.1 rfl (Nat.le_of_ble_eq_true rfl) dL_law_198 (fun r3 H locs hq hP hS => ?_)
  obtain rfl := hq
  refine lv_iload hx hb dL_law_201 (lv_at hl 1 rfl) ?_
  refine lv_icmp_eq (tgt := 208) hx hb dL_law_203 (by decide) (fun _ => ?_) (fun hc => absurd rfl hc)
  refine lv_iload hx hb dL_law_208 (lv_at hl 1 rfl) ?_
  have hend : ∀ ls : Array Slot, lv_has ls 9 [(6, .int r2), (5, .int (nI th)), (4, .int (nI (4 * k))), (0, .ref b), (1, .ref h0), (2, .ref m0), (3, .ref ao)] → W p l e room_1 s m args below meth c H locs (cells + 1) (slots + 6) Q (F0 m 225 ls []) := fun ls hl => lv_goto (tgt := 1553) hx hb dL_law_225 (by decide) (nxt f n wn t tc sc uw c1 c2 s' ow hf tf m1 m2 m3 m4 m5 m6 th bg tn sl ht sn o nx kp ow2 H locs ls _ _ R (by omega) (lv_sub hl [2, 3, 4, 5, 6] rfl) hP hD hS (by omega) (by omega))
  refine ifN_ne (tgt := 225) hx hb dL_law_210 (by decide) (by omega) (fun _ => hend ls hl) (fun h0 => ?_)
  refine lv_aload_n hx hb dL_law_213 rfl (lv_at hl 6 rfl) ?_
  refine lv_iconst (v := nI 0) hx hb dL_law_214 (by decide) ?_
  refine va_lald (n := 1) hx hb hK hP 0 2 rfl rfl (vp_in_nI (by decide) (by decide)) dL_law_215 ?_
  rw [show (nI 0).toNatClampNeg = 0 from nI_clamp (by omega)]
  refine lv_iload hx hb dL_law_216 (lv_at hl 0 rfl) ?_
  rw [show f 0 = r2.toInt64 from hans h0]
  refine lv_i2l hx hb dL_law_218 rfl ?_
  refine W.lcmp hx hb dL_law_219 ?_
  rw [lgc]
  exact lv_if_eq (tgt := 225) hx hb dL_law_220 (by decide) (fun _ => hend ls hl) (fun hc => absurd rfl hc)

set_option maxHeartbeats 4000000 in
set_option maxRecDepth 100000 in
theorem cs_1 (X : LX p l s m args c dC dI cI cZ cJ A b L xs) (hkL : 4 * k + 4 ≤ L) (nxt : NX p l e s m args below meth c dC dI cI cZ cJ A Q b ao h0 h1 h2 h3 h4 h5 h6 m0 1553 (4 * k) (k + 1) (k + 1)) : NX p l e s m args below meth c dC dI cI cZ cJ A Q b ao h0 h1 h2 h3 h4 h5 h6 m0 228 (4 * k) k k := by
  obtain ⟨S, hlt, hK, hZ, hX, hN, hNw, hA, hbA, hXs, hbl, hL⟩ := X
  obtain ⟨hx, hb, hml, hown, hts⟩ := id S
  intro f n wn t tc sc uw c1 c2 s' ow hf tf m1 m2 m3 m4 m5 m6 th bg tn sl ht sn o nx kp ow2 H locs ls cells slots R htk hl hP hD hS hcc hss
  refine lv_aload_n hx hb dL_law_228 rfl (lv_at hl 2 rfl) ?_
  refine lv_aload_n hx hb dL_law_229 rfl (lv_at hl 1 rfl) ?_
  refine lv_iload hx hb dL_law_230 (lv_at hl 0 rfl) ?_
  refine lv_iconst (v := nI 1) hx hb dL_law_232 (by decide) ?_
  refine lv_iadd hx hb dL_law_233 ?_
  refine W_i (y := nI (4 * k + 1)) (nI_add _ _) ?_
  refine va_sld hx hb hXs hbl hbA hS (vp_in_nI (show 4 * k + 1 < L by omega) (by omega)) dL_law_234 ?_
  refine lv_aload_n hx hb dL_law_235 rfl (lv_at hl 1 rfl) ?_
  refine lv_iload hx hb dL_law_236 (lv_at hl 0 rfl) ?_
  refine lv_iconst (v := nI 2) hx hb dL_law_238 (by decide) ?_
  refine lv_iadd hx hb dL_law_239 ?_
  refine W_i (y := nI (4 * k + 2)) (nI_add _ _) ?_
  refine va_sld hx hb hXs hbl hbA hS (vp_in_nI (show 4 * k + 2 < L by omega) (by omega)) dL_law_240 ?_
  refine lv_aload_n hx hb dL_law_241 rfl (lv_at hl 4 rfl) ?_
  obtain ⟨P1, P2, fr, lo, hfr, hlo, hH, hM, hJ⟩ := op_turnAway (cJ := cJ) hlt ao h0 h1 h2 h3 h4 h5 h6 n wn t tc sc uw c1 c2 s' ow hf tf f m0 m1 m2 m3 m4 m5 m6 th bg tn sl ht sn o nx kp ow2 R (by omega) (xs (nI (4 * k + 1)).toNatClampNeg) (xs (nI (4 * k + 2)).toNatClampNeg)
  refine call_Hi (As := [.ref h0, .int (xs (nI (4 * k + 1)).toNatClampNeg), .int (xs (nI (4 * k + 2)).toNatClampNeg), .ref ao]) (rest := []) (wr := mW cI cZ m0 m1 m2 m3 m4 m5 m6 th n bg tn sl ht sn o nx kp ow2) S hH g_L_L_turnAway hd_L_turnAway ⟨Nat.le_of_ble_eq_true rfl, Nat.le_of_ble_eq_true rfl⟩ ⟨(by show _ ≤ 601024; omega), (by show _ ≤ 7293034; omega)⟩ hP hD hK hS hZ hX hN [0, 1, 2, 3, 4, 5, 6, 7] [8, 9, 10, 11, 12, 13, 14] rfl rfl (by decide) hl.1 rfl (Nat.le_of_ble_eq_true rfl) dL_law_242 (fun r1 u1 H locs q1 hP hD hS => ?_)
  refine lv_istore (lv' := [(5, .int r1), (4, .int (nI (4 * k))), (0, .ref b), (1, .ref h0), (2, .ref m0), (3, .ref ao)]) hx hb dL_law_245 hl (by decide) rfl (fun ls hl => ?_)
  refine lv_aload_n hx hb dL_law_247 rfl (lv_at hl 4 rfl) ?_
  refine lv_aload_n hx hb dL_law_248 rfl (lv_at hl 2 rfl) ?_
  refine lv_iload hx hb dL_law_249 (lv_at hl 1 rfl) ?_
  refine lv_iconst (v := nI 1) hx hb dL_law_251 (by decide) ?_
  refine lv_iadd hx hb dL_law_252 ?_
  refine W_i (y := nI (4 * k + 1)) (nI_add _ _) ?_
  refine va_sld hx hb hXs hbl hbA hS (vp_in_nI (show 4 * k + 1 < L by omega) (by omega)) dL_law_253 ?_
  refine lv_aload_n hx hb dL_law_254 rfl (lv_at hl 2 rfl) ?_
  refine lv_iload hx hb dL_law_255 (lv_at hl 1 rfl) ?_
  refine lv_iconst (v := nI 2) hx hb dL_law_257 (by decide) ?_
  refine lv_iadd hx hb dL_law_258 ?_
  refine W_i (y := nI (4 * k + 2)) (nI_add _ _) ?_
  refine va_sld hx hb hXs hbl hbA hS (vp_in_nI (show 4 * k + 2 < L by omega) (by omega)) dL_law_259 ?_
  refine call_Vi (As := [.int (xs (nI (4 * k + 1)).toNatClampNeg), .int (xs (nI (4 * k + 2)).toNatClampNeg)]) (wr := u1) (rest := []) S hM g_L_X2_turnAway hd_X2_turnAway ⟨(by show fr + 1 ≤ 12; omega), (by show 8 + (3 + 11) + lo ≤ 440; omega)⟩ ⟨(by show _ ≤ 601024; omega), (by show _ ≤ 7293034; omega)⟩ hP hD hK hS hZ [0, 1, 2, 3, 4, 5, 6] ((List.range u1.length).map (· + 7)) rfl (ix_B (mW cI cZ m0 m1 m2 m3 m4 m5 m6 th n bg tn sl ht sn o nx kp ow2) u1 7 rfl) (nd_B _) 0 rfl rfl hl.1 rfl (Nat.le_of_ble_eq_true rfl) dL_law_260 (fun r2 u2 H locs q2 hP hD hS => ?_)
  refine lv_istore (lv' := [(6, .int r2), (5, .int r1), (4, .int (nI (4 * k))), (0, .ref b), (1, .ref h0), (2, .ref m0), (3, .ref ao)]) hx hb dL_law_263 hl (by decide) rfl (fun ls hl => ?_)
  obtain ⟨f, n, wn, t, tc, sc, uw, c1, c2, s', ow, hf, tf, m1, m2, m3, m4, m5, m6, th, bg, tn, sl, ht, sn, o, nx, kp, ow2, rfl, rfl, R, htk2, hth, rfl, hans⟩ := hJ _ _ _ _ q1 q2
  have hP : va_P (dC, dI) vwCl (GO cI cJ ao h0 h1 h2 h3 h4 h5 h6 f n wn t tc sc uw c1 c2 s' ow hf tf ++ mW cI cZ m0 m1 m2 m3 m4 m5 m6 th n bg tn sl ht sn o nx kp ow2) H := hP
  have hD : va_D A (GO cI cJ ao h0 h1 h2 h3 h4 h5 h6 f n wn t tc sc uw c1 c2 s' ow hf tf ++ mW cI cZ m0 m1 m2 m3 m4 m5 m6 th n bg tn sl ht sn o nx kp ow2) := hD
  refine lv_aload_n hx hb dL_law_265 rfl (lv_at hl 5 rfl) ?_
  refine call_Vp (As := []) (rest := []) S (m_X2_thrown m0 m1 m2 m3 m4 m5 m6 th n bg tn sl ht sn o nx kp ow2) g_L_X2_thrown hd_X2_thrown ⟨Nat.le_of_ble_eq_true rfl, Nat.le_of_ble_eq_true rfl⟩ ⟨(by show _ ≤ 601024; omega), (by show _ ≤ 7293034; omega)⟩ hP hD hK hS hZ [8, 9, 10, 11, 12, 13, 14] rfl (by decide) 0 rfl rfl hl.1 rfl (Nat.le_of_ble_eq_true rfl) dL_law_266 (fun r3 H locs hq hP hS => ?_)
  obtain rfl := hq
  refine lv_iload hx hb dL_law_269 (lv_at hl 1 rfl) ?_
  refine lv_icmp_eq (tgt := 276) hx hb dL_law_271 (by decide) (fun _ => ?_) (fun hc => absurd rfl hc)
  refine lv_iload hx hb dL_law_276 (lv_at hl 1 rfl) ?_
  have hend : ∀ ls : Array Slot, lv_has ls 9 [(6, .int r2), (5, .int (nI th)), (4, .int (nI (4 * k))), (0, .ref b), (1, .ref h0), (2, .ref m0), (3, .ref ao)] → W p l e room_1 s m args below meth c H locs (cells + 1) (slots + 6) Q (F0 m 300 ls []) := fun ls hl => lv_goto (tgt := 1553) hx hb dL_law_300 (by decide) (nxt f n wn t tc sc uw c1 c2 s' ow hf tf m1 m2 m3 m4 m5 m6 th bg tn sl ht sn o nx kp ow2 H locs ls _ _ R (by omega) (lv_sub hl [2, 3, 4, 5, 6] rfl) hP hD hS (by omega) (by omega))
  refine ifN_ne (tgt := 300) hx hb dL_law_278 (by decide) (by omega) (fun _ => hend ls hl) (fun h0 => ?_)
  refine lv_aload_n hx hb dL_law_281 rfl (lv_at hl 6 rfl) ?_
  refine lv_iconst (v := nI 0) hx hb dL_law_282 (by decide) ?_
  refine va_lald (n := 1) hx hb hK hP 0 2 rfl rfl (vp_in_nI (by decide) (by decide)) dL_law_283 ?_
  rw [show (nI 0).toNatClampNeg = 0 from nI_clamp (by omega)]
  refine lv_iload hx hb dL_law_284 (lv_at hl 0 rfl) ?_
  obtain ⟨b2, rfl, hb2⟩ := hans h0
  rw [hb2]
  refine ternL_eq hx hb dL_law_286 dL_law_289 dL_law_290 dL_law_293 (by decide) (by decide) ?_
  refine W.lcmp hx hb dL_law_294 ?_
  rw [lgc]
  exact lv_if_eq (tgt := 300) hx hb dL_law_295 (by decide) (fun _ => hend ls hl) (fun hc => absurd rfl hc)

set_option maxHeartbeats 4000000 in
set_option maxRecDepth 100000 in
theorem cs_2 (X : LX p l s m args c dC dI cI cZ cJ A b L xs) (hkL : 4 * k + 4 ≤ L) (nxt : NX p l e s m args below meth c dC dI cI cZ cJ A Q b ao h0 h1 h2 h3 h4 h5 h6 m0 1553 (4 * k) (k + 1) (k + 1)) : NX p l e s m args below meth c dC dI cI cZ cJ A Q b ao h0 h1 h2 h3 h4 h5 h6 m0 303 (4 * k) k k := by
  obtain ⟨S, hlt, hK, hZ, hX, hN, hNw, hA, hbA, hXs, hbl, hL⟩ := X
  obtain ⟨hx, hb, hml, hown, hts⟩ := id S
  intro f n wn t tc sc uw c1 c2 s' ow hf tf m1 m2 m3 m4 m5 m6 th bg tn sl ht sn o nx kp ow2 H locs ls cells slots R htk hl hP hD hS hcc hss
  refine lv_aload_n hx hb dL_law_303 rfl (lv_at hl 2 rfl) ?_
  refine lv_aload_n hx hb dL_law_304 rfl (lv_at hl 1 rfl) ?_
  refine lv_iload hx hb dL_law_305 (lv_at hl 0 rfl) ?_
  refine lv_iconst (v := nI 1) hx hb dL_law_307 (by decide) ?_
  refine lv_iadd hx hb dL_law_308 ?_
  refine W_i (y := nI (4 * k + 1)) (nI_add _ _) ?_
  refine va_sld hx hb hXs hbl hbA hS (vp_in_nI (show 4 * k + 1 < L by omega) (by omega)) dL_law_309 ?_
  refine lv_aload_n hx hb dL_law_310 rfl (lv_at hl 1 rfl) ?_
  refine lv_iload hx hb dL_law_311 (lv_at hl 0 rfl) ?_
  refine lv_iconst (v := nI 2) hx hb dL_law_313 (by decide) ?_
  refine lv_iadd hx hb dL_law_314 ?_
  refine W_i (y := nI (4 * k + 2)) (nI_add _ _) ?_
  refine va_sld hx hb hXs hbl hbA hS (vp_in_nI (show 4 * k + 2 < L by omega) (by omega)) dL_law_315 ?_
  refine lv_aload_n hx hb dL_law_316 rfl (lv_at hl 4 rfl) ?_
  obtain ⟨P1, P2, fr, lo, hfr, hlo, hH, hM, hJ⟩ := op_borrow (cJ := cJ) hlt ao h0 h1 h2 h3 h4 h5 h6 n wn t tc sc uw c1 c2 s' ow hf tf f m0 m1 m2 m3 m4 m5 m6 th bg tn sl ht sn o nx kp ow2 R (by omega) (xs (nI (4 * k + 1)).toNatClampNeg) (xs (nI (4 * k + 2)).toNatClampNeg)
  refine call_Hi (As := [.ref h0, .int (xs (nI (4 * k + 1)).toNatClampNeg), .int (xs (nI (4 * k + 2)).toNatClampNeg), .ref ao]) (rest := []) (wr := mW cI cZ m0 m1 m2 m3 m4 m5 m6 th n bg tn sl ht sn o nx kp ow2) S hH g_L_L_borrow hd_L_borrow ⟨Nat.le_of_ble_eq_true rfl, Nat.le_of_ble_eq_true rfl⟩ ⟨(by show _ ≤ 601024; omega), (by show _ ≤ 7293034; omega)⟩ hP hD hK hS hZ hX hN [0, 1, 2, 3, 4, 5, 6, 7] [8, 9, 10, 11, 12, 13, 14] rfl rfl (by decide) hl.1 rfl (Nat.le_of_ble_eq_true rfl) dL_law_317 (fun r1 u1 H locs q1 hP hD hS => ?_)
  refine lv_istore (lv' := [(5, .int r1), (4, .int (nI (4 * k))), (0, .ref b), (1, .ref h0), (2, .ref m0), (3, .ref ao)]) hx hb dL_law_320 hl (by decide) rfl (fun ls hl => ?_)
  refine lv_aload_n hx hb dL_law_322 rfl (lv_at hl 4 rfl) ?_
  refine lv_aload_n hx hb dL_law_323 rfl (lv_at hl 2 rfl) ?_
  refine lv_iload hx hb dL_law_324 (lv_at hl 1 rfl) ?_
  refine lv_iconst (v := nI 1) hx hb dL_law_326 (by decide) ?_
  refine lv_iadd hx hb dL_law_327 ?_
  refine W_i (y := nI (4 * k + 1)) (nI_add _ _) ?_
  refine va_sld hx hb hXs hbl hbA hS (vp_in_nI (show 4 * k + 1 < L by omega) (by omega)) dL_law_328 ?_
  refine lv_aload_n hx hb dL_law_329 rfl (lv_at hl 2 rfl) ?_
  refine lv_iload hx hb dL_law_330 (lv_at hl 1 rfl) ?_
  refine lv_iconst (v := nI 2) hx hb dL_law_332 (by decide) ?_
  refine lv_iadd hx hb dL_law_333 ?_
  refine W_i (y := nI (4 * k + 2)) (nI_add _ _) ?_
  refine va_sld hx hb hXs hbl hbA hS (vp_in_nI (show 4 * k + 2 < L by omega) (by omega)) dL_law_334 ?_
  refine call_Vi (As := [.int (xs (nI (4 * k + 1)).toNatClampNeg), .int (xs (nI (4 * k + 2)).toNatClampNeg)]) (wr := u1) (rest := []) S hM g_L_X2_borrow hd_X2_borrow ⟨(by show fr + 1 ≤ 12; omega), (by show 8 + (5 + 11) + lo ≤ 440; omega)⟩ ⟨(by show _ ≤ 601024; omega), (by show _ ≤ 7293034; omega)⟩ hP hD hK hS hZ [0, 1, 2, 3, 4, 5, 6] ((List.range u1.length).map (· + 7)) rfl (ix_B (mW cI cZ m0 m1 m2 m3 m4 m5 m6 th n bg tn sl ht sn o nx kp ow2) u1 7 rfl) (nd_B _) 0 rfl rfl hl.1 rfl (Nat.le_of_ble_eq_true rfl) dL_law_335 (fun r2 u2 H locs q2 hP hD hS => ?_)
  refine lv_istore (lv' := [(6, .int r2), (5, .int r1), (4, .int (nI (4 * k))), (0, .ref b), (1, .ref h0), (2, .ref m0), (3, .ref ao)]) hx hb dL_law_338 hl (by decide) rfl (fun ls hl => ?_)
  obtain ⟨f, n, wn, t, tc, sc, uw, c1, c2, s', ow, hf, tf, m1, m2, m3, m4, m5, m6, th, bg, tn, sl, ht, sn, o, nx, kp, ow2, rfl, rfl, R, htk2, hth, rfl, hans⟩ := hJ _ _ _ _ q1 q2
  have hP : va_P (dC, dI) vwCl (GO cI cJ ao h0 h1 h2 h3 h4 h5 h6 f n wn t tc sc uw c1 c2 s' ow hf tf ++ mW cI cZ m0 m1 m2 m3 m4 m5 m6 th n bg tn sl ht sn o nx kp ow2) H := hP
  have hD : va_D A (GO cI cJ ao h0 h1 h2 h3 h4 h5 h6 f n wn t tc sc uw c1 c2 s' ow hf tf ++ mW cI cZ m0 m1 m2 m3 m4 m5 m6 th n bg tn sl ht sn o nx kp ow2) := hD
  refine lv_aload_n hx hb dL_law_340 rfl (lv_at hl 5 rfl) ?_
  refine call_Vp (As := []) (rest := []) S (m_X2_thrown m0 m1 m2 m3 m4 m5 m6 th n bg tn sl ht sn o nx kp ow2) g_L_X2_thrown hd_X2_thrown ⟨Nat.le_of_ble_eq_true rfl, Nat.le_of_ble_eq_true rfl⟩ ⟨(by show _ ≤ 601024; omega), (by show _ ≤ 7293034; omega)⟩ hP hD hK hS hZ [8, 9, 10, 11, 12, 13, 14] rfl (by decide) 0 rfl rfl hl.1 rfl (Nat.le_of_ble_eq_true rfl) dL_law_341 (fun r3 H locs hq hP hS => ?_)
  obtain rfl := hq
  refine lv_iload hx hb dL_law_344 (lv_at hl 1 rfl) ?_
  refine lv_icmp_eq (tgt := 351) hx hb dL_law_346 (by decide) (fun _ => ?_) (fun hc => absurd rfl hc)
  refine lv_iload hx hb dL_law_351 (lv_at hl 1 rfl) ?_
  have hend : ∀ ls : Array Slot, lv_has ls 9 [(6, .int r2), (5, .int (nI th)), (4, .int (nI (4 * k))), (0, .ref b), (1, .ref h0), (2, .ref m0), (3, .ref ao)] → W p l e room_1 s m args below meth c H locs (cells + 1) (slots + 6) Q (F0 m 368 ls []) := fun ls hl => lv_goto (tgt := 1553) hx hb dL_law_368 (by decide) (nxt f n wn t tc sc uw c1 c2 s' ow hf tf m1 m2 m3 m4 m5 m6 th bg tn sl ht sn o nx kp ow2 H locs ls _ _ R (by omega) (lv_sub hl [2, 3, 4, 5, 6] rfl) hP hD hS (by omega) (by omega))
  refine ifN_ne (tgt := 368) hx hb dL_law_353 (by decide) (by omega) (fun _ => hend ls hl) (fun h0 => ?_)
  refine lv_aload_n hx hb dL_law_356 rfl (lv_at hl 6 rfl) ?_
  refine lv_iconst (v := nI 0) hx hb dL_law_357 (by decide) ?_
  refine va_lald (n := 1) hx hb hK hP 0 2 rfl rfl (vp_in_nI (by decide) (by decide)) dL_law_358 ?_
  rw [show (nI 0).toNatClampNeg = 0 from nI_clamp (by omega)]
  refine lv_iload hx hb dL_law_359 (lv_at hl 0 rfl) ?_
  rw [show f 0 = r2.toInt64 from hans h0]
  refine lv_i2l hx hb dL_law_361 rfl ?_
  refine W.lcmp hx hb dL_law_362 ?_
  rw [lgc]
  exact lv_if_eq (tgt := 368) hx hb dL_law_363 (by decide) (fun _ => hend ls hl) (fun hc => absurd rfl hc)

set_option maxHeartbeats 4000000 in
set_option maxRecDepth 100000 in
theorem cs_3 (X : LX p l s m args c dC dI cI cZ cJ A b L xs) (hkL : 4 * k + 4 ≤ L) (nxt : NX p l e s m args below meth c dC dI cI cZ cJ A Q b ao h0 h1 h2 h3 h4 h5 h6 m0 1553 (4 * k) (k + 1) (k + 1)) : NX p l e s m args below meth c dC dI cI cZ cJ A Q b ao h0 h1 h2 h3 h4 h5 h6 m0 371 (4 * k) k k := by
  obtain ⟨S, hlt, hK, hZ, hX, hN, hNw, hA, hbA, hXs, hbl, hL⟩ := X
  obtain ⟨hx, hb, hml, hown, hts⟩ := id S
  intro f n wn t tc sc uw c1 c2 s' ow hf tf m1 m2 m3 m4 m5 m6 th bg tn sl ht sn o nx kp ow2 H locs ls cells slots R htk hl hP hD hS hcc hss
  refine lv_aload_n hx hb dL_law_371 rfl (lv_at hl 2 rfl) ?_
  refine lv_aload_n hx hb dL_law_372 rfl (lv_at hl 4 rfl) ?_
  obtain ⟨P1, P2, fr, lo, hfr, hlo, hH, hM, hJ⟩ := op_takeTurn (cJ := cJ) hlt ao h0 h1 h2 h3 h4 h5 h6 n wn t tc sc uw c1 c2 s' ow hf tf f m0 m1 m2 m3 m4 m5 m6 th bg tn sl ht sn o nx kp ow2 R (by omega) 
  refine call_Hi (As := [.ref h0, .ref ao]) (rest := []) (wr := mW cI cZ m0 m1 m2 m3 m4 m5 m6 th n bg tn sl ht sn o nx kp ow2) S hH g_L_L_takeTurn hd_L_takeTurn ⟨Nat.le_of_ble_eq_true rfl, Nat.le_of_ble_eq_true rfl⟩ ⟨(by show _ ≤ 601024; omega), (by show _ ≤ 7293034; omega)⟩ hP hD hK hS hZ hX hN [0, 1, 2, 3, 4, 5, 6, 7] [8, 9, 10, 11, 12, 13, 14] rfl rfl (by decide) hl.1 rfl (Nat.le_of_ble_eq_true rfl) dL_law_373 (fun r1 u1 H locs q1 hP hD hS => ?_)
  refine lv_istore (lv' := [(5, .int r1), (4, .int (nI (4 * k))), (0, .ref b), (1, .ref h0), (2, .ref m0), (3, .ref ao)]) hx hb dL_law_376 hl (by decide) rfl (fun ls hl => ?_)
  refine lv_aload_n hx hb dL_law_378 rfl (lv_at hl 4 rfl) ?_
  refine call_Vi (As := []) (wr := u1) (rest := []) S hM g_L_X2_takeTurn hd_X2_takeTurn ⟨(by show fr + 1 ≤ 12; omega), (by show 8 + (2 + 11) + lo ≤ 440; omega)⟩ ⟨(by show _ ≤ 601024; omega), (by show _ ≤ 7293034; omega)⟩ hP hD hK hS hZ [0, 1, 2, 3, 4, 5, 6] ((List.range u1.length).map (· + 7)) rfl (ix_B (mW cI cZ m0 m1 m2 m3 m4 m5 m6 th n bg tn sl ht sn o nx kp ow2) u1 7 rfl) (nd_B _) 0 rfl rfl hl.1 rfl (Nat.le_of_ble_eq_true rfl) dL_law_379 (fun r2 u2 H locs q2 hP hD hS => ?_)
  refine lv_istore (lv' := [(6, .int r2), (5, .int r1), (4, .int (nI (4 * k))), (0, .ref b), (1, .ref h0), (2, .ref m0), (3, .ref ao)]) hx hb dL_law_382 hl (by decide) rfl (fun ls hl => ?_)
  obtain ⟨f, n, wn, t, tc, sc, uw, c1, c2, s', ow, hf, tf, m1, m2, m3, m4, m5, m6, th, bg, tn, sl, ht, sn, o, nx, kp, ow2, rfl, rfl, R, htk2, hth, rfl, hans⟩ := hJ _ _ _ _ q1 q2
  have hP : va_P (dC, dI) vwCl (GO cI cJ ao h0 h1 h2 h3 h4 h5 h6 f n wn t tc sc uw c1 c2 s' ow hf tf ++ mW cI cZ m0 m1 m2 m3 m4 m5 m6 th n bg tn sl ht sn o nx kp ow2) H := hP
  have hD : va_D A (GO cI cJ ao h0 h1 h2 h3 h4 h5 h6 f n wn t tc sc uw c1 c2 s' ow hf tf ++ mW cI cZ m0 m1 m2 m3 m4 m5 m6 th n bg tn sl ht sn o nx kp ow2) := hD
  refine lv_aload_n hx hb dL_law_384 rfl (lv_at hl 5 rfl) ?_
  refine call_Vp (As := []) (rest := []) S (m_X2_thrown m0 m1 m2 m3 m4 m5 m6 th n bg tn sl ht sn o nx kp ow2) g_L_X2_thrown hd_X2_thrown ⟨Nat.le_of_ble_eq_true rfl, Nat.le_of_ble_eq_true rfl⟩ ⟨(by show _ ≤ 601024; omega), (by show _ ≤ 7293034; omega)⟩ hP hD hK hS hZ [8, 9, 10, 11, 12, 13, 14] rfl (by decide) 0 rfl rfl hl.1 rfl (Nat.le_of_ble_eq_true rfl) dL_law_385 (fun r3 H locs hq hP hS => ?_)
  obtain rfl := hq
  refine lv_iload hx hb dL_law_388 (lv_at hl 1 rfl) ?_
  refine lv_icmp_eq (tgt := 395) hx hb dL_law_390 (by decide) (fun _ => ?_) (fun hc => absurd rfl hc)
  refine lv_iload hx hb dL_law_395 (lv_at hl 1 rfl) ?_
  have hend : ∀ ls : Array Slot, lv_has ls 9 [(6, .int r2), (5, .int (nI th)), (4, .int (nI (4 * k))), (0, .ref b), (1, .ref h0), (2, .ref m0), (3, .ref ao)] → W p l e room_1 s m args below meth c H locs (cells + 1) (slots + 6) Q (F0 m 412 ls []) := fun ls hl => lv_goto (tgt := 1553) hx hb dL_law_412 (by decide) (nxt f n wn t tc sc uw c1 c2 s' ow hf tf m1 m2 m3 m4 m5 m6 th bg tn sl ht sn o nx kp ow2 H locs ls _ _ R (by omega) (lv_sub hl [2, 3, 4, 5, 6] rfl) hP hD hS (by omega) (by omega))
  refine ifN_ne (tgt := 412) hx hb dL_law_397 (by decide) (by omega) (fun _ => hend ls hl) (fun h0 => ?_)
  refine lv_aload_n hx hb dL_law_400 rfl (lv_at hl 6 rfl) ?_
  refine lv_iconst (v := nI 0) hx hb dL_law_401 (by decide) ?_
  refine va_lald (n := 1) hx hb hK hP 0 2 rfl rfl (vp_in_nI (by decide) (by decide)) dL_law_402 ?_
  rw [show (nI 0).toNatClampNeg = 0 from nI_clamp (by omega)]
  refine lv_iload hx hb dL_law_403 (lv_at hl 0 rfl) ?_
  rw [show f 0 = r2.toInt64 from hans h0]
  refine lv_i2l hx hb dL_law_405 rfl ?_
  refine W.lcmp hx hb dL_law_406 ?_
  rw [lgc]
  exact lv_if_eq (tgt := 412) hx hb dL_law_407 (by decide) (fun _ => hend ls hl) (fun hc => absurd rfl hc)

set_option maxHeartbeats 4000000 in
set_option maxRecDepth 100000 in
theorem cs_4 (X : LX p l s m args c dC dI cI cZ cJ A b L xs) (hkL : 4 * k + 4 ≤ L) (nxt : NX p l e s m args below meth c dC dI cI cZ cJ A Q b ao h0 h1 h2 h3 h4 h5 h6 m0 1553 (4 * k) (k + 1) (k + 1)) : NX p l e s m args below meth c dC dI cI cZ cJ A Q b ao h0 h1 h2 h3 h4 h5 h6 m0 415 (4 * k) k k := by
  obtain ⟨S, hlt, hK, hZ, hX, hN, hNw, hA, hbA, hXs, hbl, hL⟩ := X
  obtain ⟨hx, hb, hml, hown, hts⟩ := id S
  intro f n wn t tc sc uw c1 c2 s' ow hf tf m1 m2 m3 m4 m5 m6 th bg tn sl ht sn o nx kp ow2 H locs ls cells slots R htk hl hP hD hS hcc hss
  refine lv_aload_n hx hb dL_law_415 rfl (lv_at hl 2 rfl) ?_
  refine lv_aload_n hx hb dL_law_416 rfl (lv_at hl 1 rfl) ?_
  refine lv_iload hx hb dL_law_417 (lv_at hl 0 rfl) ?_
  refine lv_iconst (v := nI 1) hx hb dL_law_419 (by decide) ?_
  refine lv_iadd hx hb dL_law_420 ?_
  refine W_i (y := nI (4 * k + 1)) (nI_add _ _) ?_
  refine va_sld hx hb hXs hbl hbA hS (vp_in_nI (show 4 * k + 1 < L by omega) (by omega)) dL_law_421 ?_
  refine lv_aload_n hx hb dL_law_422 rfl (lv_at hl 1 rfl) ?_
  refine lv_iload hx hb dL_law_423 (lv_at hl 0 rfl) ?_
  refine lv_iconst (v := nI 2) hx hb dL_law_425 (by decide) ?_
  refine lv_iadd hx hb dL_law_426 ?_
  refine W_i (y := nI (4 * k + 2)) (nI_add _ _) ?_
  refine va_sld hx hb hXs hbl hbA hS (vp_in_nI (show 4 * k + 2 < L by omega) (by omega)) dL_law_427 ?_
  refine lv_aload_n hx hb dL_law_428 rfl (lv_at hl 4 rfl) ?_
  obtain ⟨P1, P2, fr, lo, hfr, hlo, hH, hM, hJ⟩ := op_sayAtLeast (cJ := cJ) hlt ao h0 h1 h2 h3 h4 h5 h6 n wn t tc sc uw c1 c2 s' ow hf tf f m0 m1 m2 m3 m4 m5 m6 th bg tn sl ht sn o nx kp ow2 R (by omega) (xs (nI (4 * k + 1)).toNatClampNeg) (xs (nI (4 * k + 2)).toNatClampNeg)
  refine call_Hi (As := [.ref h0, .int (xs (nI (4 * k + 1)).toNatClampNeg), .int (xs (nI (4 * k + 2)).toNatClampNeg), .ref ao]) (rest := []) (wr := mW cI cZ m0 m1 m2 m3 m4 m5 m6 th n bg tn sl ht sn o nx kp ow2) S hH g_L_L_sayAtLeast hd_L_sayAtLeast ⟨Nat.le_of_ble_eq_true rfl, Nat.le_of_ble_eq_true rfl⟩ ⟨(by show _ ≤ 601024; omega), (by show _ ≤ 7293034; omega)⟩ hP hD hK hS hZ hX hN [0, 1, 2, 3, 4, 5, 6, 7] [8, 9, 10, 11, 12, 13, 14] rfl rfl (by decide) hl.1 rfl (Nat.le_of_ble_eq_true rfl) dL_law_429 (fun r1 u1 H locs q1 hP hD hS => ?_)
  refine lv_istore (lv' := [(5, .int r1), (4, .int (nI (4 * k))), (0, .ref b), (1, .ref h0), (2, .ref m0), (3, .ref ao)]) hx hb dL_law_432 hl (by decide) rfl (fun ls hl => ?_)
  refine lv_aload_n hx hb dL_law_434 rfl (lv_at hl 4 rfl) ?_
  refine lv_aload_n hx hb dL_law_435 rfl (lv_at hl 2 rfl) ?_
  refine lv_iload hx hb dL_law_436 (lv_at hl 1 rfl) ?_
  refine lv_iconst (v := nI 1) hx hb dL_law_438 (by decide) ?_
  refine lv_iadd hx hb dL_law_439 ?_
  refine W_i (y := nI (4 * k + 1)) (nI_add _ _) ?_
  refine va_sld hx hb hXs hbl hbA hS (vp_in_nI (show 4 * k + 1 < L by omega) (by omega)) dL_law_440 ?_
  refine lv_aload_n hx hb dL_law_441 rfl (lv_at hl 2 rfl) ?_
  refine lv_iload hx hb dL_law_442 (lv_at hl 1 rfl) ?_
  refine lv_iconst (v := nI 2) hx hb dL_law_444 (by decide) ?_
  refine lv_iadd hx hb dL_law_445 ?_
  refine W_i (y := nI (4 * k + 2)) (nI_add _ _) ?_
  refine va_sld hx hb hXs hbl hbA hS (vp_in_nI (show 4 * k + 2 < L by omega) (by omega)) dL_law_446 ?_
  refine call_Vi (As := [.int (xs (nI (4 * k + 1)).toNatClampNeg), .int (xs (nI (4 * k + 2)).toNatClampNeg)]) (wr := u1) (rest := []) S hM g_L_X2_sayAtLeast hd_X2_sayAtLeast ⟨(by show fr + 1 ≤ 12; omega), (by show 8 + (3 + 11) + lo ≤ 440; omega)⟩ ⟨(by show _ ≤ 601024; omega), (by show _ ≤ 7293034; omega)⟩ hP hD hK hS hZ [0, 1, 2, 3, 4, 5, 6] ((List.range u1.length).map (· + 7)) rfl (ix_B (mW cI cZ m0 m1 m2 m3 m4 m5 m6 th n bg tn sl ht sn o nx kp ow2) u1 7 rfl) (nd_B _) 0 rfl rfl hl.1 rfl (Nat.le_of_ble_eq_true rfl) dL_law_447 (fun r2 u2 H locs q2 hP hD hS => ?_)
  refine lv_istore (lv' := [(6, .int r2), (5, .int r1), (4, .int (nI (4 * k))), (0, .ref b), (1, .ref h0), (2, .ref m0), (3, .ref ao)]) hx hb dL_law_450 hl (by decide) rfl (fun ls hl => ?_)
  obtain ⟨f, n, wn, t, tc, sc, uw, c1, c2, s', ow, hf, tf, m1, m2, m3, m4, m5, m6, th, bg, tn, sl, ht, sn, o, nx, kp, ow2, rfl, rfl, R, htk2, hth, rfl, hans⟩ := hJ _ _ _ _ q1 q2
  have hP : va_P (dC, dI) vwCl (GO cI cJ ao h0 h1 h2 h3 h4 h5 h6 f n wn t tc sc uw c1 c2 s' ow hf tf ++ mW cI cZ m0 m1 m2 m3 m4 m5 m6 th n bg tn sl ht sn o nx kp ow2) H := hP
  have hD : va_D A (GO cI cJ ao h0 h1 h2 h3 h4 h5 h6 f n wn t tc sc uw c1 c2 s' ow hf tf ++ mW cI cZ m0 m1 m2 m3 m4 m5 m6 th n bg tn sl ht sn o nx kp ow2) := hD
  refine lv_aload_n hx hb dL_law_452 rfl (lv_at hl 5 rfl) ?_
  refine call_Vp (As := []) (rest := []) S (m_X2_thrown m0 m1 m2 m3 m4 m5 m6 th n bg tn sl ht sn o nx kp ow2) g_L_X2_thrown hd_X2_thrown ⟨Nat.le_of_ble_eq_true rfl, Nat.le_of_ble_eq_true rfl⟩ ⟨(by show _ ≤ 601024; omega), (by show _ ≤ 7293034; omega)⟩ hP hD hK hS hZ [8, 9, 10, 11, 12, 13, 14] rfl (by decide) 0 rfl rfl hl.1 rfl (Nat.le_of_ble_eq_true rfl) dL_law_453 (fun r3 H locs hq hP hS => ?_)
  obtain rfl := hq
  refine lv_iload hx hb dL_law_456 (lv_at hl 1 rfl) ?_
  refine lv_icmp_eq (tgt := 463) hx hb dL_law_458 (by decide) (fun _ => ?_) (fun hc => absurd rfl hc)
  refine lv_iload hx hb dL_law_463 (lv_at hl 1 rfl) ?_
  have hend : ∀ ls : Array Slot, lv_has ls 9 [(6, .int r2), (5, .int (nI th)), (4, .int (nI (4 * k))), (0, .ref b), (1, .ref h0), (2, .ref m0), (3, .ref ao)] → W p l e room_1 s m args below meth c H locs (cells + 1) (slots + 6) Q (F0 m 480 ls []) := fun ls hl => lv_goto (tgt := 1553) hx hb dL_law_480 (by decide) (nxt f n wn t tc sc uw c1 c2 s' ow hf tf m1 m2 m3 m4 m5 m6 th bg tn sl ht sn o nx kp ow2 H locs ls _ _ R (by omega) (lv_sub hl [2, 3, 4, 5, 6] rfl) hP hD hS (by omega) (by omega))
  refine ifN_ne (tgt := 480) hx hb dL_law_465 (by decide) (by omega) (fun _ => hend ls hl) (fun h0 => ?_)
  refine lv_aload_n hx hb dL_law_468 rfl (lv_at hl 6 rfl) ?_
  refine lv_iconst (v := nI 0) hx hb dL_law_469 (by decide) ?_
  refine va_lald (n := 1) hx hb hK hP 0 2 rfl rfl (vp_in_nI (by decide) (by decide)) dL_law_470 ?_
  rw [show (nI 0).toNatClampNeg = 0 from nI_clamp (by omega)]
  refine lv_iload hx hb dL_law_471 (lv_at hl 0 rfl) ?_
  rw [show f 0 = r2.toInt64 from hans h0]
  refine lv_i2l hx hb dL_law_473 rfl ?_
  refine W.lcmp hx hb dL_law_474 ?_
  rw [lgc]
  exact lv_if_eq (tgt := 480) hx hb dL_law_475 (by decide) (fun _ => hend ls hl) (fun hc => absurd rfl hc)

set_option maxHeartbeats 4000000 in
set_option maxRecDepth 100000 in
theorem cs_5 (X : LX p l s m args c dC dI cI cZ cJ A b L xs) (hkL : 4 * k + 4 ≤ L) (nxt : NX p l e s m args below meth c dC dI cI cZ cJ A Q b ao h0 h1 h2 h3 h4 h5 h6 m0 1553 (4 * k) (k + 1) (k + 1)) : NX p l e s m args below meth c dC dI cI cZ cJ A Q b ao h0 h1 h2 h3 h4 h5 h6 m0 483 (4 * k) k k := by
  obtain ⟨S, hlt, hK, hZ, hX, hN, hNw, hA, hbA, hXs, hbl, hL⟩ := X
  obtain ⟨hx, hb, hml, hown, hts⟩ := id S
  intro f n wn t tc sc uw c1 c2 s' ow hf tf m1 m2 m3 m4 m5 m6 th bg tn sl ht sn o nx kp ow2 H locs ls cells slots R htk hl hP hD hS hcc hss
  refine lv_aload_n hx hb dL_law_483 rfl (lv_at hl 2 rfl) ?_
  refine lv_aload_n hx hb dL_law_484 rfl (lv_at hl 1 rfl) ?_
  refine lv_iload hx hb dL_law_485 (lv_at hl 0 rfl) ?_
  refine lv_iconst (v := nI 1) hx hb dL_law_487 (by decide) ?_
  refine lv_iadd hx hb dL_law_488 ?_
  refine W_i (y := nI (4 * k + 1)) (nI_add _ _) ?_
  refine va_sld hx hb hXs hbl hbA hS (vp_in_nI (show 4 * k + 1 < L by omega) (by omega)) dL_law_489 ?_
  refine lv_aload_n hx hb dL_law_490 rfl (lv_at hl 1 rfl) ?_
  refine lv_iload hx hb dL_law_491 (lv_at hl 0 rfl) ?_
  refine lv_iconst (v := nI 2) hx hb dL_law_493 (by decide) ?_
  refine lv_iadd hx hb dL_law_494 ?_
  refine W_i (y := nI (4 * k + 2)) (nI_add _ _) ?_
  refine va_sld hx hb hXs hbl hbA hS (vp_in_nI (show 4 * k + 2 < L by omega) (by omega)) dL_law_495 ?_
  refine lv_aload_n hx hb dL_law_496 rfl (lv_at hl 4 rfl) ?_
  obtain ⟨P1, P2, fr, lo, hfr, hlo, hH, hM, hJ⟩ := op_sayAtMost (cJ := cJ) hlt ao h0 h1 h2 h3 h4 h5 h6 n wn t tc sc uw c1 c2 s' ow hf tf f m0 m1 m2 m3 m4 m5 m6 th bg tn sl ht sn o nx kp ow2 R (by omega) (xs (nI (4 * k + 1)).toNatClampNeg) (xs (nI (4 * k + 2)).toNatClampNeg)
  refine call_Hi (As := [.ref h0, .int (xs (nI (4 * k + 1)).toNatClampNeg), .int (xs (nI (4 * k + 2)).toNatClampNeg), .ref ao]) (rest := []) (wr := mW cI cZ m0 m1 m2 m3 m4 m5 m6 th n bg tn sl ht sn o nx kp ow2) S hH g_L_L_sayAtMost hd_L_sayAtMost ⟨Nat.le_of_ble_eq_true rfl, Nat.le_of_ble_eq_true rfl⟩ ⟨(by show _ ≤ 601024; omega), (by show _ ≤ 7293034; omega)⟩ hP hD hK hS hZ hX hN [0, 1, 2, 3, 4, 5, 6, 7] [8, 9, 10, 11, 12, 13, 14] rfl rfl (by decide) hl.1 rfl (Nat.le_of_ble_eq_true rfl) dL_law_497 (fun r1 u1 H locs q1 hP hD hS => ?_)
  refine lv_istore (lv' := [(5, .int r1), (4, .int (nI (4 * k))), (0, .ref b), (1, .ref h0), (2, .ref m0), (3, .ref ao)]) hx hb dL_law_500 hl (by decide) rfl (fun ls hl => ?_)
  refine lv_aload_n hx hb dL_law_502 rfl (lv_at hl 4 rfl) ?_
  refine lv_aload_n hx hb dL_law_503 rfl (lv_at hl 2 rfl) ?_
  refine lv_iload hx hb dL_law_504 (lv_at hl 1 rfl) ?_
  refine lv_iconst (v := nI 1) hx hb dL_law_506 (by decide) ?_
  refine lv_iadd hx hb dL_law_507 ?_
  refine W_i (y := nI (4 * k + 1)) (nI_add _ _) ?_
  refine va_sld hx hb hXs hbl hbA hS (vp_in_nI (show 4 * k + 1 < L by omega) (by omega)) dL_law_508 ?_
  refine lv_aload_n hx hb dL_law_509 rfl (lv_at hl 2 rfl) ?_
  refine lv_iload hx hb dL_law_510 (lv_at hl 1 rfl) ?_
  refine lv_iconst (v := nI 2) hx hb dL_law_512 (by decide) ?_
  refine lv_iadd hx hb dL_law_513 ?_
  refine W_i (y := nI (4 * k + 2)) (nI_add _ _) ?_
  refine va_sld hx hb hXs hbl hbA hS (vp_in_nI (show 4 * k + 2 < L by omega) (by omega)) dL_law_514 ?_
  refine call_Vi (As := [.int (xs (nI (4 * k + 1)).toNatClampNeg), .int (xs (nI (4 * k + 2)).toNatClampNeg)]) (wr := u1) (rest := []) S hM g_L_X2_sayAtMost hd_X2_sayAtMost ⟨(by show fr + 1 ≤ 12; omega), (by show 8 + (3 + 11) + lo ≤ 440; omega)⟩ ⟨(by show _ ≤ 601024; omega), (by show _ ≤ 7293034; omega)⟩ hP hD hK hS hZ [0, 1, 2, 3, 4, 5, 6] ((List.range u1.length).map (· + 7)) rfl (ix_B (mW cI cZ m0 m1 m2 m3 m4 m5 m6 th n bg tn sl ht sn o nx kp ow2) u1 7 rfl) (nd_B _) 0 rfl rfl hl.1 rfl (Nat.le_of_ble_eq_true rfl) dL_law_515 (fun r2 u2 H locs q2 hP hD hS => ?_)
  refine lv_istore (lv' := [(6, .int r2), (5, .int r1), (4, .int (nI (4 * k))), (0, .ref b), (1, .ref h0), (2, .ref m0), (3, .ref ao)]) hx hb dL_law_518 hl (by decide) rfl (fun ls hl => ?_)
  obtain ⟨f, n, wn, t, tc, sc, uw, c1, c2, s', ow, hf, tf, m1, m2, m3, m4, m5, m6, th, bg, tn, sl, ht, sn, o, nx, kp, ow2, rfl, rfl, R, htk2, hth, rfl, hans⟩ := hJ _ _ _ _ q1 q2
  have hP : va_P (dC, dI) vwCl (GO cI cJ ao h0 h1 h2 h3 h4 h5 h6 f n wn t tc sc uw c1 c2 s' ow hf tf ++ mW cI cZ m0 m1 m2 m3 m4 m5 m6 th n bg tn sl ht sn o nx kp ow2) H := hP
  have hD : va_D A (GO cI cJ ao h0 h1 h2 h3 h4 h5 h6 f n wn t tc sc uw c1 c2 s' ow hf tf ++ mW cI cZ m0 m1 m2 m3 m4 m5 m6 th n bg tn sl ht sn o nx kp ow2) := hD
  refine lv_aload_n hx hb dL_law_520 rfl (lv_at hl 5 rfl) ?_
  refine call_Vp (As := []) (rest := []) S (m_X2_thrown m0 m1 m2 m3 m4 m5 m6 th n bg tn sl ht sn o nx kp ow2) g_L_X2_thrown hd_X2_thrown ⟨Nat.le_of_ble_eq_true rfl, Nat.le_of_ble_eq_true rfl⟩ ⟨(by show _ ≤ 601024; omega), (by show _ ≤ 7293034; omega)⟩ hP hD hK hS hZ [8, 9, 10, 11, 12, 13, 14] rfl (by decide) 0 rfl rfl hl.1 rfl (Nat.le_of_ble_eq_true rfl) dL_law_521 (fun r3 H locs hq hP hS => ?_)
  obtain rfl := hq
  refine lv_iload hx hb dL_law_524 (lv_at hl 1 rfl) ?_
  refine lv_icmp_eq (tgt := 531) hx hb dL_law_526 (by decide) (fun _ => ?_) (fun hc => absurd rfl hc)
  refine lv_iload hx hb dL_law_531 (lv_at hl 1 rfl) ?_
  have hend : ∀ ls : Array Slot, lv_has ls 9 [(6, .int r2), (5, .int (nI th)), (4, .int (nI (4 * k))), (0, .ref b), (1, .ref h0), (2, .ref m0), (3, .ref ao)] → W p l e room_1 s m args below meth c H locs (cells + 1) (slots + 6) Q (F0 m 548 ls []) := fun ls hl => lv_goto (tgt := 1553) hx hb dL_law_548 (by decide) (nxt f n wn t tc sc uw c1 c2 s' ow hf tf m1 m2 m3 m4 m5 m6 th bg tn sl ht sn o nx kp ow2 H locs ls _ _ R (by omega) (lv_sub hl [2, 3, 4, 5, 6] rfl) hP hD hS (by omega) (by omega))
  refine ifN_ne (tgt := 548) hx hb dL_law_533 (by decide) (by omega) (fun _ => hend ls hl) (fun h0 => ?_)
  refine lv_aload_n hx hb dL_law_536 rfl (lv_at hl 6 rfl) ?_
  refine lv_iconst (v := nI 0) hx hb dL_law_537 (by decide) ?_
  refine va_lald (n := 1) hx hb hK hP 0 2 rfl rfl (vp_in_nI (by decide) (by decide)) dL_law_538 ?_
  rw [show (nI 0).toNatClampNeg = 0 from nI_clamp (by omega)]
  refine lv_iload hx hb dL_law_539 (lv_at hl 0 rfl) ?_
  rw [show f 0 = r2.toInt64 from hans h0]
  refine lv_i2l hx hb dL_law_541 rfl ?_
  refine W.lcmp hx hb dL_law_542 ?_
  rw [lgc]
  exact lv_if_eq (tgt := 548) hx hb dL_law_543 (by decide) (fun _ => hend ls hl) (fun hc => absurd rfl hc)

set_option maxHeartbeats 4000000 in
set_option maxRecDepth 100000 in
theorem cs_6 (X : LX p l s m args c dC dI cI cZ cJ A b L xs) (hkL : 4 * k + 4 ≤ L) (nxt : NX p l e s m args below meth c dC dI cI cZ cJ A Q b ao h0 h1 h2 h3 h4 h5 h6 m0 1553 (4 * k) (k + 1) (k + 1)) : NX p l e s m args below meth c dC dI cI cZ cJ A Q b ao h0 h1 h2 h3 h4 h5 h6 m0 551 (4 * k) k k := by
  obtain ⟨S, hlt, hK, hZ, hX, hN, hNw, hA, hbA, hXs, hbl, hL⟩ := X
  obtain ⟨hx, hb, hml, hown, hts⟩ := id S
  intro f n wn t tc sc uw c1 c2 s' ow hf tf m1 m2 m3 m4 m5 m6 th bg tn sl ht sn o nx kp ow2 H locs ls cells slots R htk hl hP hD hS hcc hss
  have e1 : uw = bg := R.2.2.2.2.1
  subst e1
  have e2 : tc = tn := R.2.2.2.2.2.1
  subst e2
  have e3 : sc = sl := R.2.2.2.2.2.2.1
  subst e3
  obtain ⟨hn, hw, hs, hc1, hb1, ht5, hsn, hht⟩ := R.inv
  have C := R.cx
  have P := R.rp
  have htn : tc < 2 ^ 20 := by omega
  have hTn := R.2.2.2.1
  refine lv_aload_n hx hb dL_law_551 rfl (lv_at hl 2 rfl) ?_
  refine call_Vi (As := []) (rest := []) (wr := (ao, .inl (cJ, 1, .inr (.inl f))) :: (mW cI cZ m0 m1 m2 m3 m4 m5 m6 th n uw tc sc ht sn o nx kp ow2)) S (m_X1_begin h0 h1 h2 h3 h4 h5 h6 n wn t tc sc uw c1 c2 s' ow hf tf hn hw hs hc1 hb1) g_L_X1_begin hd_X1_begin ⟨Nat.le_of_ble_eq_true rfl, Nat.le_of_ble_eq_true rfl⟩ ⟨(by show _ ≤ 601024; omega), (by show _ ≤ 7293034; omega)⟩ hP hD hK hS hZ [1, 2, 3, 4, 5, 6, 7] [0, 8, 9, 10, 11, 12, 13, 14] rfl rfl (by decide) 0 rfl rfl hl.1 rfl (Nat.le_of_ble_eq_true rfl) dL_law_552 (fun r1 u1 H locs hq1 hP hD hS => ?_)
  obtain ⟨rfl, g, rfl, hg⟩ := hq1
  refine lv_aload_n hx hb dL_law_555 rfl (lv_at hl 3 rfl) ?_
  refine call_Vi (As := []) (rest := [.int (nI (3 ^ n))]) (wr := GO cI cJ ao h0 h1 h2 h3 h4 h5 h6 f n wn 0 0 0 false (3 ^ n) c2 s' ow g tf) S (m_X2_begin m0 m1 m2 m3 m4 m5 m6 th n uw tc sc ht sn o nx kp ow2 hn) g_L_X2_begin hd_X2_begin ⟨Nat.le_of_ble_eq_true rfl, Nat.le_of_ble_eq_true rfl⟩ ⟨(by show _ ≤ 601024; omega), (by show _ ≤ 7293034; omega)⟩ hP hD hK hS hZ [1, 2, 3, 4, 5, 6, 7] [0, 8, 9, 10, 11, 12, 13, 14] rfl rfl (by decide) 0 rfl rfl hl.1 rfl (Nat.le_of_ble_eq_true rfl) dL_law_556 (fun r2 u2 H locs hq2 hP hD hS => ?_)
  obtain ⟨rfl, rfl⟩ := hq2
  refine lv_icmp_eq (tgt := 1553) hx hb dL_law_559 (by decide) (fun _ => ?_) (fun hc => absurd (rfl) hc)
  exact nxt f n wn 0 0 0 false (3 ^ n) c2 s' ow g tf m1 m2 m3 m4 m5 m6 0 false 0 0 ht sn (fun w => decide (w < 3 ^ n)) nx kp ow2 H locs ls _ _ (R.begin hg) (by omega) hl hP hD hS (by omega) (by omega)

set_option maxHeartbeats 4000000 in
set_option maxRecDepth 100000 in
theorem cs_7 (X : LX p l s m args c dC dI cI cZ cJ A b L xs) (hkL : 4 * k + 4 ≤ L) (nxt : NX p l e s m args below meth c dC dI cI cZ cJ A Q b ao h0 h1 h2 h3 h4 h5 h6 m0 1553 (4 * k) (k + 1) (k + 1)) : NX p l e s m args below meth c dC dI cI cZ cJ A Q b ao h0 h1 h2 h3 h4 h5 h6 m0 564 (4 * k) k k := by
  obtain ⟨S, hlt, hK, hZ, hX, hN, hNw, hA, hbA, hXs, hbl, hL⟩ := X
  obtain ⟨hx, hb, hml, hown, hts⟩ := id S
  intro f n wn t tc sc uw c1 c2 s' ow hf tf m1 m2 m3 m4 m5 m6 th bg tn sl ht sn o nx kp ow2 H locs ls cells slots R htk hl hP hD hS hcc hss
  have e1 : uw = bg := R.2.2.2.2.1
  subst e1
  have e2 : tc = tn := R.2.2.2.2.2.1
  subst e2
  have e3 : sc = sl := R.2.2.2.2.2.2.1
  subst e3
  obtain ⟨hn, hw, hs, hc1, hb1, ht5, hsn, hht⟩ := R.inv
  have C := R.cx
  have P := R.rp
  have htn : tc < 2 ^ 20 := by omega
  have hTn := R.2.2.2.1
  refine lv_aload_n hx hb dL_law_564 rfl (lv_at hl 2 rfl) ?_
  refine call_Vp (As := []) (rest := []) S (m_X1_players h0 h1 h2 h3 h4 h5 h6 n wn t tc sc uw c1 c2 s' ow hf tf hn hw hs hc1 hb1) g_L_X1_players hd_X1_players ⟨Nat.le_of_ble_eq_true rfl, Nat.le_of_ble_eq_true rfl⟩ ⟨(by show _ ≤ 601024; omega), (by show _ ≤ 7293034; omega)⟩ hP hD hK hS hZ [1, 2, 3, 4, 5, 6, 7] rfl (by decide) 0 rfl rfl hl.1 rfl (Nat.le_of_ble_eq_true rfl) dL_law_565 (fun r1 H locs hq1 hP hS => ?_)
  refine lv_aload_n hx hb dL_law_568 rfl (lv_at hl 3 rfl) ?_
  refine call_Vi (As := []) (rest := [.int r1]) (wr := GO cI cJ ao h0 h1 h2 h3 h4 h5 h6 f n wn t tc sc uw c1 c2 s' ow hf tf) S (m_X2_players m0 m1 m2 m3 m4 m5 m6 th n uw tc sc ht sn o nx kp ow2 ) g_L_X2_players hd_X2_players ⟨Nat.le_of_ble_eq_true rfl, Nat.le_of_ble_eq_true rfl⟩ ⟨(by show _ ≤ 601024; omega), (by show _ ≤ 7293034; omega)⟩ hP hD hK hS hZ [8, 9, 10, 11, 12, 13, 14] [0, 1, 2, 3, 4, 5, 6, 7] rfl rfl (by decide) 0 rfl rfl hl.1 rfl (Nat.le_of_ble_eq_true rfl) dL_law_569 (fun r2 u2 H locs hq2 hP hD hS => ?_)
  obtain ⟨rfl, rfl⟩ := hq2
  obtain rfl := hq1
  refine lv_icmp_eq (tgt := 1553) hx hb dL_law_572 (by decide) (fun _ => ?_) (fun hc => absurd (rfl) hc)
  exact nxt f n wn t tc sc uw c1 c2 s' ow hf tf m1 m2 m3 m4 m5 m6 0 uw tc sc ht sn o nx kp ow2 H locs ls _ _ R (by omega) hl hP hD hS (by omega) (by omega)

set_option maxHeartbeats 4000000 in
set_option maxRecDepth 100000 in
theorem cs_8 (X : LX p l s m args c dC dI cI cZ cJ A b L xs) (hkL : 4 * k + 4 ≤ L) (nxt : NX p l e s m args below meth c dC dI cI cZ cJ A Q b ao h0 h1 h2 h3 h4 h5 h6 m0 1553 (4 * k) (k + 1) (k + 1)) : NX p l e s m args below meth c dC dI cI cZ cJ A Q b ao h0 h1 h2 h3 h4 h5 h6 m0 577 (4 * k) k k := by
  obtain ⟨S, hlt, hK, hZ, hX, hN, hNw, hA, hbA, hXs, hbl, hL⟩ := X
  obtain ⟨hx, hb, hml, hown, hts⟩ := id S
  intro f n wn t tc sc uw c1 c2 s' ow hf tf m1 m2 m3 m4 m5 m6 th bg tn sl ht sn o nx kp ow2 H locs ls cells slots R htk hl hP hD hS hcc hss
  have e1 : uw = bg := R.2.2.2.2.1
  subst e1
  have e2 : tc = tn := R.2.2.2.2.2.1
  subst e2
  have e3 : sc = sl := R.2.2.2.2.2.2.1
  subst e3
  obtain ⟨hn, hw, hs, hc1, hb1, ht5, hsn, hht⟩ := R.inv
  have C := R.cx
  have P := R.rp
  have htn : tc < 2 ^ 20 := by omega
  have hTn := R.2.2.2.1
  refine lv_aload_n hx hb dL_law_577 rfl (lv_at hl 2 rfl) ?_
  refine call_Vp (As := []) (rest := []) S (m_X1_turnsTaken h0 h1 h2 h3 h4 h5 h6 n wn t tc sc uw c1 c2 s' ow hf tf hn hw hs hc1 hb1) g_L_X1_turnsTaken hd_X1_turnsTaken ⟨Nat.le_of_ble_eq_true rfl, Nat.le_of_ble_eq_true rfl⟩ ⟨(by show _ ≤ 601024; omega), (by show _ ≤ 7293034; omega)⟩ hP hD hK hS hZ [1, 2, 3, 4, 5, 6, 7] rfl (by decide) 0 rfl rfl hl.1 rfl (Nat.le_of_ble_eq_true rfl) dL_law_578 (fun r1 H locs hq1 hP hS => ?_)
  refine lv_aload_n hx hb dL_law_581 rfl (lv_at hl 3 rfl) ?_
  refine call_Vi (As := []) (rest := [.int r1]) (wr := GO cI cJ ao h0 h1 h2 h3 h4 h5 h6 f n wn t tc sc uw c1 c2 s' ow hf tf) S (m_X2_turnsTaken m0 m1 m2 m3 m4 m5 m6 th n uw tc sc ht sn o nx kp ow2 ) g_L_X2_turnsTaken hd_X2_turnsTaken ⟨Nat.le_of_ble_eq_true rfl, Nat.le_of_ble_eq_true rfl⟩ ⟨(by show _ ≤ 601024; omega), (by show _ ≤ 7293034; omega)⟩ hP hD hK hS hZ [8, 9, 10, 11, 12, 13, 14] [0, 1, 2, 3, 4, 5, 6, 7] rfl rfl (by decide) 0 rfl rfl hl.1 rfl (Nat.le_of_ble_eq_true rfl) dL_law_582 (fun r2 u2 H locs hq2 hP hD hS => ?_)
  obtain ⟨rfl, rfl⟩ := hq2
  obtain rfl := hq1
  refine lv_icmp_eq (tgt := 1553) hx hb dL_law_585 (by decide) (fun _ => ?_) (fun hc => absurd (rfl) hc)
  exact nxt f n wn t tc sc uw c1 c2 s' ow hf tf m1 m2 m3 m4 m5 m6 0 uw tc sc ht sn o nx kp ow2 H locs ls _ _ R (by omega) hl hP hD hS (by omega) (by omega)

set_option maxHeartbeats 4000000 in
set_option maxRecDepth 100000 in
theorem cs_9 (X : LX p l s m args c dC dI cI cZ cJ A b L xs) (hkL : 4 * k + 4 ≤ L) (nxt : NX p l e s m args below meth c dC dI cI cZ cJ A Q b ao h0 h1 h2 h3 h4 h5 h6 m0 1553 (4 * k) (k + 1) (k + 1)) : NX p l e s m args below meth c dC dI cI cZ cJ A Q b ao h0 h1 h2 h3 h4 h5 h6 m0 590 (4 * k) k k := by
  obtain ⟨S, hlt, hK, hZ, hX, hN, hNw, hA, hbA, hXs, hbl, hL⟩ := X
  obtain ⟨hx, hb, hml, hown, hts⟩ := id S
  intro f n wn t tc sc uw c1 c2 s' ow hf tf m1 m2 m3 m4 m5 m6 th bg tn sl ht sn o nx kp ow2 H locs ls cells slots R htk hl hP hD hS hcc hss
  have e1 : uw = bg := R.2.2.2.2.1
  subst e1
  have e2 : tc = tn := R.2.2.2.2.2.1
  subst e2
  have e3 : sc = sl := R.2.2.2.2.2.2.1
  subst e3
  obtain ⟨hn, hw, hs, hc1, hb1, ht5, hsn, hht⟩ := R.inv
  have C := R.cx
  have P := R.rp
  have htn : tc < 2 ^ 20 := by omega
  have hTn := R.2.2.2.1
  refine lv_aload_n hx hb dL_law_590 rfl (lv_at hl 2 rfl) ?_
  refine call_Vp (As := []) (rest := []) S (m_X1_silentTurns h0 h1 h2 h3 h4 h5 h6 n wn t tc sc uw c1 c2 s' ow hf tf hn hw hs hc1 hb1) g_L_X1_silentTurns hd_X1_silentTurns ⟨Nat.le_of_ble_eq_true rfl, Nat.le_of_ble_eq_true rfl⟩ ⟨(by show _ ≤ 601024; omega), (by show _ ≤ 7293034; omega)⟩ hP hD hK hS hZ [1, 2, 3, 4, 5, 6, 7] rfl (by decide) 0 rfl rfl hl.1 rfl (Nat.le_of_ble_eq_true rfl) dL_law_591 (fun r1 H locs hq1 hP hS => ?_)
  refine lv_aload_n hx hb dL_law_594 rfl (lv_at hl 3 rfl) ?_
  refine call_Vi (As := []) (rest := [.int r1]) (wr := GO cI cJ ao h0 h1 h2 h3 h4 h5 h6 f n wn t tc sc uw c1 c2 s' ow hf tf) S (m_X2_silentTurns m0 m1 m2 m3 m4 m5 m6 th n uw tc sc ht sn o nx kp ow2 ) g_L_X2_silentTurns hd_X2_silentTurns ⟨Nat.le_of_ble_eq_true rfl, Nat.le_of_ble_eq_true rfl⟩ ⟨(by show _ ≤ 601024; omega), (by show _ ≤ 7293034; omega)⟩ hP hD hK hS hZ [8, 9, 10, 11, 12, 13, 14] [0, 1, 2, 3, 4, 5, 6, 7] rfl rfl (by decide) 0 rfl rfl hl.1 rfl (Nat.le_of_ble_eq_true rfl) dL_law_595 (fun r2 u2 H locs hq2 hP hD hS => ?_)
  obtain ⟨rfl, rfl⟩ := hq2
  obtain rfl := hq1
  refine lv_icmp_eq (tgt := 1553) hx hb dL_law_598 (by decide) (fun _ => ?_) (fun hc => absurd (rfl) hc)
  exact nxt f n wn t tc sc uw c1 c2 s' ow hf tf m1 m2 m3 m4 m5 m6 0 uw tc sc ht sn o nx kp ow2 H locs ls _ _ R (by omega) hl hP hD hS (by omega) (by omega)

set_option maxHeartbeats 4000000 in
set_option maxRecDepth 100000 in
theorem cs_10 (X : LX p l s m args c dC dI cI cZ cJ A b L xs) (hkL : 4 * k + 4 ≤ L) (nxt : NX p l e s m args below meth c dC dI cI cZ cJ A Q b ao h0 h1 h2 h3 h4 h5 h6 m0 1553 (4 * k) (k + 1) (k + 1)) : NX p l e s m args below meth c dC dI cI cZ cJ A Q b ao h0 h1 h2 h3 h4 h5 h6 m0 603 (4 * k) k k := by
  obtain ⟨S, hlt, hK, hZ, hX, hN, hNw, hA, hbA, hXs, hbl, hL⟩ := X
  obtain ⟨hx, hb, hml, hown, hts⟩ := id S
  intro f n wn t tc sc uw c1 c2 s' ow hf tf m1 m2 m3 m4 m5 m6 th bg tn sl ht sn o nx kp ow2 H locs ls cells slots R htk hl hP hD hS hcc hss
  have e1 : uw = bg := R.2.2.2.2.1
  subst e1
  have e2 : tc = tn := R.2.2.2.2.2.1
  subst e2
  have e3 : sc = sl := R.2.2.2.2.2.2.1
  subst e3
  obtain ⟨hn, hw, hs, hc1, hb1, ht5, hsn, hht⟩ := R.inv
  have C := R.cx
  have P := R.rp
  have htn : tc < 2 ^ 20 := by omega
  have hTn := R.2.2.2.1
  refine lv_aload_n hx hb dL_law_603 rfl (lv_at hl 2 rfl) ?_
  refine call_Vp (As := []) (rest := []) S (m_X1_playerInTurn h0 h1 h2 h3 h4 h5 h6 n wn t tc sc uw c1 c2 s' ow hf tf hn hw hs hc1 hb1) g_L_X1_playerInTurn hd_X1_playerInTurn ⟨Nat.le_of_ble_eq_true rfl, Nat.le_of_ble_eq_true rfl⟩ ⟨(by show _ ≤ 601024; omega), (by show _ ≤ 7293034; omega)⟩ hP hD hK hS hZ [1, 2, 3, 4, 5, 6, 7] rfl (by decide) 0 rfl rfl hl.1 rfl (Nat.le_of_ble_eq_true rfl) dL_law_604 (fun r1 H locs hq1 hP hS => ?_)
  refine lv_aload_n hx hb dL_law_607 rfl (lv_at hl 3 rfl) ?_
  refine call_Vi (As := []) (rest := [.int r1]) (wr := GO cI cJ ao h0 h1 h2 h3 h4 h5 h6 f n wn t tc sc uw c1 c2 s' ow hf tf) S (m_X2_playerInTurn m0 m1 m2 m3 m4 m5 m6 th n uw tc sc ht sn o nx kp ow2 hn htn) g_L_X2_playerInTurn hd_X2_playerInTurn ⟨Nat.le_of_ble_eq_true rfl, Nat.le_of_ble_eq_true rfl⟩ ⟨(by show _ ≤ 601024; omega), (by show _ ≤ 7293034; omega)⟩ hP hD hK hS hZ [8, 9, 10, 11, 12, 13, 14] [0, 1, 2, 3, 4, 5, 6, 7] rfl rfl (by decide) 0 rfl rfl hl.1 rfl (Nat.le_of_ble_eq_true rfl) dL_law_608 (fun r2 u2 H locs hq2 hP hD hS => ?_)
  obtain ⟨rfl, rfl⟩ := hq2
  obtain rfl := hq1
  refine lv_icmp_eq (tgt := 1553) hx hb dL_law_611 (by decide) (fun _ => ?_) (fun hc => absurd (who_eq hTn) hc)
  exact nxt f n wn t tc sc uw c1 c2 s' ow hf tf m1 m2 m3 m4 m5 m6 0 uw tc sc ht sn o nx kp ow2 H locs ls _ _ R (by omega) hl hP hD hS (by omega) (by omega)

set_option maxHeartbeats 4000000 in
set_option maxRecDepth 100000 in
theorem cs_11 (X : LX p l s m args c dC dI cI cZ cJ A b L xs) (hkL : 4 * k + 4 ≤ L) (nxt : NX p l e s m args below meth c dC dI cI cZ cJ A Q b ao h0 h1 h2 h3 h4 h5 h6 m0 1553 (4 * k) (k + 1) (k + 1)) : NX p l e s m args below meth c dC dI cI cZ cJ A Q b ao h0 h1 h2 h3 h4 h5 h6 m0 616 (4 * k) k k := by
  obtain ⟨S, hlt, hK, hZ, hX, hN, hNw, hA, hbA, hXs, hbl, hL⟩ := X
  obtain ⟨hx, hb, hml, hown, hts⟩ := id S
  intro f n wn t tc sc uw c1 c2 s' ow hf tf m1 m2 m3 m4 m5 m6 th bg tn sl ht sn o nx kp ow2 H locs ls cells slots R htk hl hP hD hS hcc hss
  refine lv_aload_n hx hb dL_law_616 rfl (lv_at hl 2 rfl) ?_
  refine lv_aload_n hx hb dL_law_617 rfl (lv_at hl 1 rfl) ?_
  refine lv_iload hx hb dL_law_618 (lv_at hl 0 rfl) ?_
  refine lv_iconst (v := nI 1) hx hb dL_law_620 (by decide) ?_
  refine lv_iadd hx hb dL_law_621 ?_
  refine W_i (y := nI (4 * k + 1)) (nI_add _ _) ?_
  refine va_sld hx hb hXs hbl hbA hS (vp_in_nI (show 4 * k + 1 < L by omega) (by omega)) dL_law_622 ?_
  refine lv_aload_n hx hb dL_law_623 rfl (lv_at hl 4 rfl) ?_
  obtain ⟨P1, P2, fr, lo, hfr, hlo, hH, hM, hJ⟩ := op_hatOf (cJ := cJ) hlt ao h0 h1 h2 h3 h4 h5 h6 n wn t tc sc uw c1 c2 s' ow hf tf f m0 m1 m2 m3 m4 m5 m6 th bg tn sl ht sn o nx kp ow2 R (by omega) (xs (nI (4 * k + 1)).toNatClampNeg)
  refine call_Hi (As := [.ref h0, .int (xs (nI (4 * k + 1)).toNatClampNeg), .ref ao]) (rest := []) (wr := mW cI cZ m0 m1 m2 m3 m4 m5 m6 th n bg tn sl ht sn o nx kp ow2) S hH g_L_L_hatOf hd_L_hatOf ⟨Nat.le_of_ble_eq_true rfl, Nat.le_of_ble_eq_true rfl⟩ ⟨(by show _ ≤ 601024; omega), (by show _ ≤ 7293034; omega)⟩ hP hD hK hS hZ hX hN [0, 1, 2, 3, 4, 5, 6, 7] [8, 9, 10, 11, 12, 13, 14] rfl rfl (by decide) hl.1 rfl (Nat.le_of_ble_eq_true rfl) dL_law_624 (fun r1 u1 H locs q1 hP hD hS => ?_)
  refine lv_istore (lv' := [(5, .int r1), (4, .int (nI (4 * k))), (0, .ref b), (1, .ref h0), (2, .ref m0), (3, .ref ao)]) hx hb dL_law_627 hl (by decide) rfl (fun ls hl => ?_)
  refine lv_aload_n hx hb dL_law_629 rfl (lv_at hl 4 rfl) ?_
  refine lv_aload_n hx hb dL_law_630 rfl (lv_at hl 2 rfl) ?_
  refine lv_iload hx hb dL_law_631 (lv_at hl 1 rfl) ?_
  refine lv_iconst (v := nI 1) hx hb dL_law_633 (by decide) ?_
  refine lv_iadd hx hb dL_law_634 ?_
  refine W_i (y := nI (4 * k + 1)) (nI_add _ _) ?_
  refine va_sld hx hb hXs hbl hbA hS (vp_in_nI (show 4 * k + 1 < L by omega) (by omega)) dL_law_635 ?_
  refine call_Vi (As := [.int (xs (nI (4 * k + 1)).toNatClampNeg)]) (wr := u1) (rest := []) S hM g_L_X2_hatOf hd_X2_hatOf ⟨(by show fr + 1 ≤ 12; omega), (by show 8 + (2 + 11) + lo ≤ 440; omega)⟩ ⟨(by show _ ≤ 601024; omega), (by show _ ≤ 7293034; omega)⟩ hP hD hK hS hZ [0, 1, 2, 3, 4, 5, 6] ((List.range u1.length).map (· + 7)) rfl (ix_B (mW cI cZ m0 m1 m2 m3 m4 m5 m6 th n bg tn sl ht sn o nx kp ow2) u1 7 rfl) (nd_B _) 0 rfl rfl hl.1 rfl (Nat.le_of_ble_eq_true rfl) dL_law_636 (fun r2 u2 H locs q2 hP hD hS => ?_)
  refine lv_istore (lv' := [(6, .int r2), (5, .int r1), (4, .int (nI (4 * k))), (0, .ref b), (1, .ref h0), (2, .ref m0), (3, .ref ao)]) hx hb dL_law_639 hl (by decide) rfl (fun ls hl => ?_)
  obtain ⟨f, n, wn, t, tc, sc, uw, c1, c2, s', ow, hf, tf, m1, m2, m3, m4, m5, m6, th, bg, tn, sl, ht, sn, o, nx, kp, ow2, rfl, rfl, R, htk2, hth, rfl, hans⟩ := hJ _ _ _ _ q1 q2
  have hP : va_P (dC, dI) vwCl (GO cI cJ ao h0 h1 h2 h3 h4 h5 h6 f n wn t tc sc uw c1 c2 s' ow hf tf ++ mW cI cZ m0 m1 m2 m3 m4 m5 m6 th n bg tn sl ht sn o nx kp ow2) H := hP
  have hD : va_D A (GO cI cJ ao h0 h1 h2 h3 h4 h5 h6 f n wn t tc sc uw c1 c2 s' ow hf tf ++ mW cI cZ m0 m1 m2 m3 m4 m5 m6 th n bg tn sl ht sn o nx kp ow2) := hD
  refine lv_aload_n hx hb dL_law_641 rfl (lv_at hl 5 rfl) ?_
  refine call_Vp (As := []) (rest := []) S (m_X2_thrown m0 m1 m2 m3 m4 m5 m6 th n bg tn sl ht sn o nx kp ow2) g_L_X2_thrown hd_X2_thrown ⟨Nat.le_of_ble_eq_true rfl, Nat.le_of_ble_eq_true rfl⟩ ⟨(by show _ ≤ 601024; omega), (by show _ ≤ 7293034; omega)⟩ hP hD hK hS hZ [8, 9, 10, 11, 12, 13, 14] rfl (by decide) 0 rfl rfl hl.1 rfl (Nat.le_of_ble_eq_true rfl) dL_law_642 (fun r3 H locs hq hP hS => ?_)
  obtain rfl := hq
  refine lv_iload hx hb dL_law_645 (lv_at hl 1 rfl) ?_
  refine lv_icmp_eq (tgt := 652) hx hb dL_law_647 (by decide) (fun _ => ?_) (fun hc => absurd rfl hc)
  refine lv_iload hx hb dL_law_652 (lv_at hl 1 rfl) ?_
  have hend : ∀ ls : Array Slot, lv_has ls 9 [(6, .int r2), (5, .int (nI th)), (4, .int (nI (4 * k))), (0, .ref b), (1, .ref h0), (2, .ref m0), (3, .ref ao)] → W p l e room_1 s m args below meth c H locs (cells + 1) (slots + 6) Q (F0 m 669 ls []) := fun ls hl => lv_goto (tgt := 1553) hx hb dL_law_669 (by decide) (nxt f n wn t tc sc uw c1 c2 s' ow hf tf m1 m2 m3 m4 m5 m6 th bg tn sl ht sn o nx kp ow2 H locs ls _ _ R (by omega) (lv_sub hl [2, 3, 4, 5, 6] rfl) hP hD hS (by omega) (by omega))
  refine ifN_ne (tgt := 669) hx hb dL_law_654 (by decide) (by omega) (fun _ => hend ls hl) (fun h0 => ?_)
  refine lv_aload_n hx hb dL_law_657 rfl (lv_at hl 6 rfl) ?_
  refine lv_iconst (v := nI 0) hx hb dL_law_658 (by decide) ?_
  refine va_lald (n := 1) hx hb hK hP 0 2 rfl rfl (vp_in_nI (by decide) (by decide)) dL_law_659 ?_
  rw [show (nI 0).toNatClampNeg = 0 from nI_clamp (by omega)]
  refine lv_iload hx hb dL_law_660 (lv_at hl 0 rfl) ?_
  rw [show f 0 = r2.toInt64 from hans h0]
  refine lv_i2l hx hb dL_law_662 rfl ?_
  refine W.lcmp hx hb dL_law_663 ?_
  rw [lgc]
  exact lv_if_eq (tgt := 669) hx hb dL_law_664 (by decide) (fun _ => hend ls hl) (fun hc => absurd rfl hc)

set_option maxHeartbeats 4000000 in
set_option maxRecDepth 100000 in
theorem cs_12 (X : LX p l s m args c dC dI cI cZ cJ A b L xs) (hkL : 4 * k + 4 ≤ L) (nxt : NX p l e s m args below meth c dC dI cI cZ cJ A Q b ao h0 h1 h2 h3 h4 h5 h6 m0 1553 (4 * k) (k + 1) (k + 1)) : NX p l e s m args below meth c dC dI cI cZ cJ A Q b ao h0 h1 h2 h3 h4 h5 h6 m0 672 (4 * k) k k := by
  obtain ⟨S, hlt, hK, hZ, hX, hN, hNw, hA, hbA, hXs, hbl, hL⟩ := X
  obtain ⟨hx, hb, hml, hown, hts⟩ := id S
  intro f n wn t tc sc uw c1 c2 s' ow hf tf m1 m2 m3 m4 m5 m6 th bg tn sl ht sn o nx kp ow2 H locs ls cells slots R htk hl hP hD hS hcc hss
  refine lv_aload_n hx hb dL_law_672 rfl (lv_at hl 2 rfl) ?_
  refine lv_aload_n hx hb dL_law_673 rfl (lv_at hl 1 rfl) ?_
  refine lv_iload hx hb dL_law_674 (lv_at hl 0 rfl) ?_
  refine lv_iconst (v := nI 1) hx hb dL_law_676 (by decide) ?_
  refine lv_iadd hx hb dL_law_677 ?_
  refine W_i (y := nI (4 * k + 1)) (nI_add _ _) ?_
  refine va_sld hx hb hXs hbl hbA hS (vp_in_nI (show 4 * k + 1 < L by omega) (by omega)) dL_law_678 ?_
  refine lv_aload_n hx hb dL_law_679 rfl (lv_at hl 1 rfl) ?_
  refine lv_iload hx hb dL_law_680 (lv_at hl 0 rfl) ?_
  refine lv_iconst (v := nI 2) hx hb dL_law_682 (by decide) ?_
  refine lv_iadd hx hb dL_law_683 ?_
  refine W_i (y := nI (4 * k + 2)) (nI_add _ _) ?_
  refine va_sld hx hb hXs hbl hbA hS (vp_in_nI (show 4 * k + 2 < L by omega) (by omega)) dL_law_684 ?_
  refine lv_aload_n hx hb dL_law_685 rfl (lv_at hl 4 rfl) ?_
  obtain ⟨P1, P2, fr, lo, hfr, hlo, hH, hM, hJ⟩ := op_sees (cJ := cJ) hlt ao h0 h1 h2 h3 h4 h5 h6 n wn t tc sc uw c1 c2 s' ow hf tf f m0 m1 m2 m3 m4 m5 m6 th bg tn sl ht sn o nx kp ow2 R (by omega) (xs (nI (4 * k + 1)).toNatClampNeg) (xs (nI (4 * k + 2)).toNatClampNeg)
  refine call_Hi (As := [.ref h0, .int (xs (nI (4 * k + 1)).toNatClampNeg), .int (xs (nI (4 * k + 2)).toNatClampNeg), .ref ao]) (rest := []) (wr := mW cI cZ m0 m1 m2 m3 m4 m5 m6 th n bg tn sl ht sn o nx kp ow2) S hH g_L_L_sees hd_L_sees ⟨Nat.le_of_ble_eq_true rfl, Nat.le_of_ble_eq_true rfl⟩ ⟨(by show _ ≤ 601024; omega), (by show _ ≤ 7293034; omega)⟩ hP hD hK hS hZ hX hN [0, 1, 2, 3, 4, 5, 6, 7] [8, 9, 10, 11, 12, 13, 14] rfl rfl (by decide) hl.1 rfl (Nat.le_of_ble_eq_true rfl) dL_law_686 (fun r1 u1 H locs q1 hP hD hS => ?_)
  refine lv_istore (lv' := [(5, .int r1), (4, .int (nI (4 * k))), (0, .ref b), (1, .ref h0), (2, .ref m0), (3, .ref ao)]) hx hb dL_law_689 hl (by decide) rfl (fun ls hl => ?_)
  refine lv_aload_n hx hb dL_law_691 rfl (lv_at hl 4 rfl) ?_
  refine lv_aload_n hx hb dL_law_692 rfl (lv_at hl 2 rfl) ?_
  refine lv_iload hx hb dL_law_693 (lv_at hl 1 rfl) ?_
  refine lv_iconst (v := nI 1) hx hb dL_law_695 (by decide) ?_
  refine lv_iadd hx hb dL_law_696 ?_
  refine W_i (y := nI (4 * k + 1)) (nI_add _ _) ?_
  refine va_sld hx hb hXs hbl hbA hS (vp_in_nI (show 4 * k + 1 < L by omega) (by omega)) dL_law_697 ?_
  refine lv_aload_n hx hb dL_law_698 rfl (lv_at hl 2 rfl) ?_
  refine lv_iload hx hb dL_law_699 (lv_at hl 1 rfl) ?_
  refine lv_iconst (v := nI 2) hx hb dL_law_701 (by decide) ?_
  refine lv_iadd hx hb dL_law_702 ?_
  refine W_i (y := nI (4 * k + 2)) (nI_add _ _) ?_
  refine va_sld hx hb hXs hbl hbA hS (vp_in_nI (show 4 * k + 2 < L by omega) (by omega)) dL_law_703 ?_
  refine call_Vi (As := [.int (xs (nI (4 * k + 1)).toNatClampNeg), .int (xs (nI (4 * k + 2)).toNatClampNeg)]) (wr := u1) (rest := []) S hM g_L_X2_sees_ hd_X2_sees_ ⟨(by show fr + 1 ≤ 12; omega), (by show 8 + (3 + 11) + lo ≤ 440; omega)⟩ ⟨(by show _ ≤ 601024; omega), (by show _ ≤ 7293034; omega)⟩ hP hD hK hS hZ [0, 1, 2, 3, 4, 5, 6] ((List.range u1.length).map (· + 7)) rfl (ix_B (mW cI cZ m0 m1 m2 m3 m4 m5 m6 th n bg tn sl ht sn o nx kp ow2) u1 7 rfl) (nd_B _) 0 rfl rfl hl.1 rfl (Nat.le_of_ble_eq_true rfl) dL_law_704 (fun r2 u2 H locs q2 hP hD hS => ?_)
  refine lv_istore (lv' := [(6, .int r2), (5, .int r1), (4, .int (nI (4 * k))), (0, .ref b), (1, .ref h0), (2, .ref m0), (3, .ref ao)]) hx hb dL_law_707 hl (by decide) rfl (fun ls hl => ?_)
  obtain ⟨f, n, wn, t, tc, sc, uw, c1, c2, s', ow, hf, tf, m1, m2, m3, m4, m5, m6, th, bg, tn, sl, ht, sn, o, nx, kp, ow2, rfl, rfl, R, htk2, hth, rfl, hans⟩ := hJ _ _ _ _ q1 q2
  have hP : va_P (dC, dI) vwCl (GO cI cJ ao h0 h1 h2 h3 h4 h5 h6 f n wn t tc sc uw c1 c2 s' ow hf tf ++ mW cI cZ m0 m1 m2 m3 m4 m5 m6 th n bg tn sl ht sn o nx kp ow2) H := hP
  have hD : va_D A (GO cI cJ ao h0 h1 h2 h3 h4 h5 h6 f n wn t tc sc uw c1 c2 s' ow hf tf ++ mW cI cZ m0 m1 m2 m3 m4 m5 m6 th n bg tn sl ht sn o nx kp ow2) := hD
  refine lv_aload_n hx hb dL_law_709 rfl (lv_at hl 5 rfl) ?_
  refine call_Vp (As := []) (rest := []) S (m_X2_thrown m0 m1 m2 m3 m4 m5 m6 th n bg tn sl ht sn o nx kp ow2) g_L_X2_thrown hd_X2_thrown ⟨Nat.le_of_ble_eq_true rfl, Nat.le_of_ble_eq_true rfl⟩ ⟨(by show _ ≤ 601024; omega), (by show _ ≤ 7293034; omega)⟩ hP hD hK hS hZ [8, 9, 10, 11, 12, 13, 14] rfl (by decide) 0 rfl rfl hl.1 rfl (Nat.le_of_ble_eq_true rfl) dL_law_710 (fun r3 H locs hq hP hS => ?_)
  obtain rfl := hq
  refine lv_iload hx hb dL_law_713 (lv_at hl 1 rfl) ?_
  refine lv_icmp_eq (tgt := 720) hx hb dL_law_715 (by decide) (fun _ => ?_) (fun hc => absurd rfl hc)
  refine lv_iload hx hb dL_law_720 (lv_at hl 1 rfl) ?_
  have hend : ∀ ls : Array Slot, lv_has ls 9 [(6, .int r2), (5, .int (nI th)), (4, .int (nI (4 * k))), (0, .ref b), (1, .ref h0), (2, .ref m0), (3, .ref ao)] → W p l e room_1 s m args below meth c H locs (cells + 1) (slots + 6) Q (F0 m 744 ls []) := fun ls hl => lv_goto (tgt := 1553) hx hb dL_law_744 (by decide) (nxt f n wn t tc sc uw c1 c2 s' ow hf tf m1 m2 m3 m4 m5 m6 th bg tn sl ht sn o nx kp ow2 H locs ls _ _ R (by omega) (lv_sub hl [2, 3, 4, 5, 6] rfl) hP hD hS (by omega) (by omega))
  refine ifN_ne (tgt := 744) hx hb dL_law_722 (by decide) (by omega) (fun _ => hend ls hl) (fun h0 => ?_)
  refine lv_aload_n hx hb dL_law_725 rfl (lv_at hl 6 rfl) ?_
  refine lv_iconst (v := nI 0) hx hb dL_law_726 (by decide) ?_
  refine va_lald (n := 1) hx hb hK hP 0 2 rfl rfl (vp_in_nI (by decide) (by decide)) dL_law_727 ?_
  rw [show (nI 0).toNatClampNeg = 0 from nI_clamp (by omega)]
  refine lv_iload hx hb dL_law_728 (lv_at hl 0 rfl) ?_
  obtain ⟨b2, rfl, hb2⟩ := hans h0
  rw [hb2]
  refine ternL_eq hx hb dL_law_730 dL_law_733 dL_law_734 dL_law_737 (by decide) (by decide) ?_
  refine W.lcmp hx hb dL_law_738 ?_
  rw [lgc]
  exact lv_if_eq (tgt := 744) hx hb dL_law_739 (by decide) (fun _ => hend ls hl) (fun hc => absurd rfl hc)

set_option maxHeartbeats 4000000 in
set_option maxRecDepth 100000 in
theorem cs_13 (X : LX p l s m args c dC dI cI cZ cJ A b L xs) (hkL : 4 * k + 4 ≤ L) (nxt : NX p l e s m args below meth c dC dI cI cZ cJ A Q b ao h0 h1 h2 h3 h4 h5 h6 m0 1553 (4 * k) (k + 1) (k + 1)) : NX p l e s m args below meth c dC dI cI cZ cJ A Q b ao h0 h1 h2 h3 h4 h5 h6 m0 747 (4 * k) k k := by
  obtain ⟨S, hlt, hK, hZ, hX, hN, hNw, hA, hbA, hXs, hbl, hL⟩ := X
  obtain ⟨hx, hb, hml, hown, hts⟩ := id S
  intro f n wn t tc sc uw c1 c2 s' ow hf tf m1 m2 m3 m4 m5 m6 th bg tn sl ht sn o nx kp ow2 H locs ls cells slots R htk hl hP hD hS hcc hss
  refine lv_aload_n hx hb dL_law_747 rfl (lv_at hl 2 rfl) ?_
  refine lv_aload_n hx hb dL_law_748 rfl (lv_at hl 1 rfl) ?_
  refine lv_iload hx hb dL_law_749 (lv_at hl 0 rfl) ?_
  refine lv_iconst (v := nI 1) hx hb dL_law_751 (by decide) ?_
  refine lv_iadd hx hb dL_law_752 ?_
  refine W_i (y := nI (4 * k + 1)) (nI_add _ _) ?_
  refine va_sld hx hb hXs hbl hbA hS (vp_in_nI (show 4 * k + 1 < L by omega) (by omega)) dL_law_753 ?_
  refine lv_aload_n hx hb dL_law_754 rfl (lv_at hl 4 rfl) ?_
  obtain ⟨P1, P2, fr, lo, hfr, hlo, hH, hM, hJ⟩ := op_hatsOf (cJ := cJ) hlt ao h0 h1 h2 h3 h4 h5 h6 n wn t tc sc uw c1 c2 s' ow hf tf f m0 m1 m2 m3 m4 m5 m6 th bg tn sl ht sn o nx kp ow2 R (by omega) (xs (nI (4 * k + 1)).toNatClampNeg)
  refine call_Hi (As := [.ref h0, .int (xs (nI (4 * k + 1)).toNatClampNeg), .ref ao]) (rest := []) (wr := mW cI cZ m0 m1 m2 m3 m4 m5 m6 th n bg tn sl ht sn o nx kp ow2) S hH g_L_L_hatsOf hd_L_hatsOf ⟨Nat.le_of_ble_eq_true rfl, Nat.le_of_ble_eq_true rfl⟩ ⟨(by show _ ≤ 601024; omega), (by show _ ≤ 7293034; omega)⟩ hP hD hK hS hZ hX hN [0, 1, 2, 3, 4, 5, 6, 7] [8, 9, 10, 11, 12, 13, 14] rfl rfl (by decide) hl.1 rfl (Nat.le_of_ble_eq_true rfl) dL_law_755 (fun r1 u1 H locs q1 hP hD hS => ?_)
  refine lv_istore (lv' := [(5, .int r1), (4, .int (nI (4 * k))), (0, .ref b), (1, .ref h0), (2, .ref m0), (3, .ref ao)]) hx hb dL_law_758 hl (by decide) rfl (fun ls hl => ?_)
  refine lv_aload_n hx hb dL_law_760 rfl (lv_at hl 4 rfl) ?_
  refine lv_aload_n hx hb dL_law_761 rfl (lv_at hl 2 rfl) ?_
  refine lv_iload hx hb dL_law_762 (lv_at hl 1 rfl) ?_
  refine lv_iconst (v := nI 1) hx hb dL_law_764 (by decide) ?_
  refine lv_iadd hx hb dL_law_765 ?_
  refine W_i (y := nI (4 * k + 1)) (nI_add _ _) ?_
  refine va_sld hx hb hXs hbl hbA hS (vp_in_nI (show 4 * k + 1 < L by omega) (by omega)) dL_law_766 ?_
  refine call_Vi (As := [.int (xs (nI (4 * k + 1)).toNatClampNeg)]) (wr := u1) (rest := []) S hM g_L_X2_hatsOf hd_X2_hatsOf ⟨(by show fr + 1 ≤ 12; omega), (by show 8 + (2 + 11) + lo ≤ 440; omega)⟩ ⟨(by show _ ≤ 601024; omega), (by show _ ≤ 7293034; omega)⟩ hP hD hK hS hZ [0, 1, 2, 3, 4, 5, 6] ((List.range u1.length).map (· + 7)) rfl (ix_B (mW cI cZ m0 m1 m2 m3 m4 m5 m6 th n bg tn sl ht sn o nx kp ow2) u1 7 rfl) (nd_B _) 0 rfl rfl hl.1 rfl (Nat.le_of_ble_eq_true rfl) dL_law_767 (fun r2 u2 H locs q2 hP hD hS => ?_)
  refine lv_istore (lv' := [(6, .int r2), (5, .int r1), (4, .int (nI (4 * k))), (0, .ref b), (1, .ref h0), (2, .ref m0), (3, .ref ao)]) hx hb dL_law_770 hl (by decide) rfl (fun ls hl => ?_)
  obtain ⟨f, n, wn, t, tc, sc, uw, c1, c2, s', ow, hf, tf, m1, m2, m3, m4, m5, m6, th, bg, tn, sl, ht, sn, o, nx, kp, ow2, rfl, rfl, R, htk2, hth, rfl, hans⟩ := hJ _ _ _ _ q1 q2
  have hP : va_P (dC, dI) vwCl (GO cI cJ ao h0 h1 h2 h3 h4 h5 h6 f n wn t tc sc uw c1 c2 s' ow hf tf ++ mW cI cZ m0 m1 m2 m3 m4 m5 m6 th n bg tn sl ht sn o nx kp ow2) H := hP
  have hD : va_D A (GO cI cJ ao h0 h1 h2 h3 h4 h5 h6 f n wn t tc sc uw c1 c2 s' ow hf tf ++ mW cI cZ m0 m1 m2 m3 m4 m5 m6 th n bg tn sl ht sn o nx kp ow2) := hD
  refine lv_aload_n hx hb dL_law_772 rfl (lv_at hl 5 rfl) ?_
  refine call_Vp (As := []) (rest := []) S (m_X2_thrown m0 m1 m2 m3 m4 m5 m6 th n bg tn sl ht sn o nx kp ow2) g_L_X2_thrown hd_X2_thrown ⟨Nat.le_of_ble_eq_true rfl, Nat.le_of_ble_eq_true rfl⟩ ⟨(by show _ ≤ 601024; omega), (by show _ ≤ 7293034; omega)⟩ hP hD hK hS hZ [8, 9, 10, 11, 12, 13, 14] rfl (by decide) 0 rfl rfl hl.1 rfl (Nat.le_of_ble_eq_true rfl) dL_law_773 (fun r3 H locs hq hP hS => ?_)
  obtain rfl := hq
  refine lv_iload hx hb dL_law_776 (lv_at hl 1 rfl) ?_
  refine lv_icmp_eq (tgt := 783) hx hb dL_law_778 (by decide) (fun _ => ?_) (fun hc => absurd rfl hc)
  refine lv_iload hx hb dL_law_783 (lv_at hl 1 rfl) ?_
  have hend : ∀ ls : Array Slot, lv_has ls 9 [(6, .int r2), (5, .int (nI th)), (4, .int (nI (4 * k))), (0, .ref b), (1, .ref h0), (2, .ref m0), (3, .ref ao)] → W p l e room_1 s m args below meth c H locs (cells + 1) (slots + 6) Q (F0 m 800 ls []) := fun ls hl => lv_goto (tgt := 1553) hx hb dL_law_800 (by decide) (nxt f n wn t tc sc uw c1 c2 s' ow hf tf m1 m2 m3 m4 m5 m6 th bg tn sl ht sn o nx kp ow2 H locs ls _ _ R (by omega) (lv_sub hl [2, 3, 4, 5, 6] rfl) hP hD hS (by omega) (by omega))
  refine ifN_ne (tgt := 800) hx hb dL_law_785 (by decide) (by omega) (fun _ => hend ls hl) (fun h0 => ?_)
  refine lv_aload_n hx hb dL_law_788 rfl (lv_at hl 6 rfl) ?_
  refine lv_iconst (v := nI 0) hx hb dL_law_789 (by decide) ?_
  refine va_lald (n := 1) hx hb hK hP 0 2 rfl rfl (vp_in_nI (by decide) (by decide)) dL_law_790 ?_
  rw [show (nI 0).toNatClampNeg = 0 from nI_clamp (by omega)]
  refine lv_iload hx hb dL_law_791 (lv_at hl 0 rfl) ?_
  rw [show f 0 = r2.toInt64 from hans h0]
  refine lv_i2l hx hb dL_law_793 rfl ?_
  refine W.lcmp hx hb dL_law_794 ?_
  rw [lgc]
  exact lv_if_eq (tgt := 800) hx hb dL_law_795 (by decide) (fun _ => hend ls hl) (fun hc => absurd rfl hc)

set_option maxHeartbeats 4000000 in
set_option maxRecDepth 100000 in
theorem cs_14 (X : LX p l s m args c dC dI cI cZ cJ A b L xs) (hkL : 4 * k + 4 ≤ L) (nxt : NX p l e s m args below meth c dC dI cI cZ cJ A Q b ao h0 h1 h2 h3 h4 h5 h6 m0 1553 (4 * k) (k + 1) (k + 1)) : NX p l e s m args below meth c dC dI cI cZ cJ A Q b ao h0 h1 h2 h3 h4 h5 h6 m0 803 (4 * k) k k := by
  obtain ⟨S, hlt, hK, hZ, hX, hN, hNw, hA, hbA, hXs, hbl, hL⟩ := X
  obtain ⟨hx, hb, hml, hown, hts⟩ := id S
  intro f n wn t tc sc uw c1 c2 s' ow hf tf m1 m2 m3 m4 m5 m6 th bg tn sl ht sn o nx kp ow2 H locs ls cells slots R htk hl hP hD hS hcc hss
  have e1 : uw = bg := R.2.2.2.2.1
  subst e1
  have e2 : tc = tn := R.2.2.2.2.2.1
  subst e2
  have e3 : sc = sl := R.2.2.2.2.2.2.1
  subst e3
  obtain ⟨hn, hw, hs, hc1, hb1, ht5, hsn, hht⟩ := R.inv
  have C := R.cx
  have P := R.rp
  have htn : tc < 2 ^ 20 := by omega
  have hTn := R.2.2.2.1
  refine lv_aload_n hx hb dL_law_803 rfl (lv_at hl 2 rfl) ?_
  refine call_Vp (As := []) (rest := []) S (m_X1_openWays h0 h1 h2 h3 h4 h5 h6 n wn t tc sc uw c1 c2 s' ow hf tf hn hw hs hc1 hb1) g_L_X1_openWays hd_X1_openWays ⟨Nat.le_of_ble_eq_true rfl, Nat.le_of_ble_eq_true rfl⟩ ⟨(by show _ ≤ 601024; omega), (by show _ ≤ 7293034; omega)⟩ hP hD hK hS hZ [1, 2, 3, 4, 5, 6, 7] rfl (by decide) 0 rfl rfl hl.1 rfl (Nat.le_of_ble_eq_true rfl) dL_law_804 (fun r1 H locs hq1 hP hS => ?_)
  refine lv_aload_n hx hb dL_law_807 rfl (lv_at hl 3 rfl) ?_
  refine call_Vi (As := []) (rest := [.int r1]) (wr := GO cI cJ ao h0 h1 h2 h3 h4 h5 h6 f n wn t tc sc uw c1 c2 s' ow hf tf) S (m_X2_openWays m0 m1 m2 m3 m4 m5 m6 th n uw tc sc ht sn o nx kp ow2 hn) g_L_X2_openWays hd_X2_openWays ⟨Nat.le_of_ble_eq_true rfl, Nat.le_of_ble_eq_true rfl⟩ ⟨(by show _ ≤ 601024; omega), (by show _ ≤ 7293034; omega)⟩ hP hD hK hS hZ [8, 9, 10, 11, 12, 13, 14] [0, 1, 2, 3, 4, 5, 6, 7] rfl rfl (by decide) 0 rfl rfl hl.1 rfl (Nat.le_of_ble_eq_true rfl) dL_law_808 (fun r2 u2 H locs hq2 hP hD hS => ?_)
  obtain ⟨rfl, rfl⟩ := hq2
  obtain rfl := hq1
  refine lv_icmp_eq (tgt := 1553) hx hb dL_law_811 (by decide) (fun _ => ?_) (fun hc => absurd (congrArg nI R.c1e) hc)
  exact nxt f n wn t tc sc uw c1 c2 s' ow hf tf m1 m2 m3 m4 m5 m6 0 uw tc sc ht sn o nx kp ow2 H locs ls _ _ R (by omega) hl hP hD hS (by omega) (by omega)

set_option maxHeartbeats 4000000 in
set_option maxRecDepth 100000 in
theorem cs_15 (X : LX p l s m args c dC dI cI cZ cJ A b L xs) (hkL : 4 * k + 4 ≤ L) (nxt : NX p l e s m args below meth c dC dI cI cZ cJ A Q b ao h0 h1 h2 h3 h4 h5 h6 m0 1553 (4 * k) (k + 1) (k + 1)) : NX p l e s m args below meth c dC dI cI cZ cJ A Q b ao h0 h1 h2 h3 h4 h5 h6 m0 816 (4 * k) k k := by
  obtain ⟨S, hlt, hK, hZ, hX, hN, hNw, hA, hbA, hXs, hbl, hL⟩ := X
  obtain ⟨hx, hb, hml, hown, hts⟩ := id S
  intro f n wn t tc sc uw c1 c2 s' ow hf tf m1 m2 m3 m4 m5 m6 th bg tn sl ht sn o nx kp ow2 H locs ls cells slots R htk hl hP hD hS hcc hss
  refine lv_aload_n hx hb dL_law_816 rfl (lv_at hl 2 rfl) ?_
  refine lv_aload_n hx hb dL_law_817 rfl (lv_at hl 1 rfl) ?_
  refine lv_iload hx hb dL_law_818 (lv_at hl 0 rfl) ?_
  refine lv_iconst (v := nI 1) hx hb dL_law_820 (by decide) ?_
  refine lv_iadd hx hb dL_law_821 ?_
  refine W_i (y := nI (4 * k + 1)) (nI_add _ _) ?_
  refine va_sld hx hb hXs hbl hbA hS (vp_in_nI (show 4 * k + 1 < L by omega) (by omega)) dL_law_822 ?_
  refine lv_aload_n hx hb dL_law_823 rfl (lv_at hl 1 rfl) ?_
  refine lv_iload hx hb dL_law_824 (lv_at hl 0 rfl) ?_
  refine lv_iconst (v := nI 2) hx hb dL_law_826 (by decide) ?_
  refine lv_iadd hx hb dL_law_827 ?_
  refine W_i (y := nI (4 * k + 2)) (nI_add _ _) ?_
  refine va_sld hx hb hXs hbl hbA hS (vp_in_nI (show 4 * k + 2 < L by omega) (by omega)) dL_law_828 ?_
  refine lv_aload_n hx hb dL_law_829 rfl (lv_at hl 4 rfl) ?_
  obtain ⟨P1, P2, fr, lo, hfr, hlo, hH, hM, hJ⟩ := op_openWaysWith (cJ := cJ) hlt ao h0 h1 h2 h3 h4 h5 h6 n wn t tc sc uw c1 c2 s' ow hf tf f m0 m1 m2 m3 m4 m5 m6 th bg tn sl ht sn o nx kp ow2 R (by omega) (xs (nI (4 * k + 1)).toNatClampNeg) (xs (nI (4 * k + 2)).toNatClampNeg)
  refine call_Hi (As := [.ref h0, .int (xs (nI (4 * k + 1)).toNatClampNeg), .int (xs (nI (4 * k + 2)).toNatClampNeg), .ref ao]) (rest := []) (wr := mW cI cZ m0 m1 m2 m3 m4 m5 m6 th n bg tn sl ht sn o nx kp ow2) S hH g_L_L_openWaysWith hd_L_openWaysWith ⟨Nat.le_of_ble_eq_true rfl, Nat.le_of_ble_eq_true rfl⟩ ⟨(by show _ ≤ 601024; omega), (by show _ ≤ 7293034; omega)⟩ hP hD hK hS hZ hX hN [0, 1, 2, 3, 4, 5, 6, 7] [8, 9, 10, 11, 12, 13, 14] rfl rfl (by decide) hl.1 rfl (Nat.le_of_ble_eq_true rfl) dL_law_830 (fun r1 u1 H locs q1 hP hD hS => ?_)
  refine lv_istore (lv' := [(5, .int r1), (4, .int (nI (4 * k))), (0, .ref b), (1, .ref h0), (2, .ref m0), (3, .ref ao)]) hx hb dL_law_833 hl (by decide) rfl (fun ls hl => ?_)
  refine lv_aload_n hx hb dL_law_835 rfl (lv_at hl 4 rfl) ?_
  refine lv_aload_n hx hb dL_law_836 rfl (lv_at hl 2 rfl) ?_
  refine lv_iload hx hb dL_law_837 (lv_at hl 1 rfl) ?_
  refine lv_iconst (v := nI 1) hx hb dL_law_839 (by decide) ?_
  refine lv_iadd hx hb dL_law_840 ?_
  refine W_i (y := nI (4 * k + 1)) (nI_add _ _) ?_
  refine va_sld hx hb hXs hbl hbA hS (vp_in_nI (show 4 * k + 1 < L by omega) (by omega)) dL_law_841 ?_
  refine lv_aload_n hx hb dL_law_842 rfl (lv_at hl 2 rfl) ?_
  refine lv_iload hx hb dL_law_843 (lv_at hl 1 rfl) ?_
  refine lv_iconst (v := nI 2) hx hb dL_law_845 (by decide) ?_
  refine lv_iadd hx hb dL_law_846 ?_
  refine W_i (y := nI (4 * k + 2)) (nI_add _ _) ?_
  refine va_sld hx hb hXs hbl hbA hS (vp_in_nI (show 4 * k + 2 < L by omega) (by omega)) dL_law_847 ?_
  refine call_Vi (As := [.int (xs (nI (4 * k + 1)).toNatClampNeg), .int (xs (nI (4 * k + 2)).toNatClampNeg)]) (wr := u1) (rest := []) S hM g_L_X2_openWaysWith hd_X2_openWaysWith ⟨(by show fr + 1 ≤ 12; omega), (by show 8 + (3 + 11) + lo ≤ 440; omega)⟩ ⟨(by show _ ≤ 601024; omega), (by show _ ≤ 7293034; omega)⟩ hP hD hK hS hZ [0, 1, 2, 3, 4, 5, 6] ((List.range u1.length).map (· + 7)) rfl (ix_B (mW cI cZ m0 m1 m2 m3 m4 m5 m6 th n bg tn sl ht sn o nx kp ow2) u1 7 rfl) (nd_B _) 0 rfl rfl hl.1 rfl (Nat.le_of_ble_eq_true rfl) dL_law_848 (fun r2 u2 H locs q2 hP hD hS => ?_)
  refine lv_istore (lv' := [(6, .int r2), (5, .int r1), (4, .int (nI (4 * k))), (0, .ref b), (1, .ref h0), (2, .ref m0), (3, .ref ao)]) hx hb dL_law_851 hl (by decide) rfl (fun ls hl => ?_)
  obtain ⟨f, n, wn, t, tc, sc, uw, c1, c2, s', ow, hf, tf, m1, m2, m3, m4, m5, m6, th, bg, tn, sl, ht, sn, o, nx, kp, ow2, rfl, rfl, R, htk2, hth, rfl, hans⟩ := hJ _ _ _ _ q1 q2
  have hP : va_P (dC, dI) vwCl (GO cI cJ ao h0 h1 h2 h3 h4 h5 h6 f n wn t tc sc uw c1 c2 s' ow hf tf ++ mW cI cZ m0 m1 m2 m3 m4 m5 m6 th n bg tn sl ht sn o nx kp ow2) H := hP
  have hD : va_D A (GO cI cJ ao h0 h1 h2 h3 h4 h5 h6 f n wn t tc sc uw c1 c2 s' ow hf tf ++ mW cI cZ m0 m1 m2 m3 m4 m5 m6 th n bg tn sl ht sn o nx kp ow2) := hD
  refine lv_aload_n hx hb dL_law_853 rfl (lv_at hl 5 rfl) ?_
  refine call_Vp (As := []) (rest := []) S (m_X2_thrown m0 m1 m2 m3 m4 m5 m6 th n bg tn sl ht sn o nx kp ow2) g_L_X2_thrown hd_X2_thrown ⟨Nat.le_of_ble_eq_true rfl, Nat.le_of_ble_eq_true rfl⟩ ⟨(by show _ ≤ 601024; omega), (by show _ ≤ 7293034; omega)⟩ hP hD hK hS hZ [8, 9, 10, 11, 12, 13, 14] rfl (by decide) 0 rfl rfl hl.1 rfl (Nat.le_of_ble_eq_true rfl) dL_law_854 (fun r3 H locs hq hP hS => ?_)
  obtain rfl := hq
  refine lv_iload hx hb dL_law_857 (lv_at hl 1 rfl) ?_
  refine lv_icmp_eq (tgt := 864) hx hb dL_law_859 (by decide) (fun _ => ?_) (fun hc => absurd rfl hc)
  refine lv_iload hx hb dL_law_864 (lv_at hl 1 rfl) ?_
  have hend : ∀ ls : Array Slot, lv_has ls 9 [(6, .int r2), (5, .int (nI th)), (4, .int (nI (4 * k))), (0, .ref b), (1, .ref h0), (2, .ref m0), (3, .ref ao)] → W p l e room_1 s m args below meth c H locs (cells + 1) (slots + 6) Q (F0 m 881 ls []) := fun ls hl => lv_goto (tgt := 1553) hx hb dL_law_881 (by decide) (nxt f n wn t tc sc uw c1 c2 s' ow hf tf m1 m2 m3 m4 m5 m6 th bg tn sl ht sn o nx kp ow2 H locs ls _ _ R (by omega) (lv_sub hl [2, 3, 4, 5, 6] rfl) hP hD hS (by omega) (by omega))
  refine ifN_ne (tgt := 881) hx hb dL_law_866 (by decide) (by omega) (fun _ => hend ls hl) (fun h0 => ?_)
  refine lv_aload_n hx hb dL_law_869 rfl (lv_at hl 6 rfl) ?_
  refine lv_iconst (v := nI 0) hx hb dL_law_870 (by decide) ?_
  refine va_lald (n := 1) hx hb hK hP 0 2 rfl rfl (vp_in_nI (by decide) (by decide)) dL_law_871 ?_
  rw [show (nI 0).toNatClampNeg = 0 from nI_clamp (by omega)]
  refine lv_iload hx hb dL_law_872 (lv_at hl 0 rfl) ?_
  rw [show f 0 = r2.toInt64 from hans h0]
  refine lv_i2l hx hb dL_law_874 rfl ?_
  refine W.lcmp hx hb dL_law_875 ?_
  rw [lgc]
  exact lv_if_eq (tgt := 881) hx hb dL_law_876 (by decide) (fun _ => hend ls hl) (fun hc => absurd rfl hc)

set_option maxHeartbeats 4000000 in
set_option maxRecDepth 100000 in
theorem cs_16 (X : LX p l s m args c dC dI cI cZ cJ A b L xs) (hkL : 4 * k + 4 ≤ L) (nxt : NX p l e s m args below meth c dC dI cI cZ cJ A Q b ao h0 h1 h2 h3 h4 h5 h6 m0 1553 (4 * k) (k + 1) (k + 1)) : NX p l e s m args below meth c dC dI cI cZ cJ A Q b ao h0 h1 h2 h3 h4 h5 h6 m0 884 (4 * k) k k := by
  obtain ⟨S, hlt, hK, hZ, hX, hN, hNw, hA, hbA, hXs, hbl, hL⟩ := X
  obtain ⟨hx, hb, hml, hown, hts⟩ := id S
  intro f n wn t tc sc uw c1 c2 s' ow hf tf m1 m2 m3 m4 m5 m6 th bg tn sl ht sn o nx kp ow2 H locs ls cells slots R htk hl hP hD hS hcc hss
  refine lv_aload_n hx hb dL_law_884 rfl (lv_at hl 2 rfl) ?_
  refine lv_aload_n hx hb dL_law_885 rfl (lv_at hl 1 rfl) ?_
  refine lv_iload hx hb dL_law_886 (lv_at hl 0 rfl) ?_
  refine lv_iconst (v := nI 1) hx hb dL_law_888 (by decide) ?_
  refine lv_iadd hx hb dL_law_889 ?_
  refine W_i (y := nI (4 * k + 1)) (nI_add _ _) ?_
  refine va_sld hx hb hXs hbl hbA hS (vp_in_nI (show 4 * k + 1 < L by omega) (by omega)) dL_law_890 ?_
  refine lv_aload_n hx hb dL_law_891 rfl (lv_at hl 4 rfl) ?_
  obtain ⟨P1, P2, fr, lo, hfr, hlo, hH, hM, hJ⟩ := op_isKnownToAll (cJ := cJ) hlt ao h0 h1 h2 h3 h4 h5 h6 n wn t tc sc uw c1 c2 s' ow hf tf f m0 m1 m2 m3 m4 m5 m6 th bg tn sl ht sn o nx kp ow2 R (by omega) (xs (nI (4 * k + 1)).toNatClampNeg)
  refine call_Hi (As := [.ref h0, .int (xs (nI (4 * k + 1)).toNatClampNeg), .ref ao]) (rest := []) (wr := mW cI cZ m0 m1 m2 m3 m4 m5 m6 th n bg tn sl ht sn o nx kp ow2) S hH g_L_L_isKnownToAll hd_L_isKnownToAll ⟨Nat.le_of_ble_eq_true rfl, Nat.le_of_ble_eq_true rfl⟩ ⟨(by show _ ≤ 601024; omega), (by show _ ≤ 7293034; omega)⟩ hP hD hK hS hZ hX hN [0, 1, 2, 3, 4, 5, 6, 7] [8, 9, 10, 11, 12, 13, 14] rfl rfl (by decide) hl.1 rfl (Nat.le_of_ble_eq_true rfl) dL_law_892 (fun r1 u1 H locs q1 hP hD hS => ?_)
  refine lv_istore (lv' := [(5, .int r1), (4, .int (nI (4 * k))), (0, .ref b), (1, .ref h0), (2, .ref m0), (3, .ref ao)]) hx hb dL_law_895 hl (by decide) rfl (fun ls hl => ?_)
  refine lv_aload_n hx hb dL_law_897 rfl (lv_at hl 4 rfl) ?_
  refine lv_aload_n hx hb dL_law_898 rfl (lv_at hl 2 rfl) ?_
  refine lv_iload hx hb dL_law_899 (lv_at hl 1 rfl) ?_
  refine lv_iconst (v := nI 1) hx hb dL_law_901 (by decide) ?_
  refine lv_iadd hx hb dL_law_902 ?_
  refine W_i (y := nI (4 * k + 1)) (nI_add _ _) ?_
  refine va_sld hx hb hXs hbl hbA hS (vp_in_nI (show 4 * k + 1 < L by omega) (by omega)) dL_law_903 ?_
  refine call_Vi (As := [.int (xs (nI (4 * k + 1)).toNatClampNeg)]) (wr := u1) (rest := []) S hM g_L_X2_isKnownToAll hd_X2_isKnownToAll ⟨(by show fr + 1 ≤ 12; omega), (by show 8 + (2 + 11) + lo ≤ 440; omega)⟩ ⟨(by show _ ≤ 601024; omega), (by show _ ≤ 7293034; omega)⟩ hP hD hK hS hZ [0, 1, 2, 3, 4, 5, 6] ((List.range u1.length).map (· + 7)) rfl (ix_B (mW cI cZ m0 m1 m2 m3 m4 m5 m6 th n bg tn sl ht sn o nx kp ow2) u1 7 rfl) (nd_B _) 0 rfl rfl hl.1 rfl (Nat.le_of_ble_eq_true rfl) dL_law_904 (fun r2 u2 H locs q2 hP hD hS => ?_)
  refine lv_istore (lv' := [(6, .int r2), (5, .int r1), (4, .int (nI (4 * k))), (0, .ref b), (1, .ref h0), (2, .ref m0), (3, .ref ao)]) hx hb dL_law_907 hl (by decide) rfl (fun ls hl => ?_)
  obtain ⟨f, n, wn, t, tc, sc, uw, c1, c2, s', ow, hf, tf, m1, m2, m3, m4, m5, m6, th, bg, tn, sl, ht, sn, o, nx, kp, ow2, rfl, rfl, R, htk2, hth, rfl, hans⟩ := hJ _ _ _ _ q1 q2
  have hP : va_P (dC, dI) vwCl (GO cI cJ ao h0 h1 h2 h3 h4 h5 h6 f n wn t tc sc uw c1 c2 s' ow hf tf ++ mW cI cZ m0 m1 m2 m3 m4 m5 m6 th n bg tn sl ht sn o nx kp ow2) H := hP
  have hD : va_D A (GO cI cJ ao h0 h1 h2 h3 h4 h5 h6 f n wn t tc sc uw c1 c2 s' ow hf tf ++ mW cI cZ m0 m1 m2 m3 m4 m5 m6 th n bg tn sl ht sn o nx kp ow2) := hD
  refine lv_aload_n hx hb dL_law_909 rfl (lv_at hl 5 rfl) ?_
  refine call_Vp (As := []) (rest := []) S (m_X2_thrown m0 m1 m2 m3 m4 m5 m6 th n bg tn sl ht sn o nx kp ow2) g_L_X2_thrown hd_X2_thrown ⟨Nat.le_of_ble_eq_true rfl, Nat.le_of_ble_eq_true rfl⟩ ⟨(by show _ ≤ 601024; omega), (by show _ ≤ 7293034; omega)⟩ hP hD hK hS hZ [8, 9, 10, 11, 12, 13, 14] rfl (by decide) 0 rfl rfl hl.1 rfl (Nat.le_of_ble_eq_true rfl) dL_law_910 (fun r3 H locs hq hP hS => ?_)
  obtain rfl := hq
  refine lv_iload hx hb dL_law_913 (lv_at hl 1 rfl) ?_
  refine lv_icmp_eq (tgt := 920) hx hb dL_law_915 (by decide) (fun _ => ?_) (fun hc => absurd rfl hc)
  refine lv_iload hx hb dL_law_920 (lv_at hl 1 rfl) ?_
  have hend : ∀ ls : Array Slot, lv_has ls 9 [(6, .int r2), (5, .int (nI th)), (4, .int (nI (4 * k))), (0, .ref b), (1, .ref h0), (2, .ref m0), (3, .ref ao)] → W p l e room_1 s m args below meth c H locs (cells + 1) (slots + 6) Q (F0 m 944 ls []) := fun ls hl => lv_goto (tgt := 1553) hx hb dL_law_944 (by decide) (nxt f n wn t tc sc uw c1 c2 s' ow hf tf m1 m2 m3 m4 m5 m6 th bg tn sl ht sn o nx kp ow2 H locs ls _ _ R (by omega) (lv_sub hl [2, 3, 4, 5, 6] rfl) hP hD hS (by omega) (by omega))
  refine ifN_ne (tgt := 944) hx hb dL_law_922 (by decide) (by omega) (fun _ => hend ls hl) (fun h0 => ?_)
  refine lv_aload_n hx hb dL_law_925 rfl (lv_at hl 6 rfl) ?_
  refine lv_iconst (v := nI 0) hx hb dL_law_926 (by decide) ?_
  refine va_lald (n := 1) hx hb hK hP 0 2 rfl rfl (vp_in_nI (by decide) (by decide)) dL_law_927 ?_
  rw [show (nI 0).toNatClampNeg = 0 from nI_clamp (by omega)]
  refine lv_iload hx hb dL_law_928 (lv_at hl 0 rfl) ?_
  obtain ⟨b2, rfl, hb2⟩ := hans h0
  rw [hb2]
  refine ternL_eq hx hb dL_law_930 dL_law_933 dL_law_934 dL_law_937 (by decide) (by decide) ?_
  refine W.lcmp hx hb dL_law_938 ?_
  rw [lgc]
  exact lv_if_eq (tgt := 944) hx hb dL_law_939 (by decide) (fun _ => hend ls hl) (fun hc => absurd rfl hc)

set_option maxHeartbeats 4000000 in
set_option maxRecDepth 100000 in
theorem cs_17 (X : LX p l s m args c dC dI cI cZ cJ A b L xs) (hkL : 4 * k + 4 ≤ L) (nxt : NX p l e s m args below meth c dC dI cI cZ cJ A Q b ao h0 h1 h2 h3 h4 h5 h6 m0 1553 (4 * k) (k + 1) (k + 1)) : NX p l e s m args below meth c dC dI cI cZ cJ A Q b ao h0 h1 h2 h3 h4 h5 h6 m0 947 (4 * k) k k := by
  obtain ⟨S, hlt, hK, hZ, hX, hN, hNw, hA, hbA, hXs, hbl, hL⟩ := X
  obtain ⟨hx, hb, hml, hown, hts⟩ := id S
  intro f n wn t tc sc uw c1 c2 s' ow hf tf m1 m2 m3 m4 m5 m6 th bg tn sl ht sn o nx kp ow2 H locs ls cells slots R htk hl hP hD hS hcc hss
  refine lv_aload_n hx hb dL_law_947 rfl (lv_at hl 2 rfl) ?_
  refine lv_aload_n hx hb dL_law_948 rfl (lv_at hl 1 rfl) ?_
  refine lv_iload hx hb dL_law_949 (lv_at hl 0 rfl) ?_
  refine lv_iconst (v := nI 1) hx hb dL_law_951 (by decide) ?_
  refine lv_iadd hx hb dL_law_952 ?_
  refine W_i (y := nI (4 * k + 1)) (nI_add _ _) ?_
  refine va_sld hx hb hXs hbl hbA hS (vp_in_nI (show 4 * k + 1 < L by omega) (by omega)) dL_law_953 ?_
  refine lv_aload_n hx hb dL_law_954 rfl (lv_at hl 4 rfl) ?_
  obtain ⟨P1, P2, fr, lo, hfr, hlo, hH, hM, hJ⟩ := op_possibleWays (cJ := cJ) hlt ao h0 h1 h2 h3 h4 h5 h6 n wn t tc sc uw c1 c2 s' ow hf tf f m0 m1 m2 m3 m4 m5 m6 th bg tn sl ht sn o nx kp ow2 R (by omega) (xs (nI (4 * k + 1)).toNatClampNeg)
  refine call_Hi (As := [.ref h0, .int (xs (nI (4 * k + 1)).toNatClampNeg), .ref ao]) (rest := []) (wr := mW cI cZ m0 m1 m2 m3 m4 m5 m6 th n bg tn sl ht sn o nx kp ow2) S hH g_L_L_possibleWays hd_L_possibleWays ⟨Nat.le_of_ble_eq_true rfl, Nat.le_of_ble_eq_true rfl⟩ ⟨(by show _ ≤ 601024; omega), (by show _ ≤ 7293034; omega)⟩ hP hD hK hS hZ hX hN [0, 1, 2, 3, 4, 5, 6, 7] [8, 9, 10, 11, 12, 13, 14] rfl rfl (by decide) hl.1 rfl (Nat.le_of_ble_eq_true rfl) dL_law_955 (fun r1 u1 H locs q1 hP hD hS => ?_)
  refine lv_istore (lv' := [(5, .int r1), (4, .int (nI (4 * k))), (0, .ref b), (1, .ref h0), (2, .ref m0), (3, .ref ao)]) hx hb dL_law_958 hl (by decide) rfl (fun ls hl => ?_)
  refine lv_aload_n hx hb dL_law_960 rfl (lv_at hl 4 rfl) ?_
  refine lv_aload_n hx hb dL_law_961 rfl (lv_at hl 2 rfl) ?_
  refine lv_iload hx hb dL_law_962 (lv_at hl 1 rfl) ?_
  refine lv_iconst (v := nI 1) hx hb dL_law_964 (by decide) ?_
  refine lv_iadd hx hb dL_law_965 ?_
  refine W_i (y := nI (4 * k + 1)) (nI_add _ _) ?_
  refine va_sld hx hb hXs hbl hbA hS (vp_in_nI (show 4 * k + 1 < L by omega) (by omega)) dL_law_966 ?_
  refine call_Vi (As := [.int (xs (nI (4 * k + 1)).toNatClampNeg)]) (wr := u1) (rest := []) S hM g_L_X2_possibleWays hd_X2_possibleWays ⟨(by show fr + 1 ≤ 12; omega), (by show 8 + (2 + 11) + lo ≤ 440; omega)⟩ ⟨(by show _ ≤ 601024; omega), (by show _ ≤ 7293034; omega)⟩ hP hD hK hS hZ [0, 1, 2, 3, 4, 5, 6] ((List.range u1.length).map (· + 7)) rfl (ix_B (mW cI cZ m0 m1 m2 m3 m4 m5 m6 th n bg tn sl ht sn o nx kp ow2) u1 7 rfl) (nd_B _) 0 rfl rfl hl.1 rfl (Nat.le_of_ble_eq_true rfl) dL_law_967 (fun r2 u2 H locs q2 hP hD hS => ?_)
  refine lv_istore (lv' := [(6, .int r2), (5, .int r1), (4, .int (nI (4 * k))), (0, .ref b), (1, .ref h0), (2, .ref m0), (3, .ref ao)]) hx hb dL_law_970 hl (by decide) rfl (fun ls hl => ?_)
  obtain ⟨f, n, wn, t, tc, sc, uw, c1, c2, s', ow, hf, tf, m1, m2, m3, m4, m5, m6, th, bg, tn, sl, ht, sn, o, nx, kp, ow2, rfl, rfl, R, htk2, hth, rfl, hans⟩ := hJ _ _ _ _ q1 q2
  have hP : va_P (dC, dI) vwCl (GO cI cJ ao h0 h1 h2 h3 h4 h5 h6 f n wn t tc sc uw c1 c2 s' ow hf tf ++ mW cI cZ m0 m1 m2 m3 m4 m5 m6 th n bg tn sl ht sn o nx kp ow2) H := hP
  have hD : va_D A (GO cI cJ ao h0 h1 h2 h3 h4 h5 h6 f n wn t tc sc uw c1 c2 s' ow hf tf ++ mW cI cZ m0 m1 m2 m3 m4 m5 m6 th n bg tn sl ht sn o nx kp ow2) := hD
  refine lv_aload_n hx hb dL_law_972 rfl (lv_at hl 5 rfl) ?_
  refine call_Vp (As := []) (rest := []) S (m_X2_thrown m0 m1 m2 m3 m4 m5 m6 th n bg tn sl ht sn o nx kp ow2) g_L_X2_thrown hd_X2_thrown ⟨Nat.le_of_ble_eq_true rfl, Nat.le_of_ble_eq_true rfl⟩ ⟨(by show _ ≤ 601024; omega), (by show _ ≤ 7293034; omega)⟩ hP hD hK hS hZ [8, 9, 10, 11, 12, 13, 14] rfl (by decide) 0 rfl rfl hl.1 rfl (Nat.le_of_ble_eq_true rfl) dL_law_973 (fun r3 H locs hq hP hS => ?_)
  obtain rfl := hq
  refine lv_iload hx hb dL_law_976 (lv_at hl 1 rfl) ?_
  refine lv_icmp_eq (tgt := 983) hx hb dL_law_978 (by decide) (fun _ => ?_) (fun hc => absurd rfl hc)
  refine lv_iload hx hb dL_law_983 (lv_at hl 1 rfl) ?_
  have hend : ∀ ls : Array Slot, lv_has ls 9 [(6, .int r2), (5, .int (nI th)), (4, .int (nI (4 * k))), (0, .ref b), (1, .ref h0), (2, .ref m0), (3, .ref ao)] → W p l e room_1 s m args below meth c H locs (cells + 1) (slots + 6) Q (F0 m 1000 ls []) := fun ls hl => lv_goto (tgt := 1553) hx hb dL_law_1000 (by decide) (nxt f n wn t tc sc uw c1 c2 s' ow hf tf m1 m2 m3 m4 m5 m6 th bg tn sl ht sn o nx kp ow2 H locs ls _ _ R (by omega) (lv_sub hl [2, 3, 4, 5, 6] rfl) hP hD hS (by omega) (by omega))
  refine ifN_ne (tgt := 1000) hx hb dL_law_985 (by decide) (by omega) (fun _ => hend ls hl) (fun h0 => ?_)
  refine lv_aload_n hx hb dL_law_988 rfl (lv_at hl 6 rfl) ?_
  refine lv_iconst (v := nI 0) hx hb dL_law_989 (by decide) ?_
  refine va_lald (n := 1) hx hb hK hP 0 2 rfl rfl (vp_in_nI (by decide) (by decide)) dL_law_990 ?_
  rw [show (nI 0).toNatClampNeg = 0 from nI_clamp (by omega)]
  refine lv_iload hx hb dL_law_991 (lv_at hl 0 rfl) ?_
  rw [show f 0 = r2.toInt64 from hans h0]
  refine lv_i2l hx hb dL_law_993 rfl ?_
  refine W.lcmp hx hb dL_law_994 ?_
  rw [lgc]
  exact lv_if_eq (tgt := 1000) hx hb dL_law_995 (by decide) (fun _ => hend ls hl) (fun hc => absurd rfl hc)

set_option maxHeartbeats 4000000 in
set_option maxRecDepth 100000 in
theorem cs_18 (X : LX p l s m args c dC dI cI cZ cJ A b L xs) (hkL : 4 * k + 4 ≤ L) (nxt : NX p l e s m args below meth c dC dI cI cZ cJ A Q b ao h0 h1 h2 h3 h4 h5 h6 m0 1553 (4 * k) (k + 1) (k + 1)) : NX p l e s m args below meth c dC dI cI cZ cJ A Q b ao h0 h1 h2 h3 h4 h5 h6 m0 1003 (4 * k) k k := by
  obtain ⟨S, hlt, hK, hZ, hX, hN, hNw, hA, hbA, hXs, hbl, hL⟩ := X
  obtain ⟨hx, hb, hml, hown, hts⟩ := id S
  intro f n wn t tc sc uw c1 c2 s' ow hf tf m1 m2 m3 m4 m5 m6 th bg tn sl ht sn o nx kp ow2 H locs ls cells slots R htk hl hP hD hS hcc hss
  refine lv_aload_n hx hb dL_law_1003 rfl (lv_at hl 2 rfl) ?_
  refine lv_aload_n hx hb dL_law_1004 rfl (lv_at hl 1 rfl) ?_
  refine lv_iload hx hb dL_law_1005 (lv_at hl 0 rfl) ?_
  refine lv_iconst (v := nI 1) hx hb dL_law_1007 (by decide) ?_
  refine lv_iadd hx hb dL_law_1008 ?_
  refine W_i (y := nI (4 * k + 1)) (nI_add _ _) ?_
  refine va_sld hx hb hXs hbl hbA hS (vp_in_nI (show 4 * k + 1 < L by omega) (by omega)) dL_law_1009 ?_
  refine lv_aload_n hx hb dL_law_1010 rfl (lv_at hl 1 rfl) ?_
  refine lv_iload hx hb dL_law_1011 (lv_at hl 0 rfl) ?_
  refine lv_iconst (v := nI 2) hx hb dL_law_1013 (by decide) ?_
  refine lv_iadd hx hb dL_law_1014 ?_
  refine W_i (y := nI (4 * k + 2)) (nI_add _ _) ?_
  refine va_sld hx hb hXs hbl hbA hS (vp_in_nI (show 4 * k + 2 < L by omega) (by omega)) dL_law_1015 ?_
  refine lv_aload_n hx hb dL_law_1016 rfl (lv_at hl 1 rfl) ?_
  refine lv_iload hx hb dL_law_1017 (lv_at hl 0 rfl) ?_
  refine lv_iconst (v := nI 3) hx hb dL_law_1019 (by decide) ?_
  refine lv_iadd hx hb dL_law_1020 ?_
  refine W_i (y := nI (4 * k + 3)) (nI_add _ _) ?_
  refine va_sld hx hb hXs hbl hbA hS (vp_in_nI (show 4 * k + 3 < L by omega) (by omega)) dL_law_1021 ?_
  refine lv_aload_n hx hb dL_law_1022 rfl (lv_at hl 4 rfl) ?_
  obtain ⟨P1, P2, fr, lo, hfr, hlo, hH, hM, hJ⟩ := op_holdsPossible (cJ := cJ) hlt ao h0 h1 h2 h3 h4 h5 h6 n wn t tc sc uw c1 c2 s' ow hf tf f m0 m1 m2 m3 m4 m5 m6 th bg tn sl ht sn o nx kp ow2 R (by omega) (xs (nI (4 * k + 1)).toNatClampNeg) (xs (nI (4 * k + 2)).toNatClampNeg) (xs (nI (4 * k + 3)).toNatClampNeg)
  refine call_Hi (As := [.ref h0, .int (xs (nI (4 * k + 1)).toNatClampNeg), .int (xs (nI (4 * k + 2)).toNatClampNeg), .int (xs (nI (4 * k + 3)).toNatClampNeg), .ref ao]) (rest := []) (wr := mW cI cZ m0 m1 m2 m3 m4 m5 m6 th n bg tn sl ht sn o nx kp ow2) S hH g_L_L_holdsPossible hd_L_holdsPossible ⟨Nat.le_of_ble_eq_true rfl, Nat.le_of_ble_eq_true rfl⟩ ⟨(by show _ ≤ 601024; omega), (by show _ ≤ 7293034; omega)⟩ hP hD hK hS hZ hX hN [0, 1, 2, 3, 4, 5, 6, 7] [8, 9, 10, 11, 12, 13, 14] rfl rfl (by decide) hl.1 rfl (Nat.le_of_ble_eq_true rfl) dL_law_1023 (fun r1 u1 H locs q1 hP hD hS => ?_)
  refine lv_istore (lv' := [(5, .int r1), (4, .int (nI (4 * k))), (0, .ref b), (1, .ref h0), (2, .ref m0), (3, .ref ao)]) hx hb dL_law_1026 hl (by decide) rfl (fun ls hl => ?_)
  refine lv_aload_n hx hb dL_law_1028 rfl (lv_at hl 4 rfl) ?_
  refine lv_aload_n hx hb dL_law_1029 rfl (lv_at hl 2 rfl) ?_
  refine lv_iload hx hb dL_law_1030 (lv_at hl 1 rfl) ?_
  refine lv_iconst (v := nI 1) hx hb dL_law_1032 (by decide) ?_
  refine lv_iadd hx hb dL_law_1033 ?_
  refine W_i (y := nI (4 * k + 1)) (nI_add _ _) ?_
  refine va_sld hx hb hXs hbl hbA hS (vp_in_nI (show 4 * k + 1 < L by omega) (by omega)) dL_law_1034 ?_
  refine lv_aload_n hx hb dL_law_1035 rfl (lv_at hl 2 rfl) ?_
  refine lv_iload hx hb dL_law_1036 (lv_at hl 1 rfl) ?_
  refine lv_iconst (v := nI 2) hx hb dL_law_1038 (by decide) ?_
  refine lv_iadd hx hb dL_law_1039 ?_
  refine W_i (y := nI (4 * k + 2)) (nI_add _ _) ?_
  refine va_sld hx hb hXs hbl hbA hS (vp_in_nI (show 4 * k + 2 < L by omega) (by omega)) dL_law_1040 ?_
  refine lv_aload_n hx hb dL_law_1041 rfl (lv_at hl 2 rfl) ?_
  refine lv_iload hx hb dL_law_1042 (lv_at hl 1 rfl) ?_
  refine lv_iconst (v := nI 3) hx hb dL_law_1044 (by decide) ?_
  refine lv_iadd hx hb dL_law_1045 ?_
  refine W_i (y := nI (4 * k + 3)) (nI_add _ _) ?_
  refine va_sld hx hb hXs hbl hbA hS (vp_in_nI (show 4 * k + 3 < L by omega) (by omega)) dL_law_1046 ?_
  refine call_Vi (As := [.int (xs (nI (4 * k + 1)).toNatClampNeg), .int (xs (nI (4 * k + 2)).toNatClampNeg), .int (xs (nI (4 * k + 3)).toNatClampNeg)]) (wr := u1) (rest := []) S hM g_L_X2_holdsPossible hd_X2_holdsPossible ⟨(by show fr + 1 ≤ 12; omega), (by show 8 + (4 + 11) + lo ≤ 440; omega)⟩ ⟨(by show _ ≤ 601024; omega), (by show _ ≤ 7293034; omega)⟩ hP hD hK hS hZ [0, 1, 2, 3, 4, 5, 6] ((List.range u1.length).map (· + 7)) rfl (ix_B (mW cI cZ m0 m1 m2 m3 m4 m5 m6 th n bg tn sl ht sn o nx kp ow2) u1 7 rfl) (nd_B _) 0 rfl rfl hl.1 rfl (Nat.le_of_ble_eq_true rfl) dL_law_1047 (fun r2 u2 H locs q2 hP hD hS => ?_)
  refine lv_istore (lv' := [(6, .int r2), (5, .int r1), (4, .int (nI (4 * k))), (0, .ref b), (1, .ref h0), (2, .ref m0), (3, .ref ao)]) hx hb dL_law_1050 hl (by decide) rfl (fun ls hl => ?_)
  obtain ⟨f, n, wn, t, tc, sc, uw, c1, c2, s', ow, hf, tf, m1, m2, m3, m4, m5, m6, th, bg, tn, sl, ht, sn, o, nx, kp, ow2, rfl, rfl, R, htk2, hth, rfl, hans⟩ := hJ _ _ _ _ q1 q2
  have hP : va_P (dC, dI) vwCl (GO cI cJ ao h0 h1 h2 h3 h4 h5 h6 f n wn t tc sc uw c1 c2 s' ow hf tf ++ mW cI cZ m0 m1 m2 m3 m4 m5 m6 th n bg tn sl ht sn o nx kp ow2) H := hP
  have hD : va_D A (GO cI cJ ao h0 h1 h2 h3 h4 h5 h6 f n wn t tc sc uw c1 c2 s' ow hf tf ++ mW cI cZ m0 m1 m2 m3 m4 m5 m6 th n bg tn sl ht sn o nx kp ow2) := hD
  refine lv_aload_n hx hb dL_law_1052 rfl (lv_at hl 5 rfl) ?_
  refine call_Vp (As := []) (rest := []) S (m_X2_thrown m0 m1 m2 m3 m4 m5 m6 th n bg tn sl ht sn o nx kp ow2) g_L_X2_thrown hd_X2_thrown ⟨Nat.le_of_ble_eq_true rfl, Nat.le_of_ble_eq_true rfl⟩ ⟨(by show _ ≤ 601024; omega), (by show _ ≤ 7293034; omega)⟩ hP hD hK hS hZ [8, 9, 10, 11, 12, 13, 14] rfl (by decide) 0 rfl rfl hl.1 rfl (Nat.le_of_ble_eq_true rfl) dL_law_1053 (fun r3 H locs hq hP hS => ?_)
  obtain rfl := hq
  refine lv_iload hx hb dL_law_1056 (lv_at hl 1 rfl) ?_
  refine lv_icmp_eq (tgt := 1063) hx hb dL_law_1058 (by decide) (fun _ => ?_) (fun hc => absurd rfl hc)
  refine lv_iload hx hb dL_law_1063 (lv_at hl 1 rfl) ?_
  have hend : ∀ ls : Array Slot, lv_has ls 9 [(6, .int r2), (5, .int (nI th)), (4, .int (nI (4 * k))), (0, .ref b), (1, .ref h0), (2, .ref m0), (3, .ref ao)] → W p l e room_1 s m args below meth c H locs (cells + 1) (slots + 6) Q (F0 m 1087 ls []) := fun ls hl => lv_goto (tgt := 1553) hx hb dL_law_1087 (by decide) (nxt f n wn t tc sc uw c1 c2 s' ow hf tf m1 m2 m3 m4 m5 m6 th bg tn sl ht sn o nx kp ow2 H locs ls _ _ R (by omega) (lv_sub hl [2, 3, 4, 5, 6] rfl) hP hD hS (by omega) (by omega))
  refine ifN_ne (tgt := 1087) hx hb dL_law_1065 (by decide) (by omega) (fun _ => hend ls hl) (fun h0 => ?_)
  refine lv_aload_n hx hb dL_law_1068 rfl (lv_at hl 6 rfl) ?_
  refine lv_iconst (v := nI 0) hx hb dL_law_1069 (by decide) ?_
  refine va_lald (n := 1) hx hb hK hP 0 2 rfl rfl (vp_in_nI (by decide) (by decide)) dL_law_1070 ?_
  rw [show (nI 0).toNatClampNeg = 0 from nI_clamp (by omega)]
  refine lv_iload hx hb dL_law_1071 (lv_at hl 0 rfl) ?_
  obtain ⟨b2, rfl, hb2⟩ := hans h0
  rw [hb2]
  refine ternL_eq hx hb dL_law_1073 dL_law_1076 dL_law_1077 dL_law_1080 (by decide) (by decide) ?_
  refine W.lcmp hx hb dL_law_1081 ?_
  rw [lgc]
  exact lv_if_eq (tgt := 1087) hx hb dL_law_1082 (by decide) (fun _ => hend ls hl) (fun hc => absurd rfl hc)

set_option maxHeartbeats 4000000 in
set_option maxRecDepth 100000 in
theorem cs_19 (X : LX p l s m args c dC dI cI cZ cJ A b L xs) (hkL : 4 * k + 4 ≤ L) (nxt : NX p l e s m args below meth c dC dI cI cZ cJ A Q b ao h0 h1 h2 h3 h4 h5 h6 m0 1553 (4 * k) (k + 1) (k + 1)) : NX p l e s m args below meth c dC dI cI cZ cJ A Q b ao h0 h1 h2 h3 h4 h5 h6 m0 1090 (4 * k) k k := by
  obtain ⟨S, hlt, hK, hZ, hX, hN, hNw, hA, hbA, hXs, hbl, hL⟩ := X
  obtain ⟨hx, hb, hml, hown, hts⟩ := id S
  intro f n wn t tc sc uw c1 c2 s' ow hf tf m1 m2 m3 m4 m5 m6 th bg tn sl ht sn o nx kp ow2 H locs ls cells slots R htk hl hP hD hS hcc hss
  refine lv_aload_n hx hb dL_law_1090 rfl (lv_at hl 2 rfl) ?_
  refine lv_aload_n hx hb dL_law_1091 rfl (lv_at hl 1 rfl) ?_
  refine lv_iload hx hb dL_law_1092 (lv_at hl 0 rfl) ?_
  refine lv_iconst (v := nI 1) hx hb dL_law_1094 (by decide) ?_
  refine lv_iadd hx hb dL_law_1095 ?_
  refine W_i (y := nI (4 * k + 1)) (nI_add _ _) ?_
  refine va_sld hx hb hXs hbl hbA hS (vp_in_nI (show 4 * k + 1 < L by omega) (by omega)) dL_law_1096 ?_
  refine lv_aload_n hx hb dL_law_1097 rfl (lv_at hl 4 rfl) ?_
  obtain ⟨P1, P2, fr, lo, hfr, hlo, hH, hM, hJ⟩ := op_isCertain (cJ := cJ) hlt ao h0 h1 h2 h3 h4 h5 h6 n wn t tc sc uw c1 c2 s' ow hf tf f m0 m1 m2 m3 m4 m5 m6 th bg tn sl ht sn o nx kp ow2 R (by omega) (xs (nI (4 * k + 1)).toNatClampNeg)
  refine call_Hi (As := [.ref h0, .int (xs (nI (4 * k + 1)).toNatClampNeg), .ref ao]) (rest := []) (wr := mW cI cZ m0 m1 m2 m3 m4 m5 m6 th n bg tn sl ht sn o nx kp ow2) S hH g_L_L_isCertain hd_L_isCertain ⟨Nat.le_of_ble_eq_true rfl, Nat.le_of_ble_eq_true rfl⟩ ⟨(by show _ ≤ 601024; omega), (by show _ ≤ 7293034; omega)⟩ hP hD hK hS hZ hX hN [0, 1, 2, 3, 4, 5, 6, 7] [8, 9, 10, 11, 12, 13, 14] rfl rfl (by decide) hl.1 rfl (Nat.le_of_ble_eq_true rfl) dL_law_1098 (fun r1 u1 H locs q1 hP hD hS => ?_)
  refine lv_istore (lv' := [(5, .int r1), (4, .int (nI (4 * k))), (0, .ref b), (1, .ref h0), (2, .ref m0), (3, .ref ao)]) hx hb dL_law_1101 hl (by decide) rfl (fun ls hl => ?_)
  refine lv_aload_n hx hb dL_law_1103 rfl (lv_at hl 4 rfl) ?_
  refine lv_aload_n hx hb dL_law_1104 rfl (lv_at hl 2 rfl) ?_
  refine lv_iload hx hb dL_law_1105 (lv_at hl 1 rfl) ?_
  refine lv_iconst (v := nI 1) hx hb dL_law_1107 (by decide) ?_
  refine lv_iadd hx hb dL_law_1108 ?_
  refine W_i (y := nI (4 * k + 1)) (nI_add _ _) ?_
  refine va_sld hx hb hXs hbl hbA hS (vp_in_nI (show 4 * k + 1 < L by omega) (by omega)) dL_law_1109 ?_
  refine call_Vi (As := [.int (xs (nI (4 * k + 1)).toNatClampNeg)]) (wr := u1) (rest := []) S hM g_L_X2_isCertain hd_X2_isCertain ⟨(by show fr + 1 ≤ 12; omega), (by show 8 + (2 + 11) + lo ≤ 440; omega)⟩ ⟨(by show _ ≤ 601024; omega), (by show _ ≤ 7293034; omega)⟩ hP hD hK hS hZ [0, 1, 2, 3, 4, 5, 6] ((List.range u1.length).map (· + 7)) rfl (ix_B (mW cI cZ m0 m1 m2 m3 m4 m5 m6 th n bg tn sl ht sn o nx kp ow2) u1 7 rfl) (nd_B _) 0 rfl rfl hl.1 rfl (Nat.le_of_ble_eq_true rfl) dL_law_1110 (fun r2 u2 H locs q2 hP hD hS => ?_)
  refine lv_istore (lv' := [(6, .int r2), (5, .int r1), (4, .int (nI (4 * k))), (0, .ref b), (1, .ref h0), (2, .ref m0), (3, .ref ao)]) hx hb dL_law_1113 hl (by decide) rfl (fun ls hl => ?_)
  obtain ⟨f, n, wn, t, tc, sc, uw, c1, c2, s', ow, hf, tf, m1, m2, m3, m4, m5, m6, th, bg, tn, sl, ht, sn, o, nx, kp, ow2, rfl, rfl, R, htk2, hth, rfl, hans⟩ := hJ _ _ _ _ q1 q2
  have hP : va_P (dC, dI) vwCl (GO cI cJ ao h0 h1 h2 h3 h4 h5 h6 f n wn t tc sc uw c1 c2 s' ow hf tf ++ mW cI cZ m0 m1 m2 m3 m4 m5 m6 th n bg tn sl ht sn o nx kp ow2) H := hP
  have hD : va_D A (GO cI cJ ao h0 h1 h2 h3 h4 h5 h6 f n wn t tc sc uw c1 c2 s' ow hf tf ++ mW cI cZ m0 m1 m2 m3 m4 m5 m6 th n bg tn sl ht sn o nx kp ow2) := hD
  refine lv_aload_n hx hb dL_law_1115 rfl (lv_at hl 5 rfl) ?_
  refine call_Vp (As := []) (rest := []) S (m_X2_thrown m0 m1 m2 m3 m4 m5 m6 th n bg tn sl ht sn o nx kp ow2) g_L_X2_thrown hd_X2_thrown ⟨Nat.le_of_ble_eq_true rfl, Nat.le_of_ble_eq_true rfl⟩ ⟨(by show _ ≤ 601024; omega), (by show _ ≤ 7293034; omega)⟩ hP hD hK hS hZ [8, 9, 10, 11, 12, 13, 14] rfl (by decide) 0 rfl rfl hl.1 rfl (Nat.le_of_ble_eq_true rfl) dL_law_1116 (fun r3 H locs hq hP hS => ?_)
  obtain rfl := hq
  refine lv_iload hx hb dL_law_1119 (lv_at hl 1 rfl) ?_
  refine lv_icmp_eq (tgt := 1126) hx hb dL_law_1121 (by decide) (fun _ => ?_) (fun hc => absurd rfl hc)
  refine lv_iload hx hb dL_law_1126 (lv_at hl 1 rfl) ?_
  have hend : ∀ ls : Array Slot, lv_has ls 9 [(6, .int r2), (5, .int (nI th)), (4, .int (nI (4 * k))), (0, .ref b), (1, .ref h0), (2, .ref m0), (3, .ref ao)] → W p l e room_1 s m args below meth c H locs (cells + 1) (slots + 6) Q (F0 m 1150 ls []) := fun ls hl => lv_goto (tgt := 1553) hx hb dL_law_1150 (by decide) (nxt f n wn t tc sc uw c1 c2 s' ow hf tf m1 m2 m3 m4 m5 m6 th bg tn sl ht sn o nx kp ow2 H locs ls _ _ R (by omega) (lv_sub hl [2, 3, 4, 5, 6] rfl) hP hD hS (by omega) (by omega))
  refine ifN_ne (tgt := 1150) hx hb dL_law_1128 (by decide) (by omega) (fun _ => hend ls hl) (fun h0 => ?_)
  refine lv_aload_n hx hb dL_law_1131 rfl (lv_at hl 6 rfl) ?_
  refine lv_iconst (v := nI 0) hx hb dL_law_1132 (by decide) ?_
  refine va_lald (n := 1) hx hb hK hP 0 2 rfl rfl (vp_in_nI (by decide) (by decide)) dL_law_1133 ?_
  rw [show (nI 0).toNatClampNeg = 0 from nI_clamp (by omega)]
  refine lv_iload hx hb dL_law_1134 (lv_at hl 0 rfl) ?_
  obtain ⟨b2, rfl, hb2⟩ := hans h0
  rw [hb2]
  refine ternL_eq hx hb dL_law_1136 dL_law_1139 dL_law_1140 dL_law_1143 (by decide) (by decide) ?_
  refine W.lcmp hx hb dL_law_1144 ?_
  rw [lgc]
  exact lv_if_eq (tgt := 1150) hx hb dL_law_1145 (by decide) (fun _ => hend ls hl) (fun hc => absurd rfl hc)

set_option maxHeartbeats 4000000 in
set_option maxRecDepth 100000 in
theorem cs_20 (X : LX p l s m args c dC dI cI cZ cJ A b L xs) (hkL : 4 * k + 4 ≤ L) (nxt : NX p l e s m args below meth c dC dI cI cZ cJ A Q b ao h0 h1 h2 h3 h4 h5 h6 m0 1553 (4 * k) (k + 1) (k + 1)) : NX p l e s m args below meth c dC dI cI cZ cJ A Q b ao h0 h1 h2 h3 h4 h5 h6 m0 1153 (4 * k) k k := by
  obtain ⟨S, hlt, hK, hZ, hX, hN, hNw, hA, hbA, hXs, hbl, hL⟩ := X
  obtain ⟨hx, hb, hml, hown, hts⟩ := id S
  intro f n wn t tc sc uw c1 c2 s' ow hf tf m1 m2 m3 m4 m5 m6 th bg tn sl ht sn o nx kp ow2 H locs ls cells slots R htk hl hP hD hS hcc hss
  refine lv_aload_n hx hb dL_law_1153 rfl (lv_at hl 2 rfl) ?_
  refine lv_aload_n hx hb dL_law_1154 rfl (lv_at hl 1 rfl) ?_
  refine lv_iload hx hb dL_law_1155 (lv_at hl 0 rfl) ?_
  refine lv_iconst (v := nI 1) hx hb dL_law_1157 (by decide) ?_
  refine lv_iadd hx hb dL_law_1158 ?_
  refine W_i (y := nI (4 * k + 1)) (nI_add _ _) ?_
  refine va_sld hx hb hXs hbl hbA hS (vp_in_nI (show 4 * k + 1 < L by omega) (by omega)) dL_law_1159 ?_
  refine lv_aload_n hx hb dL_law_1160 rfl (lv_at hl 1 rfl) ?_
  refine lv_iload hx hb dL_law_1161 (lv_at hl 0 rfl) ?_
  refine lv_iconst (v := nI 2) hx hb dL_law_1163 (by decide) ?_
  refine lv_iadd hx hb dL_law_1164 ?_
  refine W_i (y := nI (4 * k + 2)) (nI_add _ _) ?_
  refine va_sld hx hb hXs hbl hbA hS (vp_in_nI (show 4 * k + 2 < L by omega) (by omega)) dL_law_1165 ?_
  refine lv_aload_n hx hb dL_law_1166 rfl (lv_at hl 4 rfl) ?_
  obtain ⟨P1, P2, fr, lo, hfr, hlo, hH, hM, hJ⟩ := op_knowsHatOf (cJ := cJ) hlt ao h0 h1 h2 h3 h4 h5 h6 n wn t tc sc uw c1 c2 s' ow hf tf f m0 m1 m2 m3 m4 m5 m6 th bg tn sl ht sn o nx kp ow2 R (by omega) (xs (nI (4 * k + 1)).toNatClampNeg) (xs (nI (4 * k + 2)).toNatClampNeg)
  refine call_Hi (As := [.ref h0, .int (xs (nI (4 * k + 1)).toNatClampNeg), .int (xs (nI (4 * k + 2)).toNatClampNeg), .ref ao]) (rest := []) (wr := mW cI cZ m0 m1 m2 m3 m4 m5 m6 th n bg tn sl ht sn o nx kp ow2) S hH g_L_L_knowsHatOf hd_L_knowsHatOf ⟨Nat.le_of_ble_eq_true rfl, Nat.le_of_ble_eq_true rfl⟩ ⟨(by show _ ≤ 601024; omega), (by show _ ≤ 7293034; omega)⟩ hP hD hK hS hZ hX hN [0, 1, 2, 3, 4, 5, 6, 7] [8, 9, 10, 11, 12, 13, 14] rfl rfl (by decide) hl.1 rfl (Nat.le_of_ble_eq_true rfl) dL_law_1167 (fun r1 u1 H locs q1 hP hD hS => ?_)
  refine lv_istore (lv' := [(5, .int r1), (4, .int (nI (4 * k))), (0, .ref b), (1, .ref h0), (2, .ref m0), (3, .ref ao)]) hx hb dL_law_1170 hl (by decide) rfl (fun ls hl => ?_)
  refine lv_aload_n hx hb dL_law_1172 rfl (lv_at hl 4 rfl) ?_
  refine lv_aload_n hx hb dL_law_1173 rfl (lv_at hl 2 rfl) ?_
  refine lv_iload hx hb dL_law_1174 (lv_at hl 1 rfl) ?_
  refine lv_iconst (v := nI 1) hx hb dL_law_1176 (by decide) ?_
  refine lv_iadd hx hb dL_law_1177 ?_
  refine W_i (y := nI (4 * k + 1)) (nI_add _ _) ?_
  refine va_sld hx hb hXs hbl hbA hS (vp_in_nI (show 4 * k + 1 < L by omega) (by omega)) dL_law_1178 ?_
  refine lv_aload_n hx hb dL_law_1179 rfl (lv_at hl 2 rfl) ?_
  refine lv_iload hx hb dL_law_1180 (lv_at hl 1 rfl) ?_
  refine lv_iconst (v := nI 2) hx hb dL_law_1182 (by decide) ?_
  refine lv_iadd hx hb dL_law_1183 ?_
  refine W_i (y := nI (4 * k + 2)) (nI_add _ _) ?_
  refine va_sld hx hb hXs hbl hbA hS (vp_in_nI (show 4 * k + 2 < L by omega) (by omega)) dL_law_1184 ?_
  refine call_Vi (As := [.int (xs (nI (4 * k + 1)).toNatClampNeg), .int (xs (nI (4 * k + 2)).toNatClampNeg)]) (wr := u1) (rest := []) S hM g_L_X2_knowsHatOf hd_X2_knowsHatOf ⟨(by show fr + 1 ≤ 12; omega), (by show 8 + (3 + 11) + lo ≤ 440; omega)⟩ ⟨(by show _ ≤ 601024; omega), (by show _ ≤ 7293034; omega)⟩ hP hD hK hS hZ [0, 1, 2, 3, 4, 5, 6] ((List.range u1.length).map (· + 7)) rfl (ix_B (mW cI cZ m0 m1 m2 m3 m4 m5 m6 th n bg tn sl ht sn o nx kp ow2) u1 7 rfl) (nd_B _) 0 rfl rfl hl.1 rfl (Nat.le_of_ble_eq_true rfl) dL_law_1185 (fun r2 u2 H locs q2 hP hD hS => ?_)
  refine lv_istore (lv' := [(6, .int r2), (5, .int r1), (4, .int (nI (4 * k))), (0, .ref b), (1, .ref h0), (2, .ref m0), (3, .ref ao)]) hx hb dL_law_1188 hl (by decide) rfl (fun ls hl => ?_)
  obtain ⟨f, n, wn, t, tc, sc, uw, c1, c2, s', ow, hf, tf, m1, m2, m3, m4, m5, m6, th, bg, tn, sl, ht, sn, o, nx, kp, ow2, rfl, rfl, R, htk2, hth, rfl, hans⟩ := hJ _ _ _ _ q1 q2
  have hP : va_P (dC, dI) vwCl (GO cI cJ ao h0 h1 h2 h3 h4 h5 h6 f n wn t tc sc uw c1 c2 s' ow hf tf ++ mW cI cZ m0 m1 m2 m3 m4 m5 m6 th n bg tn sl ht sn o nx kp ow2) H := hP
  have hD : va_D A (GO cI cJ ao h0 h1 h2 h3 h4 h5 h6 f n wn t tc sc uw c1 c2 s' ow hf tf ++ mW cI cZ m0 m1 m2 m3 m4 m5 m6 th n bg tn sl ht sn o nx kp ow2) := hD
  refine lv_aload_n hx hb dL_law_1190 rfl (lv_at hl 5 rfl) ?_
  refine call_Vp (As := []) (rest := []) S (m_X2_thrown m0 m1 m2 m3 m4 m5 m6 th n bg tn sl ht sn o nx kp ow2) g_L_X2_thrown hd_X2_thrown ⟨Nat.le_of_ble_eq_true rfl, Nat.le_of_ble_eq_true rfl⟩ ⟨(by show _ ≤ 601024; omega), (by show _ ≤ 7293034; omega)⟩ hP hD hK hS hZ [8, 9, 10, 11, 12, 13, 14] rfl (by decide) 0 rfl rfl hl.1 rfl (Nat.le_of_ble_eq_true rfl) dL_law_1191 (fun r3 H locs hq hP hS => ?_)
  obtain rfl := hq
  refine lv_iload hx hb dL_law_1194 (lv_at hl 1 rfl) ?_
  refine lv_icmp_eq (tgt := 1201) hx hb dL_law_1196 (by decide) (fun _ => ?_) (fun hc => absurd rfl hc)
  refine lv_iload hx hb dL_law_1201 (lv_at hl 1 rfl) ?_
  have hend : ∀ ls : Array Slot, lv_has ls 9 [(6, .int r2), (5, .int (nI th)), (4, .int (nI (4 * k))), (0, .ref b), (1, .ref h0), (2, .ref m0), (3, .ref ao)] → W p l e room_1 s m args below meth c H locs (cells + 1) (slots + 6) Q (F0 m 1225 ls []) := fun ls hl => lv_goto (tgt := 1553) hx hb dL_law_1225 (by decide) (nxt f n wn t tc sc uw c1 c2 s' ow hf tf m1 m2 m3 m4 m5 m6 th bg tn sl ht sn o nx kp ow2 H locs ls _ _ R (by omega) (lv_sub hl [2, 3, 4, 5, 6] rfl) hP hD hS (by omega) (by omega))
  refine ifN_ne (tgt := 1225) hx hb dL_law_1203 (by decide) (by omega) (fun _ => hend ls hl) (fun h0 => ?_)
  refine lv_aload_n hx hb dL_law_1206 rfl (lv_at hl 6 rfl) ?_
  refine lv_iconst (v := nI 0) hx hb dL_law_1207 (by decide) ?_
  refine va_lald (n := 1) hx hb hK hP 0 2 rfl rfl (vp_in_nI (by decide) (by decide)) dL_law_1208 ?_
  rw [show (nI 0).toNatClampNeg = 0 from nI_clamp (by omega)]
  refine lv_iload hx hb dL_law_1209 (lv_at hl 0 rfl) ?_
  obtain ⟨b2, rfl, hb2⟩ := hans h0
  rw [hb2]
  refine ternL_eq hx hb dL_law_1211 dL_law_1214 dL_law_1215 dL_law_1218 (by decide) (by decide) ?_
  refine W.lcmp hx hb dL_law_1219 ?_
  rw [lgc]
  exact lv_if_eq (tgt := 1225) hx hb dL_law_1220 (by decide) (fun _ => hend ls hl) (fun hc => absurd rfl hc)

set_option maxHeartbeats 4000000 in
set_option maxRecDepth 100000 in
theorem cs_21 (X : LX p l s m args c dC dI cI cZ cJ A b L xs) (hkL : 4 * k + 4 ≤ L) (nxt : NX p l e s m args below meth c dC dI cI cZ cJ A Q b ao h0 h1 h2 h3 h4 h5 h6 m0 1553 (4 * k) (k + 1) (k + 1)) : NX p l e s m args below meth c dC dI cI cZ cJ A Q b ao h0 h1 h2 h3 h4 h5 h6 m0 1228 (4 * k) k k := by
  obtain ⟨S, hlt, hK, hZ, hX, hN, hNw, hA, hbA, hXs, hbl, hL⟩ := X
  obtain ⟨hx, hb, hml, hown, hts⟩ := id S
  intro f n wn t tc sc uw c1 c2 s' ow hf tf m1 m2 m3 m4 m5 m6 th bg tn sl ht sn o nx kp ow2 H locs ls cells slots R htk hl hP hD hS hcc hss
  refine lv_aload_n hx hb dL_law_1228 rfl (lv_at hl 2 rfl) ?_
  refine lv_aload_n hx hb dL_law_1229 rfl (lv_at hl 1 rfl) ?_
  refine lv_iload hx hb dL_law_1230 (lv_at hl 0 rfl) ?_
  refine lv_iconst (v := nI 1) hx hb dL_law_1232 (by decide) ?_
  refine lv_iadd hx hb dL_law_1233 ?_
  refine W_i (y := nI (4 * k + 1)) (nI_add _ _) ?_
  refine va_sld hx hb hXs hbl hbA hS (vp_in_nI (show 4 * k + 1 < L by omega) (by omega)) dL_law_1234 ?_
  refine lv_aload_n hx hb dL_law_1235 rfl (lv_at hl 1 rfl) ?_
  refine lv_iload hx hb dL_law_1236 (lv_at hl 0 rfl) ?_
  refine lv_iconst (v := nI 2) hx hb dL_law_1238 (by decide) ?_
  refine lv_iadd hx hb dL_law_1239 ?_
  refine W_i (y := nI (4 * k + 2)) (nI_add _ _) ?_
  refine va_sld hx hb hXs hbl hbA hS (vp_in_nI (show 4 * k + 2 < L by omega) (by omega)) dL_law_1240 ?_
  refine lv_aload_n hx hb dL_law_1241 rfl (lv_at hl 4 rfl) ?_
  obtain ⟨P1, P2, fr, lo, hfr, hlo, hH, hM, hJ⟩ := op_knowsCertain (cJ := cJ) hlt ao h0 h1 h2 h3 h4 h5 h6 n wn t tc sc uw c1 c2 s' ow hf tf f m0 m1 m2 m3 m4 m5 m6 th bg tn sl ht sn o nx kp ow2 R (by omega) (xs (nI (4 * k + 1)).toNatClampNeg) (xs (nI (4 * k + 2)).toNatClampNeg)
  refine call_Hi (As := [.ref h0, .int (xs (nI (4 * k + 1)).toNatClampNeg), .int (xs (nI (4 * k + 2)).toNatClampNeg), .ref ao]) (rest := []) (wr := mW cI cZ m0 m1 m2 m3 m4 m5 m6 th n bg tn sl ht sn o nx kp ow2) S hH g_L_L_knowsCertain hd_L_knowsCertain ⟨Nat.le_of_ble_eq_true rfl, Nat.le_of_ble_eq_true rfl⟩ ⟨(by show _ ≤ 601024; omega), (by show _ ≤ 7293034; omega)⟩ hP hD hK hS hZ hX hN [0, 1, 2, 3, 4, 5, 6, 7] [8, 9, 10, 11, 12, 13, 14] rfl rfl (by decide) hl.1 rfl (Nat.le_of_ble_eq_true rfl) dL_law_1242 (fun r1 u1 H locs q1 hP hD hS => ?_)
  refine lv_istore (lv' := [(5, .int r1), (4, .int (nI (4 * k))), (0, .ref b), (1, .ref h0), (2, .ref m0), (3, .ref ao)]) hx hb dL_law_1245 hl (by decide) rfl (fun ls hl => ?_)
  refine lv_aload_n hx hb dL_law_1247 rfl (lv_at hl 4 rfl) ?_
  refine lv_aload_n hx hb dL_law_1248 rfl (lv_at hl 2 rfl) ?_
  refine lv_iload hx hb dL_law_1249 (lv_at hl 1 rfl) ?_
  refine lv_iconst (v := nI 1) hx hb dL_law_1251 (by decide) ?_
  refine lv_iadd hx hb dL_law_1252 ?_
  refine W_i (y := nI (4 * k + 1)) (nI_add _ _) ?_
  refine va_sld hx hb hXs hbl hbA hS (vp_in_nI (show 4 * k + 1 < L by omega) (by omega)) dL_law_1253 ?_
  refine lv_aload_n hx hb dL_law_1254 rfl (lv_at hl 2 rfl) ?_
  refine lv_iload hx hb dL_law_1255 (lv_at hl 1 rfl) ?_
  refine lv_iconst (v := nI 2) hx hb dL_law_1257 (by decide) ?_
  refine lv_iadd hx hb dL_law_1258 ?_
  refine W_i (y := nI (4 * k + 2)) (nI_add _ _) ?_
  refine va_sld hx hb hXs hbl hbA hS (vp_in_nI (show 4 * k + 2 < L by omega) (by omega)) dL_law_1259 ?_
  refine call_Vi (As := [.int (xs (nI (4 * k + 1)).toNatClampNeg), .int (xs (nI (4 * k + 2)).toNatClampNeg)]) (wr := u1) (rest := []) S hM g_L_X2_knowsCertain hd_X2_knowsCertain ⟨(by show fr + 1 ≤ 12; omega), (by show 8 + (3 + 11) + lo ≤ 440; omega)⟩ ⟨(by show _ ≤ 601024; omega), (by show _ ≤ 7293034; omega)⟩ hP hD hK hS hZ [0, 1, 2, 3, 4, 5, 6] ((List.range u1.length).map (· + 7)) rfl (ix_B (mW cI cZ m0 m1 m2 m3 m4 m5 m6 th n bg tn sl ht sn o nx kp ow2) u1 7 rfl) (nd_B _) 0 rfl rfl hl.1 rfl (Nat.le_of_ble_eq_true rfl) dL_law_1260 (fun r2 u2 H locs q2 hP hD hS => ?_)
  refine lv_istore (lv' := [(6, .int r2), (5, .int r1), (4, .int (nI (4 * k))), (0, .ref b), (1, .ref h0), (2, .ref m0), (3, .ref ao)]) hx hb dL_law_1263 hl (by decide) rfl (fun ls hl => ?_)
  obtain ⟨f, n, wn, t, tc, sc, uw, c1, c2, s', ow, hf, tf, m1, m2, m3, m4, m5, m6, th, bg, tn, sl, ht, sn, o, nx, kp, ow2, rfl, rfl, R, htk2, hth, rfl, hans⟩ := hJ _ _ _ _ q1 q2
  have hP : va_P (dC, dI) vwCl (GO cI cJ ao h0 h1 h2 h3 h4 h5 h6 f n wn t tc sc uw c1 c2 s' ow hf tf ++ mW cI cZ m0 m1 m2 m3 m4 m5 m6 th n bg tn sl ht sn o nx kp ow2) H := hP
  have hD : va_D A (GO cI cJ ao h0 h1 h2 h3 h4 h5 h6 f n wn t tc sc uw c1 c2 s' ow hf tf ++ mW cI cZ m0 m1 m2 m3 m4 m5 m6 th n bg tn sl ht sn o nx kp ow2) := hD
  refine lv_aload_n hx hb dL_law_1265 rfl (lv_at hl 5 rfl) ?_
  refine call_Vp (As := []) (rest := []) S (m_X2_thrown m0 m1 m2 m3 m4 m5 m6 th n bg tn sl ht sn o nx kp ow2) g_L_X2_thrown hd_X2_thrown ⟨Nat.le_of_ble_eq_true rfl, Nat.le_of_ble_eq_true rfl⟩ ⟨(by show _ ≤ 601024; omega), (by show _ ≤ 7293034; omega)⟩ hP hD hK hS hZ [8, 9, 10, 11, 12, 13, 14] rfl (by decide) 0 rfl rfl hl.1 rfl (Nat.le_of_ble_eq_true rfl) dL_law_1266 (fun r3 H locs hq hP hS => ?_)
  obtain rfl := hq
  refine lv_iload hx hb dL_law_1269 (lv_at hl 1 rfl) ?_
  refine lv_icmp_eq (tgt := 1276) hx hb dL_law_1271 (by decide) (fun _ => ?_) (fun hc => absurd rfl hc)
  refine lv_iload hx hb dL_law_1276 (lv_at hl 1 rfl) ?_
  have hend : ∀ ls : Array Slot, lv_has ls 9 [(6, .int r2), (5, .int (nI th)), (4, .int (nI (4 * k))), (0, .ref b), (1, .ref h0), (2, .ref m0), (3, .ref ao)] → W p l e room_1 s m args below meth c H locs (cells + 1) (slots + 6) Q (F0 m 1300 ls []) := fun ls hl => lv_goto (tgt := 1553) hx hb dL_law_1300 (by decide) (nxt f n wn t tc sc uw c1 c2 s' ow hf tf m1 m2 m3 m4 m5 m6 th bg tn sl ht sn o nx kp ow2 H locs ls _ _ R (by omega) (lv_sub hl [2, 3, 4, 5, 6] rfl) hP hD hS (by omega) (by omega))
  refine ifN_ne (tgt := 1300) hx hb dL_law_1278 (by decide) (by omega) (fun _ => hend ls hl) (fun h0 => ?_)
  refine lv_aload_n hx hb dL_law_1281 rfl (lv_at hl 6 rfl) ?_
  refine lv_iconst (v := nI 0) hx hb dL_law_1282 (by decide) ?_
  refine va_lald (n := 1) hx hb hK hP 0 2 rfl rfl (vp_in_nI (by decide) (by decide)) dL_law_1283 ?_
  rw [show (nI 0).toNatClampNeg = 0 from nI_clamp (by omega)]
  refine lv_iload hx hb dL_law_1284 (lv_at hl 0 rfl) ?_
  obtain ⟨b2, rfl, hb2⟩ := hans h0
  rw [hb2]
  refine ternL_eq hx hb dL_law_1286 dL_law_1289 dL_law_1290 dL_law_1293 (by decide) (by decide) ?_
  refine W.lcmp hx hb dL_law_1294 ?_
  rw [lgc]
  exact lv_if_eq (tgt := 1300) hx hb dL_law_1295 (by decide) (fun _ => hend ls hl) (fun hc => absurd rfl hc)

set_option maxHeartbeats 4000000 in
set_option maxRecDepth 100000 in
theorem cs_22 (X : LX p l s m args c dC dI cI cZ cJ A b L xs) (hkL : 4 * k + 4 ≤ L) (nxt : NX p l e s m args below meth c dC dI cI cZ cJ A Q b ao h0 h1 h2 h3 h4 h5 h6 m0 1553 (4 * k) (k + 1) (k + 1)) : NX p l e s m args below meth c dC dI cI cZ cJ A Q b ao h0 h1 h2 h3 h4 h5 h6 m0 1303 (4 * k) k k := by
  obtain ⟨S, hlt, hK, hZ, hX, hN, hNw, hA, hbA, hXs, hbl, hL⟩ := X
  obtain ⟨hx, hb, hml, hown, hts⟩ := id S
  intro f n wn t tc sc uw c1 c2 s' ow hf tf m1 m2 m3 m4 m5 m6 th bg tn sl ht sn o nx kp ow2 H locs ls cells slots R htk hl hP hD hS hcc hss
  have e1 : uw = bg := R.2.2.2.2.1
  subst e1
  have e2 : tc = tn := R.2.2.2.2.2.1
  subst e2
  have e3 : sc = sl := R.2.2.2.2.2.2.1
  subst e3
  obtain ⟨hn, hw, hs, hc1, hb1, ht5, hsn, hht⟩ := R.inv
  have C := R.cx
  have P := R.rp
  have htn : tc < 2 ^ 20 := by omega
  have hTn := R.2.2.2.1
  refine lv_aload_n hx hb dL_law_1303 rfl (lv_at hl 2 rfl) ?_
  refine call_Vp (As := []) (rest := []) S (m_X1_certainPlayers h0 h1 h2 h3 h4 h5 h6 n wn t tc sc uw c1 c2 s' ow hf tf hn hw hs hc1 hb1) g_L_X1_certainPlayers hd_X1_certainPlayers ⟨Nat.le_of_ble_eq_true rfl, Nat.le_of_ble_eq_true rfl⟩ ⟨(by show _ ≤ 601024; omega), (by show _ ≤ 7293034; omega)⟩ hP hD hK hS hZ [1, 2, 3, 4, 5, 6, 7] rfl (by decide) 0 rfl rfl hl.1 rfl (Nat.le_of_ble_eq_true rfl) dL_law_1304 (fun r1 H locs hq1 hP hS => ?_)
  refine lv_aload_n hx hb dL_law_1307 rfl (lv_at hl 3 rfl) ?_
  refine call_Vi (As := []) (rest := [.int r1]) (wr := GO cI cJ ao h0 h1 h2 h3 h4 h5 h6 f n wn t tc sc uw c1 c2 s' ow hf tf) S (m_X2_certainPlayers m0 m1 m2 m3 m4 m5 m6 th n uw tc sc ht sn o nx kp ow2 hn hsn hht) g_L_X2_certainPlayers hd_X2_certainPlayers ⟨Nat.le_of_ble_eq_true rfl, Nat.le_of_ble_eq_true rfl⟩ ⟨(by show _ ≤ 601024; omega), (by show _ ≤ 7293034; omega)⟩ hP hD hK hS hZ [8, 9, 10, 11, 12, 13, 14] [0, 1, 2, 3, 4, 5, 6, 7] rfl rfl (by decide) 0 rfl rfl hl.1 rfl (Nat.le_of_ble_eq_true rfl) dL_law_1308 (fun r2 u2 H locs hq2 hP hD hS => ?_)
  obtain ⟨rfl, rfl⟩ := hq2
  obtain rfl := hq1
  refine lv_icmp_eq (tgt := 1553) hx hb dL_law_1311 (by decide) (fun _ => ?_) (fun hc => absurd (congrArg nI (C.certs P n (Nat.le_refl _))) hc)
  exact nxt f n wn t tc sc uw c1 c2 s' ow hf tf m1 m2 m3 m4 m5 m6 0 uw tc sc ht sn o nx kp ow2 H locs ls _ _ R (by omega) hl hP hD hS (by omega) (by omega)

set_option maxHeartbeats 4000000 in
set_option maxRecDepth 100000 in
theorem cs_23 (X : LX p l s m args c dC dI cI cZ cJ A b L xs) (hkL : 4 * k + 4 ≤ L) (nxt : NX p l e s m args below meth c dC dI cI cZ cJ A Q b ao h0 h1 h2 h3 h4 h5 h6 m0 1553 (4 * k) (k + 1) (k + 1)) : NX p l e s m args below meth c dC dI cI cZ cJ A Q b ao h0 h1 h2 h3 h4 h5 h6 m0 1316 (4 * k) k k := by
  obtain ⟨S, hlt, hK, hZ, hX, hN, hNw, hA, hbA, hXs, hbl, hL⟩ := X
  obtain ⟨hx, hb, hml, hown, hts⟩ := id S
  intro f n wn t tc sc uw c1 c2 s' ow hf tf m1 m2 m3 m4 m5 m6 th bg tn sl ht sn o nx kp ow2 H locs ls cells slots R htk hl hP hD hS hcc hss
  refine lv_aload_n hx hb dL_law_1316 rfl (lv_at hl 2 rfl) ?_
  refine lv_aload_n hx hb dL_law_1317 rfl (lv_at hl 4 rfl) ?_
  obtain ⟨P1, P2, fr, lo, hfr, hlo, hH, hM, hJ⟩ := op_openAfterTurn (cJ := cJ) hlt ao h0 h1 h2 h3 h4 h5 h6 n wn t tc sc uw c1 c2 s' ow hf tf f m0 m1 m2 m3 m4 m5 m6 th bg tn sl ht sn o nx kp ow2 R (by omega) 
  refine call_Hi (As := [.ref h0, .ref ao]) (rest := []) (wr := mW cI cZ m0 m1 m2 m3 m4 m5 m6 th n bg tn sl ht sn o nx kp ow2) S hH g_L_L_openAfterTurn hd_L_openAfterTurn ⟨Nat.le_of_ble_eq_true rfl, Nat.le_of_ble_eq_true rfl⟩ ⟨(by show _ ≤ 601024; omega), (by show _ ≤ 7293034; omega)⟩ hP hD hK hS hZ hX hN [0, 1, 2, 3, 4, 5, 6, 7] [8, 9, 10, 11, 12, 13, 14] rfl rfl (by decide) hl.1 rfl (Nat.le_of_ble_eq_true rfl) dL_law_1318 (fun r1 u1 H locs q1 hP hD hS => ?_)
  refine lv_istore (lv' := [(5, .int r1), (4, .int (nI (4 * k))), (0, .ref b), (1, .ref h0), (2, .ref m0), (3, .ref ao)]) hx hb dL_law_1321 hl (by decide) rfl (fun ls hl => ?_)
  refine lv_aload_n hx hb dL_law_1323 rfl (lv_at hl 4 rfl) ?_
  refine call_Vi (As := []) (wr := u1) (rest := []) S hM g_L_X2_openAfterTurn hd_X2_openAfterTurn ⟨(by show fr + 1 ≤ 12; omega), (by show 8 + (1 + 11) + lo ≤ 440; omega)⟩ ⟨(by show _ ≤ 601024; omega), (by show _ ≤ 7293034; omega)⟩ hP hD hK hS hZ [0, 1, 2, 3, 4, 5, 6] ((List.range u1.length).map (· + 7)) rfl (ix_B (mW cI cZ m0 m1 m2 m3 m4 m5 m6 th n bg tn sl ht sn o nx kp ow2) u1 7 rfl) (nd_B _) 0 rfl rfl hl.1 rfl (Nat.le_of_ble_eq_true rfl) dL_law_1324 (fun r2 u2 H locs q2 hP hD hS => ?_)
  refine lv_istore (lv' := [(6, .int r2), (5, .int r1), (4, .int (nI (4 * k))), (0, .ref b), (1, .ref h0), (2, .ref m0), (3, .ref ao)]) hx hb dL_law_1327 hl (by decide) rfl (fun ls hl => ?_)
  obtain ⟨f, n, wn, t, tc, sc, uw, c1, c2, s', ow, hf, tf, m1, m2, m3, m4, m5, m6, th, bg, tn, sl, ht, sn, o, nx, kp, ow2, rfl, rfl, R, htk2, hth, rfl, hans⟩ := hJ _ _ _ _ q1 q2
  have hP : va_P (dC, dI) vwCl (GO cI cJ ao h0 h1 h2 h3 h4 h5 h6 f n wn t tc sc uw c1 c2 s' ow hf tf ++ mW cI cZ m0 m1 m2 m3 m4 m5 m6 th n bg tn sl ht sn o nx kp ow2) H := hP
  have hD : va_D A (GO cI cJ ao h0 h1 h2 h3 h4 h5 h6 f n wn t tc sc uw c1 c2 s' ow hf tf ++ mW cI cZ m0 m1 m2 m3 m4 m5 m6 th n bg tn sl ht sn o nx kp ow2) := hD
  refine lv_aload_n hx hb dL_law_1329 rfl (lv_at hl 5 rfl) ?_
  refine call_Vp (As := []) (rest := []) S (m_X2_thrown m0 m1 m2 m3 m4 m5 m6 th n bg tn sl ht sn o nx kp ow2) g_L_X2_thrown hd_X2_thrown ⟨Nat.le_of_ble_eq_true rfl, Nat.le_of_ble_eq_true rfl⟩ ⟨(by show _ ≤ 601024; omega), (by show _ ≤ 7293034; omega)⟩ hP hD hK hS hZ [8, 9, 10, 11, 12, 13, 14] rfl (by decide) 0 rfl rfl hl.1 rfl (Nat.le_of_ble_eq_true rfl) dL_law_1330 (fun r3 H locs hq hP hS => ?_)
  obtain rfl := hq
  refine lv_iload hx hb dL_law_1333 (lv_at hl 1 rfl) ?_
  refine lv_icmp_eq (tgt := 1340) hx hb dL_law_1335 (by decide) (fun _ => ?_) (fun hc => absurd rfl hc)
  refine lv_iload hx hb dL_law_1340 (lv_at hl 1 rfl) ?_
  have hend : ∀ ls : Array Slot, lv_has ls 9 [(6, .int r2), (5, .int (nI th)), (4, .int (nI (4 * k))), (0, .ref b), (1, .ref h0), (2, .ref m0), (3, .ref ao)] → W p l e room_1 s m args below meth c H locs (cells + 1) (slots + 6) Q (F0 m 1357 ls []) := fun ls hl => lv_goto (tgt := 1553) hx hb dL_law_1357 (by decide) (nxt f n wn t tc sc uw c1 c2 s' ow hf tf m1 m2 m3 m4 m5 m6 th bg tn sl ht sn o nx kp ow2 H locs ls _ _ R (by omega) (lv_sub hl [2, 3, 4, 5, 6] rfl) hP hD hS (by omega) (by omega))
  refine ifN_ne (tgt := 1357) hx hb dL_law_1342 (by decide) (by omega) (fun _ => hend ls hl) (fun h0 => ?_)
  refine lv_aload_n hx hb dL_law_1345 rfl (lv_at hl 6 rfl) ?_
  refine lv_iconst (v := nI 0) hx hb dL_law_1346 (by decide) ?_
  refine va_lald (n := 1) hx hb hK hP 0 2 rfl rfl (vp_in_nI (by decide) (by decide)) dL_law_1347 ?_
  rw [show (nI 0).toNatClampNeg = 0 from nI_clamp (by omega)]
  refine lv_iload hx hb dL_law_1348 (lv_at hl 0 rfl) ?_
  rw [show f 0 = r2.toInt64 from hans h0]
  refine lv_i2l hx hb dL_law_1350 rfl ?_
  refine W.lcmp hx hb dL_law_1351 ?_
  rw [lgc]
  exact lv_if_eq (tgt := 1357) hx hb dL_law_1352 (by decide) (fun _ => hend ls hl) (fun hc => absurd rfl hc)

set_option maxHeartbeats 4000000 in
set_option maxRecDepth 100000 in
theorem cs_24 (X : LX p l s m args c dC dI cI cZ cJ A b L xs) (hkL : 4 * k + 4 ≤ L) (nxt : NX p l e s m args below meth c dC dI cI cZ cJ A Q b ao h0 h1 h2 h3 h4 h5 h6 m0 1553 (4 * k) (k + 1) (k + 1)) : NX p l e s m args below meth c dC dI cI cZ cJ A Q b ao h0 h1 h2 h3 h4 h5 h6 m0 1360 (4 * k) k k := by
  obtain ⟨S, hlt, hK, hZ, hX, hN, hNw, hA, hbA, hXs, hbl, hL⟩ := X
  obtain ⟨hx, hb, hml, hown, hts⟩ := id S
  intro f n wn t tc sc uw c1 c2 s' ow hf tf m1 m2 m3 m4 m5 m6 th bg tn sl ht sn o nx kp ow2 H locs ls cells slots R htk hl hP hD hS hcc hss
  refine lv_aload_n hx hb dL_law_1360 rfl (lv_at hl 2 rfl) ?_
  refine lv_aload_n hx hb dL_law_1361 rfl (lv_at hl 1 rfl) ?_
  refine lv_iload hx hb dL_law_1362 (lv_at hl 0 rfl) ?_
  refine lv_iconst (v := nI 1) hx hb dL_law_1364 (by decide) ?_
  refine lv_iadd hx hb dL_law_1365 ?_
  refine W_i (y := nI (4 * k + 1)) (nI_add _ _) ?_
  refine va_sld hx hb hXs hbl hbA hS (vp_in_nI (show 4 * k + 1 < L by omega) (by omega)) dL_law_1366 ?_
  refine lv_aload_n hx hb dL_law_1367 rfl (lv_at hl 4 rfl) ?_
  obtain ⟨P1, P2, fr, lo, hfr, hlo, hH, hM, hJ⟩ := op_turnsUntilCertain (cJ := cJ) hlt ao h0 h1 h2 h3 h4 h5 h6 n wn t tc sc uw c1 c2 s' ow hf tf f m0 m1 m2 m3 m4 m5 m6 th bg tn sl ht sn o nx kp ow2 R (by omega) (xs (nI (4 * k + 1)).toNatClampNeg)
  refine call_Hi (As := [.ref h0, .int (xs (nI (4 * k + 1)).toNatClampNeg), .ref ao]) (rest := []) (wr := mW cI cZ m0 m1 m2 m3 m4 m5 m6 th n bg tn sl ht sn o nx kp ow2) S hH g_L_L_turnsUntilCertain hd_L_turnsUntilCertain ⟨Nat.le_of_ble_eq_true rfl, Nat.le_of_ble_eq_true rfl⟩ ⟨(by show _ ≤ 601024; omega), (by show _ ≤ 7293034; omega)⟩ hP hD hK hS hZ hX hN [0, 1, 2, 3, 4, 5, 6, 7] [8, 9, 10, 11, 12, 13, 14] rfl rfl (by decide) hl.1 rfl (Nat.le_of_ble_eq_true rfl) dL_law_1368 (fun r1 u1 H locs q1 hP hD hS => ?_)
  refine lv_istore (lv' := [(5, .int r1), (4, .int (nI (4 * k))), (0, .ref b), (1, .ref h0), (2, .ref m0), (3, .ref ao)]) hx hb dL_law_1371 hl (by decide) rfl (fun ls hl => ?_)
  refine lv_aload_n hx hb dL_law_1373 rfl (lv_at hl 4 rfl) ?_
  refine lv_aload_n hx hb dL_law_1374 rfl (lv_at hl 2 rfl) ?_
  refine lv_iload hx hb dL_law_1375 (lv_at hl 1 rfl) ?_
  refine lv_iconst (v := nI 1) hx hb dL_law_1377 (by decide) ?_
  refine lv_iadd hx hb dL_law_1378 ?_
  refine W_i (y := nI (4 * k + 1)) (nI_add _ _) ?_
  refine va_sld hx hb hXs hbl hbA hS (vp_in_nI (show 4 * k + 1 < L by omega) (by omega)) dL_law_1379 ?_
  refine call_Vi (As := [.int (xs (nI (4 * k + 1)).toNatClampNeg)]) (wr := u1) (rest := []) S hM g_L_X2_turnsUntilCertain hd_X2_turnsUntilCertain ⟨(by show fr + 1 ≤ 12; omega), (by show 8 + (2 + 11) + lo ≤ 440; omega)⟩ ⟨(by show _ ≤ 601024; omega), (by show _ ≤ 7293034; omega)⟩ hP hD hK hS hZ [0, 1, 2, 3, 4, 5, 6] ((List.range u1.length).map (· + 7)) rfl (ix_B (mW cI cZ m0 m1 m2 m3 m4 m5 m6 th n bg tn sl ht sn o nx kp ow2) u1 7 rfl) (nd_B _) 0 rfl rfl hl.1 rfl (Nat.le_of_ble_eq_true rfl) dL_law_1380 (fun r2 u2 H locs q2 hP hD hS => ?_)
  refine lv_istore (lv' := [(6, .int r2), (5, .int r1), (4, .int (nI (4 * k))), (0, .ref b), (1, .ref h0), (2, .ref m0), (3, .ref ao)]) hx hb dL_law_1383 hl (by decide) rfl (fun ls hl => ?_)
  obtain ⟨f, n, wn, t, tc, sc, uw, c1, c2, s', ow, hf, tf, m1, m2, m3, m4, m5, m6, th, bg, tn, sl, ht, sn, o, nx, kp, ow2, rfl, rfl, R, htk2, hth, rfl, hans⟩ := hJ _ _ _ _ q1 q2
  have hP : va_P (dC, dI) vwCl (GO cI cJ ao h0 h1 h2 h3 h4 h5 h6 f n wn t tc sc uw c1 c2 s' ow hf tf ++ mW cI cZ m0 m1 m2 m3 m4 m5 m6 th n bg tn sl ht sn o nx kp ow2) H := hP
  have hD : va_D A (GO cI cJ ao h0 h1 h2 h3 h4 h5 h6 f n wn t tc sc uw c1 c2 s' ow hf tf ++ mW cI cZ m0 m1 m2 m3 m4 m5 m6 th n bg tn sl ht sn o nx kp ow2) := hD
  refine lv_aload_n hx hb dL_law_1385 rfl (lv_at hl 5 rfl) ?_
  refine call_Vp (As := []) (rest := []) S (m_X2_thrown m0 m1 m2 m3 m4 m5 m6 th n bg tn sl ht sn o nx kp ow2) g_L_X2_thrown hd_X2_thrown ⟨Nat.le_of_ble_eq_true rfl, Nat.le_of_ble_eq_true rfl⟩ ⟨(by show _ ≤ 601024; omega), (by show _ ≤ 7293034; omega)⟩ hP hD hK hS hZ [8, 9, 10, 11, 12, 13, 14] rfl (by decide) 0 rfl rfl hl.1 rfl (Nat.le_of_ble_eq_true rfl) dL_law_1386 (fun r3 H locs hq hP hS => ?_)
  obtain rfl := hq
  refine lv_iload hx hb dL_law_1389 (lv_at hl 1 rfl) ?_
  refine lv_icmp_eq (tgt := 1396) hx hb dL_law_1391 (by decide) (fun _ => ?_) (fun hc => absurd rfl hc)
  refine lv_iload hx hb dL_law_1396 (lv_at hl 1 rfl) ?_
  have hend : ∀ ls : Array Slot, lv_has ls 9 [(6, .int r2), (5, .int (nI th)), (4, .int (nI (4 * k))), (0, .ref b), (1, .ref h0), (2, .ref m0), (3, .ref ao)] → W p l e room_1 s m args below meth c H locs (cells + 1) (slots + 6) Q (F0 m 1413 ls []) := fun ls hl => lv_goto (tgt := 1553) hx hb dL_law_1413 (by decide) (nxt f n wn t tc sc uw c1 c2 s' ow hf tf m1 m2 m3 m4 m5 m6 th bg tn sl ht sn o nx kp ow2 H locs ls _ _ R (by omega) (lv_sub hl [2, 3, 4, 5, 6] rfl) hP hD hS (by omega) (by omega))
  refine ifN_ne (tgt := 1413) hx hb dL_law_1398 (by decide) (by omega) (fun _ => hend ls hl) (fun h0 => ?_)
  refine lv_aload_n hx hb dL_law_1401 rfl (lv_at hl 6 rfl) ?_
  refine lv_iconst (v := nI 0) hx hb dL_law_1402 (by decide) ?_
  refine va_lald (n := 1) hx hb hK hP 0 2 rfl rfl (vp_in_nI (by decide) (by decide)) dL_law_1403 ?_
  rw [show (nI 0).toNatClampNeg = 0 from nI_clamp (by omega)]
  refine lv_iload hx hb dL_law_1404 (lv_at hl 0 rfl) ?_
  rw [show f 0 = r2.toInt64 from hans h0]
  refine lv_i2l hx hb dL_law_1406 rfl ?_
  refine W.lcmp hx hb dL_law_1407 ?_
  rw [lgc]
  exact lv_if_eq (tgt := 1413) hx hb dL_law_1408 (by decide) (fun _ => hend ls hl) (fun hc => absurd rfl hc)

set_option maxHeartbeats 4000000 in
set_option maxRecDepth 100000 in
theorem cs_25 (X : LX p l s m args c dC dI cI cZ cJ A b L xs) (hkL : 4 * k + 4 ≤ L) (nxt : NX p l e s m args below meth c dC dI cI cZ cJ A Q b ao h0 h1 h2 h3 h4 h5 h6 m0 1553 (4 * k) (k + 1) (k + 1)) : NX p l e s m args below meth c dC dI cI cZ cJ A Q b ao h0 h1 h2 h3 h4 h5 h6 m0 1416 (4 * k) k k := by
  obtain ⟨S, hlt, hK, hZ, hX, hN, hNw, hA, hbA, hXs, hbl, hL⟩ := X
  obtain ⟨hx, hb, hml, hown, hts⟩ := id S
  intro f n wn t tc sc uw c1 c2 s' ow hf tf m1 m2 m3 m4 m5 m6 th bg tn sl ht sn o nx kp ow2 H locs ls cells slots R htk hl hP hD hS hcc hss
  have e1 : uw = bg := R.2.2.2.2.1
  subst e1
  have e2 : tc = tn := R.2.2.2.2.2.1
  subst e2
  have e3 : sc = sl := R.2.2.2.2.2.2.1
  subst e3
  obtain ⟨hn, hw, hs, hc1, hb1, ht5, hsn, hht⟩ := R.inv
  have C := R.cx
  have P := R.rp
  have htn : tc < 2 ^ 20 := by omega
  have hTn := R.2.2.2.1
  refine lv_aload_n hx hb dL_law_1416 rfl (lv_at hl 2 rfl) ?_
  refine call_Vi (As := []) (rest := []) (wr := (ao, .inl (cJ, 1, .inr (.inl f))) :: (mW cI cZ m0 m1 m2 m3 m4 m5 m6 th n uw tc sc ht sn o nx kp ow2)) S (m_X1_turnsUntilAllCertain h0 h1 h2 h3 h4 h5 h6 n wn t tc sc uw c1 c2 s' ow hf tf ht5 hn hw hs hc1 hb1) g_L_X1_turnsUntilAllCertain hd_X1_turnsUntilAllCertain ⟨Nat.le_of_ble_eq_true rfl, Nat.le_of_ble_eq_true rfl⟩ ⟨(by show _ ≤ 601024; omega), (by show _ ≤ 7293034; omega)⟩ hP hD hK hS hZ [1, 2, 3, 4, 5, 6, 7] [0, 8, 9, 10, 11, 12, 13, 14] rfl rfl (by decide) 0 rfl rfl hl.1 rfl (Nat.le_of_ble_eq_true rfl) dL_law_1417 (fun r1 u1 H locs hq1 hP hD hS => ?_)
  obtain ⟨rfl, k2, og, g, rfl⟩ := hq1
  refine lv_aload_n hx hb dL_law_1420 rfl (lv_at hl 3 rfl) ?_
  refine call_Vi (As := []) (rest := [.int (oI (untilL n wn s' 0 n 40 (Lof hf c1) t))]) (wr := GO cI cJ ao h0 h1 h2 h3 h4 h5 h6 f n wn t tc sc uw c1 k2 s' og hf g) S (m_X2_turnsUntilAllCertain m0 m1 m2 m3 m4 m5 m6 th n uw tc sc ht sn o nx kp ow2 hn hsn hht htn) g_L_X2_turnsUntilAllCertain hd_X2_turnsUntilAllCertain ⟨Nat.le_of_ble_eq_true rfl, Nat.le_of_ble_eq_true rfl⟩ ⟨(by show _ ≤ 601024; omega), (by show _ ≤ 7293034; omega)⟩ hP hD hK hS hZ [1, 2, 3, 4, 5, 6, 7] [0, 8, 9, 10, 11, 12, 13, 14] rfl rfl (by decide) 0 rfl rfl hl.1 rfl (Nat.le_of_ble_eq_true rfl) dL_law_1421 (fun r2 u2 H locs hq2 hP hD hS => ?_)
  obtain ⟨rfl, x, y, nx2, ow3, -, rfl⟩ := hq2
  refine lv_icmp_eq (tgt := 1553) hx hb dL_law_1424 (by decide) (fun _ => ?_) (fun hc => absurd (congrArg oI (C.untila P hTn)) hc)
  exact nxt f n wn t tc sc uw c1 k2 s' og hf g m1 m2 x y m5 m6 0 uw tc sc ht sn o nx2 o ow3 H locs ls _ _ R (by omega) hl hP hD hS (by omega) (by omega)

set_option maxHeartbeats 4000000 in
set_option maxRecDepth 100000 in
theorem cs_26 (X : LX p l s m args c dC dI cI cZ cJ A b L xs) (hkL : 4 * k + 4 ≤ L) (nxt : NX p l e s m args below meth c dC dI cI cZ cJ A Q b ao h0 h1 h2 h3 h4 h5 h6 m0 1553 (4 * k) (k + 1) (k + 1)) : NX p l e s m args below meth c dC dI cI cZ cJ A Q b ao h0 h1 h2 h3 h4 h5 h6 m0 1429 (4 * k) k k := by
  obtain ⟨S, hlt, hK, hZ, hX, hN, hNw, hA, hbA, hXs, hbl, hL⟩ := X
  obtain ⟨hx, hb, hml, hown, hts⟩ := id S
  intro f n wn t tc sc uw c1 c2 s' ow hf tf m1 m2 m3 m4 m5 m6 th bg tn sl ht sn o nx kp ow2 H locs ls cells slots R htk hl hP hD hS hcc hss
  have e1 : uw = bg := R.2.2.2.2.1
  subst e1
  have e2 : tc = tn := R.2.2.2.2.2.1
  subst e2
  have e3 : sc = sl := R.2.2.2.2.2.2.1
  subst e3
  obtain ⟨hn, hw, hs, hc1, hb1, ht5, hsn, hht⟩ := R.inv
  have C := R.cx
  have P := R.rp
  have htn : tc < 2 ^ 20 := by omega
  have hTn := R.2.2.2.1
  refine lv_aload_n hx hb dL_law_1429 rfl (lv_at hl 2 rfl) ?_
  refine call_Vp (As := []) (rest := []) S (m_X1_bestToName h0 h1 h2 h3 h4 h5 h6 n wn t tc sc uw c1 c2 s' ow hf tf hn hw hs hc1 hb1) g_L_X1_bestToName hd_X1_bestToName ⟨Nat.le_of_ble_eq_true rfl, Nat.le_of_ble_eq_true rfl⟩ ⟨(by show _ ≤ 601024; omega), (by show _ ≤ 7293034; omega)⟩ hP hD hK hS hZ [1, 2, 3, 4, 5, 6, 7] rfl (by decide) 0 rfl rfl hl.1 rfl (Nat.le_of_ble_eq_true rfl) dL_law_1430 (fun r1 H locs hq1 hP hS => ?_)
  refine lv_aload_n hx hb dL_law_1433 rfl (lv_at hl 3 rfl) ?_
  refine call_Vi (As := []) (rest := [.int r1]) (wr := GO cI cJ ao h0 h1 h2 h3 h4 h5 h6 f n wn t tc sc uw c1 c2 s' ow hf tf) S (m_X2_bestToName m0 m1 m2 m3 m4 m5 m6 th n uw tc sc ht sn o nx kp ow2 hn hsn hht) g_L_X2_bestToName hd_X2_bestToName ⟨Nat.le_of_ble_eq_true rfl, Nat.le_of_ble_eq_true rfl⟩ ⟨(by show _ ≤ 601024; omega), (by show _ ≤ 7293034; omega)⟩ hP hD hK hS hZ [8, 9, 10, 11, 12, 13, 14] [0, 1, 2, 3, 4, 5, 6, 7] rfl rfl (by decide) 0 rfl rfl hl.1 rfl (Nat.le_of_ble_eq_true rfl) dL_law_1434 (fun r2 u2 H locs hq2 hP hD hS => ?_)
  obtain ⟨rfl, rfl⟩ := hq2
  obtain rfl := hq1
  refine lv_icmp_eq (tgt := 1553) hx hb dL_law_1437 (by decide) (fun _ => ?_) (fun hc => absurd (congrArg (fun x => oI x.1) (C.best P 3)) hc)
  exact nxt f n wn t tc sc uw c1 c2 s' ow hf tf m1 m2 m3 m4 m5 m6 0 uw tc sc ht sn o nx kp ow2 H locs ls _ _ R (by omega) hl hP hD hS (by omega) (by omega)

set_option maxHeartbeats 4000000 in
set_option maxRecDepth 100000 in
theorem cs_27 (X : LX p l s m args c dC dI cI cZ cJ A b L xs) (hkL : 4 * k + 4 ≤ L) (nxt : NX p l e s m args below meth c dC dI cI cZ cJ A Q b ao h0 h1 h2 h3 h4 h5 h6 m0 1553 (4 * k) (k + 1) (k + 1)) : NX p l e s m args below meth c dC dI cI cZ cJ A Q b ao h0 h1 h2 h3 h4 h5 h6 m0 1442 (4 * k) k k := by
  obtain ⟨S, hlt, hK, hZ, hX, hN, hNw, hA, hbA, hXs, hbl, hL⟩ := X
  obtain ⟨hx, hb, hml, hown, hts⟩ := id S
  intro f n wn t tc sc uw c1 c2 s' ow hf tf m1 m2 m3 m4 m5 m6 th bg tn sl ht sn o nx kp ow2 H locs ls cells slots R htk hl hP hD hS hcc hss
  refine lv_aload_n hx hb dL_law_1442 rfl (lv_at hl 2 rfl) ?_
  refine lv_aload_n hx hb dL_law_1443 rfl (lv_at hl 1 rfl) ?_
  refine lv_iload hx hb dL_law_1444 (lv_at hl 0 rfl) ?_
  refine lv_iconst (v := nI 1) hx hb dL_law_1446 (by decide) ?_
  refine lv_iadd hx hb dL_law_1447 ?_
  refine W_i (y := nI (4 * k + 1)) (nI_add _ _) ?_
  refine va_sld hx hb hXs hbl hbA hS (vp_in_nI (show 4 * k + 1 < L by omega) (by omega)) dL_law_1448 ?_
  refine lv_aload_n hx hb dL_law_1449 rfl (lv_at hl 4 rfl) ?_
  obtain ⟨P1, P2, fr, lo, hfr, hlo, hH, hM, hJ⟩ := op_certainIfTold (cJ := cJ) hlt ao h0 h1 h2 h3 h4 h5 h6 n wn t tc sc uw c1 c2 s' ow hf tf f m0 m1 m2 m3 m4 m5 m6 th bg tn sl ht sn o nx kp ow2 R (by omega) (xs (nI (4 * k + 1)).toNatClampNeg)
  refine call_Hi (As := [.ref h0, .int (xs (nI (4 * k + 1)).toNatClampNeg), .ref ao]) (rest := []) (wr := mW cI cZ m0 m1 m2 m3 m4 m5 m6 th n bg tn sl ht sn o nx kp ow2) S hH g_L_L_certainIfTold hd_L_certainIfTold ⟨Nat.le_of_ble_eq_true rfl, Nat.le_of_ble_eq_true rfl⟩ ⟨(by show _ ≤ 601024; omega), (by show _ ≤ 7293034; omega)⟩ hP hD hK hS hZ hX hN [0, 1, 2, 3, 4, 5, 6, 7] [8, 9, 10, 11, 12, 13, 14] rfl rfl (by decide) hl.1 rfl (Nat.le_of_ble_eq_true rfl) dL_law_1450 (fun r1 u1 H locs q1 hP hD hS => ?_)
  refine lv_istore (lv' := [(5, .int r1), (4, .int (nI (4 * k))), (0, .ref b), (1, .ref h0), (2, .ref m0), (3, .ref ao)]) hx hb dL_law_1453 hl (by decide) rfl (fun ls hl => ?_)
  refine lv_aload_n hx hb dL_law_1455 rfl (lv_at hl 4 rfl) ?_
  refine lv_aload_n hx hb dL_law_1456 rfl (lv_at hl 2 rfl) ?_
  refine lv_iload hx hb dL_law_1457 (lv_at hl 1 rfl) ?_
  refine lv_iconst (v := nI 1) hx hb dL_law_1459 (by decide) ?_
  refine lv_iadd hx hb dL_law_1460 ?_
  refine W_i (y := nI (4 * k + 1)) (nI_add _ _) ?_
  refine va_sld hx hb hXs hbl hbA hS (vp_in_nI (show 4 * k + 1 < L by omega) (by omega)) dL_law_1461 ?_
  refine call_Vi (As := [.int (xs (nI (4 * k + 1)).toNatClampNeg)]) (wr := u1) (rest := []) S hM g_L_X2_certainIfTold hd_X2_certainIfTold ⟨(by show fr + 1 ≤ 12; omega), (by show 8 + (2 + 11) + lo ≤ 440; omega)⟩ ⟨(by show _ ≤ 601024; omega), (by show _ ≤ 7293034; omega)⟩ hP hD hK hS hZ [0, 1, 2, 3, 4, 5, 6] ((List.range u1.length).map (· + 7)) rfl (ix_B (mW cI cZ m0 m1 m2 m3 m4 m5 m6 th n bg tn sl ht sn o nx kp ow2) u1 7 rfl) (nd_B _) 0 rfl rfl hl.1 rfl (Nat.le_of_ble_eq_true rfl) dL_law_1462 (fun r2 u2 H locs q2 hP hD hS => ?_)
  refine lv_istore (lv' := [(6, .int r2), (5, .int r1), (4, .int (nI (4 * k))), (0, .ref b), (1, .ref h0), (2, .ref m0), (3, .ref ao)]) hx hb dL_law_1465 hl (by decide) rfl (fun ls hl => ?_)
  obtain ⟨f, n, wn, t, tc, sc, uw, c1, c2, s', ow, hf, tf, m1, m2, m3, m4, m5, m6, th, bg, tn, sl, ht, sn, o, nx, kp, ow2, rfl, rfl, R, htk2, hth, rfl, hans⟩ := hJ _ _ _ _ q1 q2
  have hP : va_P (dC, dI) vwCl (GO cI cJ ao h0 h1 h2 h3 h4 h5 h6 f n wn t tc sc uw c1 c2 s' ow hf tf ++ mW cI cZ m0 m1 m2 m3 m4 m5 m6 th n bg tn sl ht sn o nx kp ow2) H := hP
  have hD : va_D A (GO cI cJ ao h0 h1 h2 h3 h4 h5 h6 f n wn t tc sc uw c1 c2 s' ow hf tf ++ mW cI cZ m0 m1 m2 m3 m4 m5 m6 th n bg tn sl ht sn o nx kp ow2) := hD
  refine lv_aload_n hx hb dL_law_1467 rfl (lv_at hl 5 rfl) ?_
  refine call_Vp (As := []) (rest := []) S (m_X2_thrown m0 m1 m2 m3 m4 m5 m6 th n bg tn sl ht sn o nx kp ow2) g_L_X2_thrown hd_X2_thrown ⟨Nat.le_of_ble_eq_true rfl, Nat.le_of_ble_eq_true rfl⟩ ⟨(by show _ ≤ 601024; omega), (by show _ ≤ 7293034; omega)⟩ hP hD hK hS hZ [8, 9, 10, 11, 12, 13, 14] rfl (by decide) 0 rfl rfl hl.1 rfl (Nat.le_of_ble_eq_true rfl) dL_law_1468 (fun r3 H locs hq hP hS => ?_)
  obtain rfl := hq
  refine lv_iload hx hb dL_law_1471 (lv_at hl 1 rfl) ?_
  refine lv_icmp_eq (tgt := 1478) hx hb dL_law_1473 (by decide) (fun _ => ?_) (fun hc => absurd rfl hc)
  refine lv_iload hx hb dL_law_1478 (lv_at hl 1 rfl) ?_
  have hend : ∀ ls : Array Slot, lv_has ls 9 [(6, .int r2), (5, .int (nI th)), (4, .int (nI (4 * k))), (0, .ref b), (1, .ref h0), (2, .ref m0), (3, .ref ao)] → W p l e room_1 s m args below meth c H locs (cells + 1) (slots + 6) Q (F0 m 1495 ls []) := fun ls hl => lv_goto (tgt := 1553) hx hb dL_law_1495 (by decide) (nxt f n wn t tc sc uw c1 c2 s' ow hf tf m1 m2 m3 m4 m5 m6 th bg tn sl ht sn o nx kp ow2 H locs ls _ _ R (by omega) (lv_sub hl [2, 3, 4, 5, 6] rfl) hP hD hS (by omega) (by omega))
  refine ifN_ne (tgt := 1495) hx hb dL_law_1480 (by decide) (by omega) (fun _ => hend ls hl) (fun h0 => ?_)
  refine lv_aload_n hx hb dL_law_1483 rfl (lv_at hl 6 rfl) ?_
  refine lv_iconst (v := nI 0) hx hb dL_law_1484 (by decide) ?_
  refine va_lald (n := 1) hx hb hK hP 0 2 rfl rfl (vp_in_nI (by decide) (by decide)) dL_law_1485 ?_
  rw [show (nI 0).toNatClampNeg = 0 from nI_clamp (by omega)]
  refine lv_iload hx hb dL_law_1486 (lv_at hl 0 rfl) ?_
  rw [show f 0 = r2.toInt64 from hans h0]
  refine lv_i2l hx hb dL_law_1488 rfl ?_
  refine W.lcmp hx hb dL_law_1489 ?_
  rw [lgc]
  exact lv_if_eq (tgt := 1495) hx hb dL_law_1490 (by decide) (fun _ => hend ls hl) (fun hc => absurd rfl hc)

set_option maxHeartbeats 4000000 in
set_option maxRecDepth 100000 in
theorem cs_28 (X : LX p l s m args c dC dI cI cZ cJ A b L xs) (hkL : 4 * k + 4 ≤ L) (nxt : NX p l e s m args below meth c dC dI cI cZ cJ A Q b ao h0 h1 h2 h3 h4 h5 h6 m0 1553 (4 * k) (k + 1) (k + 1)) : NX p l e s m args below meth c dC dI cI cZ cJ A Q b ao h0 h1 h2 h3 h4 h5 h6 m0 1498 (4 * k) k k := by
  obtain ⟨S, hlt, hK, hZ, hX, hN, hNw, hA, hbA, hXs, hbl, hL⟩ := X
  obtain ⟨hx, hb, hml, hown, hts⟩ := id S
  intro f n wn t tc sc uw c1 c2 s' ow hf tf m1 m2 m3 m4 m5 m6 th bg tn sl ht sn o nx kp ow2 H locs ls cells slots R htk hl hP hD hS hcc hss
  have e1 : uw = bg := R.2.2.2.2.1
  subst e1
  have e2 : tc = tn := R.2.2.2.2.2.1
  subst e2
  have e3 : sc = sl := R.2.2.2.2.2.2.1
  subst e3
  obtain ⟨hn, hw, hs, hc1, hb1, ht5, hsn, hht⟩ := R.inv
  have C := R.cx
  have P := R.rp
  have htn : tc < 2 ^ 20 := by omega
  have hTn := R.2.2.2.1
  refine lv_aload_n hx hb dL_law_1498 rfl (lv_at hl 2 rfl) ?_
  refine call_Vd (As := []) (rest := []) (wr := (ao, .inl (cJ, 1, .inr (.inl f))) :: (mW cI cZ m0 m1 m2 m3 m4 m5 m6 th n uw tc sc ht sn o nx kp ow2)) S (m_X1_meanPossible h0 h1 h2 h3 h4 h5 h6 n wn t tc sc uw c1 c2 s' ow hf tf hn hw hs hc1 hb1) g_L_X1_meanPossible hd_X1_meanPossible ⟨Nat.le_of_ble_eq_true rfl, Nat.le_of_ble_eq_true rfl⟩ ⟨(by show _ ≤ 601024; omega), (by show _ ≤ 7293034; omega)⟩ hP hD hK hS hZ [1, 2, 3, 4, 5, 6, 7] [0, 8, 9, 10, 11, 12, 13, 14] rfl rfl (by decide) 0 rfl rfl hl.1 rfl (Nat.le_of_ble_eq_true rfl) dL_law_1499 (fun r1 u1 H locs hq1 hP hD hS => ?_)
  obtain ⟨rfl, rfl⟩ := hq1
  refine lv_dstore (lv' := [(5, .double (meanN n (sumP wn s' (Lof hf c1) n))), (4, .int (nI (4 * k))), (0, .ref b), (1, .ref h0), (2, .ref m0), (3, .ref ao)]) hx hb dL_law_1502 hl (by decide) rfl (fun ls hl => ?_)
  refine lv_aload_n hx hb dL_law_1504 rfl (lv_at hl 4 rfl) ?_
  refine call_Vd (As := []) (rest := []) (wr := GO cI cJ ao h0 h1 h2 h3 h4 h5 h6 f n wn t tc sc uw c1 c2 s' ow hf tf) S (m_X2_meanPossible m0 m1 m2 m3 m4 m5 m6 th n uw tc sc ht sn o nx kp ow2 hn hsn hht) g_L_X2_meanPossible hd_X2_meanPossible ⟨Nat.le_of_ble_eq_true rfl, Nat.le_of_ble_eq_true rfl⟩ ⟨(by show _ ≤ 601024; omega), (by show _ ≤ 7293034; omega)⟩ hP hD hK hS hZ [1, 2, 3, 4, 5, 6, 7] [0, 8, 9, 10, 11, 12, 13, 14] rfl rfl (by decide) 0 rfl rfl hl.1 rfl (Nat.le_of_ble_eq_true rfl) dL_law_1505 (fun r2 u2 H locs hq2 hP hD hS => ?_)
  obtain ⟨rfl, rfl⟩ := hq2
  rw [← C.sum P n (Nat.le_refl _)]
  generalize meanN n (sumP wn s' (Lof hf c1) n) = mv at hl ⊢
  refine lv_dstore (lv' := [(7, .double mv), (5, .double mv), (4, .int (nI (4 * k))), (0, .ref b), (1, .ref h0), (2, .ref m0), (3, .ref ao)]) hx hb dL_law_1508 hl (by decide) rfl (fun ls hl => ?_)
  refine lv_dload hx hb dL_law_1510 (lv_at hl 1 rfl) ?_
  refine lv_dload hx hb dL_law_1512 (lv_at hl 0 rfl) ?_
  refine lv_dcmp hx hb dL_law_1514 ?_
  have hend : W p l e room_1 s m args below meth c H locs cells slots Q (F0 m 1536 ls []) := lv_goto (tgt := 1553) hx hb dL_law_1536 (by decide) (nxt f n wn t tc sc uw c1 c2 s' ow hf tf m1 m2 m3 m4 m5 m6 0 uw tc sc ht sn o nx kp ow2 H locs ls _ _ R (by omega) (lv_sub hl [2, 3, 4, 5, 6] rfl) hP hD hS (by omega) (by omega))
  refine lv_if_eq (tgt := 1536) hx hb dL_law_1515 (by decide) (fun _ => hend) (fun hc => ?_)
  refine lv_dload hx hb dL_law_1518 (lv_at hl 1 rfl) ?_
  refine lv_dload hx hb dL_law_1520 (lv_at hl 1 rfl) ?_
  refine lv_dcmp hx hb dL_law_1522 ?_
  refine lv_if_eq (tgt := 1534) hx hb dL_law_1523 (by decide) (fun hc2 => absurd hc2 hc) (fun _ => ?_)
  refine lv_dload hx hb dL_law_1526 (lv_at hl 0 rfl) ?_
  refine lv_dload hx hb dL_law_1528 (lv_at hl 0 rfl) ?_
  refine lv_dcmp hx hb dL_law_1530 ?_
  exact lv_if_ne (tgt := 1536) hx hb dL_law_1531 (by decide) (fun _ => hend) (fun hc2 => absurd hc2 hc)

set_option maxHeartbeats 4000000 in
set_option maxRecDepth 100000 in
theorem cs_29 (X : LX p l s m args c dC dI cI cZ cJ A b L xs) (hkL : 4 * k + 4 ≤ L) (nxt : NX p l e s m args below meth c dC dI cI cZ cJ A Q b ao h0 h1 h2 h3 h4 h5 h6 m0 1553 (4 * k) (k + 1) (k + 1)) : NX p l e s m args below meth c dC dI cI cZ cJ A Q b ao h0 h1 h2 h3 h4 h5 h6 m0 1539 (4 * k) k k := by
  obtain ⟨S, hlt, hK, hZ, hX, hN, hNw, hA, hbA, hXs, hbl, hL⟩ := X
  obtain ⟨hx, hb, hml, hown, hts⟩ := id S
  intro f n wn t tc sc uw c1 c2 s' ow hf tf m1 m2 m3 m4 m5 m6 th bg tn sl ht sn o nx kp ow2 H locs ls cells slots R htk hl hP hD hS hcc hss
  have e1 : uw = bg := R.2.2.2.2.1
  subst e1
  have e2 : tc = tn := R.2.2.2.2.2.1
  subst e2
  have e3 : sc = sl := R.2.2.2.2.2.2.1
  subst e3
  obtain ⟨hn, hw, hs, hc1, hb1, ht5, hsn, hht⟩ := R.inv
  have C := R.cx
  have P := R.rp
  have htn : tc < 2 ^ 20 := by omega
  have hTn := R.2.2.2.1
  refine lv_aload_n hx hb dL_law_1539 rfl (lv_at hl 2 rfl) ?_
  refine call_Vl (As := []) (rest := []) (wr := (ao, .inl (cJ, 1, .inr (.inl f))) :: (mW cI cZ m0 m1 m2 m3 m4 m5 m6 th n uw tc sc ht sn o nx kp ow2)) S (m_X1_digest h0 h1 h2 h3 h4 h5 h6 n wn t tc sc uw c1 c2 s' ow hf tf ht5 hn hw hs hc1 hb1) g_L_X1_digest hd_X1_digest ⟨Nat.le_of_ble_eq_true rfl, Nat.le_of_ble_eq_true rfl⟩ ⟨(by show _ ≤ 601024; omega), (by show _ ≤ 7293034; omega)⟩ hP hD hK hS hZ [1, 2, 3, 4, 5, 6, 7] [0, 8, 9, 10, 11, 12, 13, 14] rfl rfl (by decide) 0 rfl rfl hl.1 rfl (Nat.le_of_ble_eq_true rfl) dL_law_1540 (fun r1 u1 H locs hq1 hP hD hS => ?_)
  obtain ⟨rfl, k2, og, g, rfl⟩ := hq1
  refine lv_aload_n hx hb dL_law_1543 rfl (lv_at hl 3 rfl) ?_
  obtain ⟨hM⟩ : Nonempty (PLift (Gl l yX2_digest ws_X2_digest 6 138 6 33 H.size (dC, dI) (tyL cI cZ cJ) [.ref m0] (mW cI cZ m0 m1 m2 m3 m4 m5 m6 th n uw tc sc ht sn o nx kp ow2) (fun r u => r = digM sn ht o n tc sc ∧ ∃ (a b : Nat) (nx2 kp2 : Nat → Bool) (ow2 : Nat → Nat), ((a = m3 ∧ b = m4) ∨ (a = m4 ∧ b = m3)) ∧ u = mW cI cZ m0 m1 m2 a b m5 m6 0 n uw tc sc ht sn o nx2 kp2 ow2))) := by
    by_cases h0n : 0 < n
    · exact ⟨⟨(m_X2_digest_p m0 m1 m2 m3 m4 m5 m6 th n uw tc sc ht sn o nx kp ow2 hn hsn hht htn h0n H.size)⟩⟩
    · exact ⟨⟨(m_X2_digest_0 m0 m1 m2 m3 m4 m5 m6 th n uw tc sc ht sn o nx kp ow2 hn hsn hht htn (by omega) H.size)⟩⟩
  refine call_GL (As := []) (rest := [.long (digN n wn t tc sc s' (Lof hf c1))]) (wr := GO cI cJ ao h0 h1 h2 h3 h4 h5 h6 f n wn t tc sc uw c1 k2 s' og hf g) S hM.down g_L_X2_digest hd_X2_digest ⟨Nat.le_of_ble_eq_true rfl, Nat.le_of_ble_eq_true rfl⟩ ⟨(by show _ ≤ 601024; omega), (by show _ ≤ 7293034; omega)⟩ hP hD hK hS hA hZ hNw [1, 2, 3, 4, 5, 6, 7] [0, 8, 9, 10, 11, 12, 13, 14] rfl rfl (by decide) (by decide) (by decide) 0 rfl rfl hl.1 rfl (Nat.le_of_ble_eq_true rfl) dL_law_1544 (fun r2 u2 H locs hq2 hP hD hS => ?_)
  obtain ⟨rfl, x, y, nx2, kp2, ow3, -, rfl⟩ := hq2
  rw [C.dig P hTn]
  refine W.lcmp hx hb dL_law_1547 ?_
  rw [lgc]
  refine lv_if_eq (tgt := 1553) hx hb dL_law_1548 (by decide) (fun _ => ?_) (fun hc => absurd rfl hc)
  exact nxt f n wn t tc sc uw c1 k2 s' og hf g m1 m2 x y m5 m6 0 uw tc sc ht sn o nx2 kp2 ow3 H locs ls _ _ R (by omega) (lv_sub hl [0, 1, 2, 3, 4] rfl) hP hD hS (by omega) (by omega)

end
