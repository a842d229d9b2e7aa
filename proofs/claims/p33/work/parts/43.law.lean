/-! the law's body -/
theorem hat_up {n p wn : Nat} {f : Nat → Nat} (h : ∀ c, c < 3 → f c = hatsN p wn c) (hq : qd wn p < 3) : ∀ c, c < 3 → upN f (qd wn p) (f (qd wn p) + 1) c = hatsN (p + 1) wn c := by
  intro c hc
  by_cases he : c = qd wn p
  · rw [he, upN_s, h _ hq, hatsN, if_pos rfl]
  · rw [upN_n _ _ he, h c hc, hatsN, if_neg (fun e => he e.symm)]; rfl
theorem was_up {p : Nat} {wa g : Nat → Bool} (h : ∀ q, q < p → wa q = g q) : ∀ q, q < p + 1 → upN wa p (g p) q = g q := by
  intro q hq
  by_cases he : q = p
  · rw [he, upN_s]
  · rw [upN_n _ _ he]; exact h q (by omega)
theorem told_ge {c : Bool} {a : Nat} (h : (0 : Int32) ≤ (if c = true then nI a else -1)) : c = true := by
  cases c with
  | true => rfl
  | false =>
    have h : (0 : Int32) ≤ -1 := h
    exact absurd h (by decide)
theorem told_lt {c : Bool} {a : Nat} (ha : a < 2 ^ 31) (h : ¬ (0 : Int32) ≤ (if c = true then nI a else -1)) : c = false := by
  cases c with
  | false => rfl
  | true => exact absurd (nI_pos' ha) h
theorem told_nl {c : Bool} {a : Nat} (h : ¬ (if c = true then nI a else -1) < (0 : Int32)) : c = true := by
  cases c with
  | true => rfl
  | false => exact absurd (show (-1 : Int32) < 0 by decide) h
section
variable {p : Program} {l : Launch} {e : Env} {R : Room} {s : State} {m : MethodId} {args : Array Value} {below : List Frame} {meth : Method} {c : Code} {H : Heap} {locs : List Loc} {cells slots : Nat} {Q : State → Prop}
variable {pc : Nat} {ls : Array Slot} {rest st0 : List Value} {cc : ByteArray} {D : va_G} {A0 : Nat → Prop} {wr wc : va_W} {nL : Nat}
/-- (u == v) as a truth value -/
theorem tern_eqN (hexec : p.tables.exec = Jvm.exec) (hb : c.code = cc) {u v : Nat} {off off2 : Int} (d0 : decode cc pc = .ok (.if_icmp .ne off, 3)) (d1 : decode cc (pc + 3) = .ok (.iconst 1, 1)) (d2 : decode cc (pc + 4) = .ok (.goto off2, 3)) (d3 : decode cc (pc + 7) = .ok (.iconst 0, 1)) (h1 : (pc : Int) + off = ((pc + 7 : Nat) : Int)) (h2 : ((pc + 4 : Nat) : Int) + off2 = ((pc + 8 : Nat) : Int)) (hu : u < 2 ^ 31) (hv : v < 2 ^ 31)
    (k : W p l e R s m args below meth c H locs cells slots Q (F0 m (pc + 8) ls (.int (bI (u == v)) :: rest))) : W p l e R s m args below meth c H locs cells slots Q (F0 m pc ls (.int (nI v) :: .int (nI u) :: rest)) := by
  refine icN_ne (tgt := pc + 7) hexec hb d0 h1 hu hv (fun hc => ?_) (fun hc => ?_)
  · have e : (u == v) = false := by simpa using hc
    rw [e] at k
    exact lv_iconst (v := bI false) hexec hb d3 (by decide) k
  · subst hc
    have e : (u == u) = true := by simp
    rw [e] at k
    exact lv_iconst (v := bI true) hexec hb d1 (by decide) (lv_goto (tgt := pc + 8) hexec hb d2 h2 k)
theorem call_build {fr lo mc ms b L : Nat} {xs : Nat → Int32} {ty : List (ClassId × FieldType)} {As : List Value} {post : Nat × va_W → Prop} (S : CallFix p m c cc nL s args bw RL) (hM : Gr l yL_build ws_L_build fr lo mc ms b L xs H.size D ty As wc post) (hAs : As.length = 2) (hX0 : va_X b L xs s s.heap) (hbl : b < s.heap.size) (hbA : ¬ A0 b) (hR : fr + 1 ≤ R.frames ∧ 8 + (6 + 11) + lo ≤ R.locals) (hroom : cells + mc ≤ R.cells ∧ slots + ms ≤ R.slots)
    (hP : va_P D vwCl (wr ++ wc) H) (hD : va_D A0 (wr ++ wc)) (hK : va_K D vwCl ty s) (hS : va_S A0 s.heap H locs) (hA : ∀ q, s.heap.size ≤ q → A0 q) (hZ : zOK s)
    (hls : ls.size = nL) (hst : st0 = As.reverse ++ rest) (hrest : (rest.map fun v => v.category).sum ≤ 8) (hdg : decode cc pc = .ok (.invokestatic 104, 3))
    (kk : ∀ (a : Nat) (w1 : va_W) (H1 : Heap) (locs1 : List Loc), post (a, w1) → va_P D vwCl (wr ++ w1) H1 → va_D A0 (wr ++ w1) → va_S A0 s.heap H1 locs1 → W p l e R s m args below meth c H1 locs1 (cells + mc) (slots + ms) Q (F0 m (pc + 3) ls (.ref a :: rest))) :
    W p l e R s m args below meth c H locs cells slots Q (F0 m pc ls st0) := by
  have hsub : wc.Sublist (wr ++ wc) := List.sublist_append_right wr wc
  have hbw : ¬ wIn wc b := fun h => hbA (wIn_sub hD hsub b h)
  have hd : yL_build.cls ≠ "java/lang/invoke/MethodHandle" ∧ yL_build.cls ≠ "java/lang/invoke/VarHandle" ∧ (parseMethodDescriptor yL_build.desc).map (fun d => d.parameters.length) = some As.length := by rw [hAs]; exact hd_L_build
  refine va_callr (va_runS (As := As) (rest := rest) S hM (va_cwS As.length S.2.2.2.2 g_L_L_build rfl rfl rfl hd hR) ⟨cPs_blind, fun U hU hW => ⟨rfl, by rw [hU], by rw [hU]; exact hP.sl hsub, va_K.moved hW.alike hK, (hD.sl hsub).weaken (fun _ _ _ _ => trivial), zOK.warm hW hZ, by rw [hU]; exact (hX0.kept (hS.2.1 b hbl hbA)).moved hW.alike, by rw [hU]; exact Nat.lt_of_lt_of_le hbl hS.1, hbw⟩⟩ rfl rfl hls hst (lv_room hrest) hdg hroom) hS (fun q _ h => g_free hD hS hA q h) (g_free hD hS hA) (fun u a t H1 locs1 ht hvm hw hB hz1 hk1 hS1 => ?_)
  obtain ⟨ha, hP1, hD1⟩ := hB
  obtain ⟨a2, w1⟩ := u
  have ha : a = a2 := ha
  subst ha
  rw [ht] at hP1
  obtain ⟨hP2, hD2⟩ := g_fin hP hD hS hA hk1 hP1 hD1
  exact kk a w1 H1 locs1 hw hP2 hD2 hS1
end
section
variable {l : Launch} {dC : Nat → ClassId} {dI : Nat → Nat → Nat} {cI cZ cS cW : ClassId}

set_option maxHeartbeats 40000000 in
set_option maxRecDepth 100000 in
theorem law_run {pr : Program} {ev : Env} {sx : State} {mi : MethodId} {ag : Array Value} {bl : List Frame} {me : Method} {cd : Code} {Q : State → Prop} {A : Nat → Prop} {b L : Nat} {xs : Nat → Int32} (S : CallFix pr mi cd cL_law 18 sx ag bw RL) (hK : va_K (dC, dI) vwCl (tyL cI cZ cS cW) sx) (hA : ∀ q, sx.heap.size ≤ q → A q) (hZ : zOK sx) (hX0 : va_X b L xs sx sx.heap) (hbl : b < sx.heap.size) (hbA : ¬ A b) (hL : L < 2 ^ 31) {ls : Array Slot} (hl : lv_has ls 18 [(0, .ref b)])
    (ret : ∀ (H : Heap) (locs : List Loc) (ls' : Array Slot) (pc : Nat), decode cL_law pc = .ok (.ireturn, 1) → va_S A sx.heap H locs → W pr l ev room_1 sx mi ag bl me cd H locs 600130 7301080 Q (F0 mi pc ls' [.int (nI 1)])) :
    W pr l ev room_1 sx mi ag bl me cd sx.heap [] 0 0 Q (F0 mi 0 ls []) := by
  obtain ⟨hx, hb, hml, hown, hts⟩ := id S
  have hS : va_S A sx.heap sx.heap [] := va_S.rf
  have hP : va_P (dC, dI) vwCl [] sx.heap := fun k q hk => by cases hk
  have hD : va_D A [] := ⟨(fun i j x y hi => by cases hi), (fun k q hk => by cases hk)⟩
  refine va_new (ci := 1) (fs := [.null, .null, .null, .null, .int 0, .int 0, .int 0, .int 0, .int 0, .int 0]) (C := RX1) (T := TX1) (N := 10) hx hb hts inX1 tyX1 tyX1_ok hown (hts _ q_cl_L_30) (hts _ q_is_X1) (hts _ q_in_X1) hK hP hD hS hA rfl (fun j hj => by rcases (show j = 0 ∨ j = 1 ∨ j = 2 ∨ j = 3 ∨ j = 4 ∨ j = 5 ∨ j = 6 ∨ j = 7 ∨ j = 8 ∨ j = 9 by omega) with rfl | rfl | rfl | rfl | rfl | rfl | rfl | rfl | rfl | rfl <;> rfl) (by show _ ≤ 600130; omega) (by show _ ≤ 7301080; omega) dL_law_0 (fun q0 H hP hD hS => ?_)
  refine lv_dup hx hb dL_law_3 rfl ?_
  refine call_GI (As := []) (rest := [.ref q0]) (wr := []) (wc := [(q0, .inr (1, [.null, .null, .null, .null, .int 0, .int 0, .int 0, .int 0, .int 0, .int 0]))]) S (m_X1_init q0 H.size) (bw_c q_c_X1_init) q_ml_L_103 q_in_X1 q_im_X1_init rfl ⟨by decide +kernel, by decide +kernel, by decide +kernel⟩ ⟨Nat.le_of_ble_eq_true rfl, Nat.le_of_ble_eq_true rfl⟩ ⟨by show _ ≤ 600130; omega, by show _ ≤ 7301080; omega⟩ hP hD hK hS hA hZ hl.1 rfl (Nat.le_of_ble_eq_true rfl) dL_law_4 (fun u H locs hq hP hD hS => ?_)
  obtain ⟨h1, h2, h3, h4, h5, h6, rfl⟩ := hq
  have hP : va_P (dC, dI) vwCl (gW cI q0 h1 h2 h3 h4 h5 h6 h1 h2 0 0 0 0 0 false 1 0 (fun _ => 0) (fun _ => 0) (upN (fun _ => 0) 0 0) (fun _ => 0)) H := hP
  have hD : va_D A (gW cI q0 h1 h2 h3 h4 h5 h6 h1 h2 0 0 0 0 0 false 1 0 (fun _ => 0) (fun _ => 0) (upN (fun _ => 0) 0 0) (fun _ => 0)) := hD
  refine lv_astore_n (lv' := [(1, .ref q0), (0, .ref b)]) hx hb dL_law_7 rfl hl (by decide) rfl (fun ls hl => ?_)
  refine lv_aload_n hx hb dL_law_8 rfl (lv_at hl 0 rfl) ?_
  refine lv_aload_n hx hb dL_law_9 rfl (lv_at hl 1 rfl) ?_
  refine call_build (As := [.ref q0, .ref b]) (rest := []) (wr := []) (wc := gW cI q0 h1 h2 h3 h4 h5 h6 h1 h2 0 0 0 0 0 false 1 0 (fun _ => 0) (fun _ => 0) (upN (fun _ => 0) 0 0) (fun _ => 0)) S (m_L_build q0 h1 h2 h3 h4 h5 h6 b L xs hL H.size) rfl hX0 hbl hbA ⟨Nat.le_of_ble_eq_true rfl, Nat.le_of_ble_eq_true rfl⟩ ⟨by show _ ≤ 600130; omega, by show _ ≤ 7301080; omega⟩ hP hD hK hS hA hZ hl.1 rfl (Nat.le_of_ble_eq_true rfl) dL_law_10 (fun a0 u H locs hq hP hD hS => ?_)
  have hq : GS cI cZ cS cW q0 h1 h2 h3 h4 h5 h6 a0 13 u := hq
  obtain ⟨n, wn, t, tc, sc, uw, c1, c2, s, ow, hf, tf, b1, b2, b3, b4, m, tn, sl, bg, ht, rs, sn, rw, wy, o, rfl, R, h0n, hT⟩ := hq
  have hP : va_P (dC, dI) vwCl (gW cI q0 h1 h2 h3 h4 h5 h6 h1 h2 n wn t tc sc uw c1 c2 s ow hf tf ++ (sW cI cZ cS cW a0 b1 b2 b3 b4 n m tn sl bg ht rs sn rw wy o)) H := hP
  have hD : va_D A (gW cI q0 h1 h2 h3 h4 h5 h6 h1 h2 n wn t tc sc uw c1 c2 s ow hf tf ++ (sW cI cZ cS cW a0 b1 b2 b3 b4 n m tn sl bg ht rs sn rw wy o)) := hD
  refine lv_astore_n (lv' := [(2, .ref a0), (1, .ref q0), (0, .ref b)]) hx hb dL_law_13 rfl hl (by decide) rfl (fun ls hl => ?_)
  refine lv_aload_n hx hb dL_law_14 rfl (lv_at hl 0 rfl) ?_
  refine lv_ifnonnull (tgt := 20) hx hb dL_law_15 (by decide) ?_
  refine lv_iconst (v := nI 0) hx hb dL_law_20 (by decide) ?_
  refine lv_istore_n (lv' := [(3, .int (nI 0)), (2, .ref a0), (1, .ref q0), (0, .ref b)]) hx hb dL_law_21 rfl hl (by decide) rfl (fun ls hl => ?_)
  have lp22 : ∀ (kf : Nat) (tm : Nat) (n : Nat) (wn : Nat) (t : Nat) (tc : Nat) (sc : Nat) (uw : Bool) (c1 : Nat) (c2 : Nat) (s : Nat → Nat) (ow : Nat → Nat) (hf : Nat → Nat) (tf : Nat → Nat) (b1 : Nat) (b2 : Nat) (b3 : Nat) (b4 : Nat) (m : Nat) (tn : Nat) (sl : Nat) (bg : Bool) (ht : Nat → Nat) (rs : Nat → Nat) (sn : Nat → Nat → Bool) (rw : Nat → Nat) (wy : Nat → Nat → Nat) (o : Nat → Bool), 16 < tm + kf → (tm ≤ 16) → (Rl n m wn t tc sc uw c1 s hf tn sl bg ht sn wy o) → (0 < n) → (tn ≤ 13 + 2 * tm) → ∀ (H : Heap) (locs : List Loc), va_P (dC, dI) vwCl (gW cI q0 h1 h2 h3 h4 h5 h6 h1 h2 n wn t tc sc uw c1 c2 s ow hf tf ++ (sW cI cZ cS cW a0 b1 b2 b3 b4 n m tn sl bg ht rs sn rw wy o)) H → va_D A (gW cI q0 h1 h2 h3 h4 h5 h6 h1 h2 n wn t tc sc uw c1 c2 s ow hf tf ++ (sW cI cZ cS cW a0 b1 b2 b3 b4 n m tn sl bg ht rs sn rw wy o)) → va_S A sx.heap H locs → ∀ ls : Array Slot, lv_has ls 18 [(3, .int (nI tm)), (2, .ref a0), (1, .ref q0), (0, .ref b)] → W pr l ev room_1 sx mi ag bl me cd H locs (4707 + tm * 264) (37930 + tm * 2400) Q (F0 mi 22 ls []) := by
    intro kf
    induction kf with
    | zero => intro tm n wn t tc sc uw c1 c2 s ow hf tf b1 b2 b3 b4 m tn sl bg ht rs sn rw wy o hkf htm R h0n hT; exact absurd hkf (by omega)
    | succ kf ih22 =>
      intro tm n wn t tc sc uw c1 c2 s ow hf tf b1 b2 b3 b4 m tn sl bg ht rs sn rw wy o hkf htm R h0n hT H locs hP hD hS ls hl
      obtain ⟨hn, hw, hs, hc1, hb1⟩ := R.inv
      refine lv_iload_n hx hb dL_law_22 rfl (lv_at hl 0 rfl) ?_
      refine lv_bipush (v := nI 16) hx hb dL_law_23 (by decide) ?_
      refine icN_ge (tgt := 730) hx hb dL_law_25 (by decide) (by omega) (by omega) (fun c_25 => ?_) (fun c_25 => ?_)
      · refine lv_aload_n hx hb dL_law_730 rfl (lv_at hl 1 rfl) ?_
        refine lv_aload_n hx hb dL_law_731 rfl (lv_at hl 2 rfl) ?_
        refine call_VgI (As := [.ref q0]) (rest := []) (wr := []) (wc := gW cI q0 h1 h2 h3 h4 h5 h6 h1 h2 n wn t tc sc uw c1 c2 s ow hf tf ++ (sW cI cZ cS cW a0 b1 b2 b3 b4 n m tn sl bg ht rs sn rw wy o)) S (m_X2_isSame q0 h1 h2 h3 h4 h5 h6 n wn t tc sc uw c1 c2 s ow hf tf a0 b1 b2 b3 b4 m tn sl bg ht rs sn rw wy o R h0n (by omega) H.size) g_L_X2_isSame hd_X2_isSame ⟨Nat.le_of_ble_eq_true rfl, Nat.le_of_ble_eq_true rfl⟩ ⟨by show _ ≤ 600130; omega, by show _ ≤ 7301080; omega⟩ hP hD hK hS hA hZ 7 rfl rfl hl.1 rfl (Nat.le_of_ble_eq_true rfl) dL_law_732 (fun r u H locs hq hP hD hS => ?_)
        obtain ⟨rfl, rfl⟩ := hq
        have hP : va_P (dC, dI) vwCl (gW cI q0 h1 h2 h3 h4 h5 h6 h1 h2 n wn t tc sc uw c1 c2 s ow hf tf ++ (sW cI cZ cS cW a0 b1 b2 b3 b4 n m tn sl bg ht rs sn rw wy o)) H := hP
        have hD : va_D A (gW cI q0 h1 h2 h3 h4 h5 h6 h1 h2 n wn t tc sc uw c1 c2 s ow hf tf ++ (sW cI cZ cS cW a0 b1 b2 b3 b4 n m tn sl bg ht rs sn rw wy o)) := hD
        refine W.widen (k := 600130) (n := 7301080) (by omega) (by omega) ?_
        exact ret _ _ _ _ dL_law_735 hS
      · refine lv_aload_n hx hb dL_law_28 rfl (lv_at hl 3 rfl) ?_
        refine lv_iload_n hx hb dL_law_29 rfl (lv_at hl 0 rfl) ?_
        refine call_cell (rest := []) (k := tm) S hX0 hbl hbA hL (by omega) ⟨Nat.le_of_ble_eq_true rfl, Nat.le_of_ble_eq_true rfl⟩ ⟨by show _ ≤ 600130; omega, by show _ ≤ 7301080; omega⟩ hP hD hS hl.1 rfl (Nat.le_of_ble_eq_true rfl) dL_law_30 (fun r30 H locs hP hS => ?_)
        refine lv_sipush (v := nI 631) hx hb dL_law_33 (by decide) ?_
        refine lv_iload_n hx hb dL_law_36 rfl (lv_at hl 0 rfl) ?_
        refine lv_imul hx hb dL_law_37 ?_
        refine W_i (y := nI (631 * tm)) (pk_mul _ _) ?_
        refine lv_iadd hx hb dL_law_38 ?_
        refine W_i (y := (r30 + nI (631 * tm))) (rfl) ?_
        refine lv_istore (lv' := [(4, .int (r30 + nI (631 * tm))), (3, .int (nI tm)), (2, .ref a0), (1, .ref q0), (0, .ref b)]) hx hb dL_law_39 hl (by decide) rfl (fun ls hl => ?_)
        refine lv_aload_n hx hb dL_law_41 rfl (lv_at hl 3 rfl) ?_
        refine lv_aload_n hx hb dL_law_42 rfl (lv_at hl 2 rfl) ?_
        refine lv_iload hx hb dL_law_43 (lv_at hl 0 rfl) ?_
        refine call_SgI (As := [.ref q0, .ref a0, .int (r30 + nI (631 * tm))]) (rest := []) (wr := []) (wc := gW cI q0 h1 h2 h3 h4 h5 h6 h1 h2 n wn t tc sc uw c1 c2 s ow hf tf ++ (sW cI cZ cS cW a0 b1 b2 b3 b4 n m tn sl bg ht rs sn rw wy o)) S (m_L_act q0 h1 h2 h3 h4 h5 h6 n wn t tc sc uw c1 c2 s ow hf tf a0 b1 b2 b3 b4 m tn sl bg ht rs sn rw wy o (r30 + nI (631 * tm)) R h0n (by omega) H.size) g_L_L_act hd_L_act ⟨Nat.le_of_ble_eq_true rfl, Nat.le_of_ble_eq_true rfl⟩ ⟨by show _ ≤ 600130; omega, by show _ ≤ 7301080; omega⟩ hP hD hK hS hA hZ hl.1 rfl (Nat.le_of_ble_eq_true rfl) dL_law_45 (fun r u H locs hq hP hD hS => ?_)
        obtain ⟨rfl, n, wn, t, tc, sc, uw, c1, c2, s, ow, hf, tf, b1, b2, b3, b4, m, tn, sl, bg, ht, rs, sn, rw, wy, o, rfl, R, h0n, hT⟩ := hq
        have hP : va_P (dC, dI) vwCl (gW cI q0 h1 h2 h3 h4 h5 h6 h1 h2 n wn t tc sc uw c1 c2 s ow hf tf ++ (sW cI cZ cS cW a0 b1 b2 b3 b4 n m tn sl bg ht rs sn rw wy o)) H := hP
        have hD : va_D A (gW cI q0 h1 h2 h3 h4 h5 h6 h1 h2 n wn t tc sc uw c1 c2 s ow hf tf ++ (sW cI cZ cS cW a0 b1 b2 b3 b4 n m tn sl bg ht rs sn rw wy o)) := hD
        obtain ⟨hn, hw, hs, hc1, hb1⟩ := R.inv
        have hm : m ≤ 243 := R.m243
        have hht := R.gx.h4
        have hwy := R.wy4
        have ht5 := R.t5
        have htt := R.tt
        have hss := R.ss
        have hsb := R.sb
        refine ifN_ne (tgt := 53) hx hb dL_law_48 (by decide) (by omega) (fun c_48 => ?_) (fun c_48 => absurd c_48 (by decide))
        refine lv_aload_n hx hb dL_law_53 rfl (lv_at hl 3 rfl) ?_
        refine call_VpS (As := []) (rest := []) S (m_X1_players q0 h1 h2 h3 h4 h5 h6 n wn t tc sc uw c1 c2 s ow hf tf   hn hw hs hc1 hb1) g_L_X1_players hd_X1_players ⟨Nat.le_of_ble_eq_true rfl, Nat.le_of_ble_eq_true rfl⟩ ⟨by show _ ≤ 600130; omega, by show _ ≤ 7301080; omega⟩ hP hD hK hS hZ (List.sublist_append_left _ _) 0 rfl rfl hl.1 rfl (Nat.le_of_ble_eq_true rfl) dL_law_54 (fun r H locs hq hP hS => ?_)
        obtain rfl := hq
        refine lv_istore (lv' := [(5, .int (nI n)), (4, .int (r30 + nI (631 * tm))), (3, .int (nI tm)), (2, .ref a0), (1, .ref q0), (0, .ref b)]) hx hb dL_law_57 hl (by decide) rfl (fun ls hl => ?_)
        refine lv_aload_n hx hb dL_law_59 rfl (lv_at hl 4 rfl) ?_
        refine call_VpS (As := []) (rest := []) S (m_X1_openWays q0 h1 h2 h3 h4 h5 h6 n wn t tc sc uw c1 c2 s ow hf tf   hn hw hs hc1 hb1) g_L_X1_openWays hd_X1_openWays ⟨Nat.le_of_ble_eq_true rfl, Nat.le_of_ble_eq_true rfl⟩ ⟨by show _ ≤ 600130; omega, by show _ ≤ 7301080; omega⟩ hP hD hK hS hZ (List.sublist_append_left _ _) 0 rfl rfl hl.1 rfl (Nat.le_of_ble_eq_true rfl) dL_law_60 (fun r H locs hq hP hS => ?_)
        obtain rfl := hq
        refine lv_istore (lv' := [(6, .int (nI c1)), (5, .int (nI n)), (4, .int (r30 + nI (631 * tm))), (3, .int (nI tm)), (2, .ref a0), (1, .ref q0), (0, .ref b)]) hx hb dL_law_63 hl (by decide) rfl (fun ls hl => ?_)
        refine lv_iconst (v := nI 0) hx hb dL_law_65 (by decide) ?_
        refine lv_istore (lv' := [(7, .int (nI 0)), (6, .int (nI c1)), (5, .int (nI n)), (4, .int (r30 + nI (631 * tm))), (3, .int (nI tm)), (2, .ref a0), (1, .ref q0), (0, .ref b)]) hx hb dL_law_66 hl (by decide) rfl (fun ls hl => ?_)
        refine lv_iconst (v := nI 3) hx hb dL_law_68 (by decide) ?_
        refine my_newa (atype := .int) (ty := .int) (cI := cI) (a0 := (3, .inl (fun k => nI ((fun _ => 0) k)))) (N' := 3) hx hb (hts _ q_ac_int) rfl hK 0 rfl (gW cI q0 h1 h2 h3 h4 h5 h6 h1 h2 n wn t tc sc uw c1 c2 s ow hf tf) (sW cI cZ cS cW a0 b1 b2 b3 b4 n m tn sl bg ht rs sn rw wy o) hP hD hS hA (fun _ => rfl) (nI_pos (by omega)) (nI_clamp (by omega)) (Nat.le_of_ble_eq_true rfl) (by show _ ≤ 600130; omega) (by show _ ≤ 7301080; omega) dL_law_69 (by simp) (fun q69 H hP hD hS => ?_)
        have hP : va_P (dC, dI) vwCl (gW cI q0 h1 h2 h3 h4 h5 h6 h1 h2 n wn t tc sc uw c1 c2 s ow hf tf ++ ([(q69, .inl (cI, 3, .inl (fun k => nI ((fun _ => 0) k))))] ++ (sW cI cZ cS cW a0 b1 b2 b3 b4 n m tn sl bg ht rs sn rw wy o))) H := hP
        have hD : va_D A (gW cI q0 h1 h2 h3 h4 h5 h6 h1 h2 n wn t tc sc uw c1 c2 s ow hf tf ++ ([(q69, .inl (cI, 3, .inl (fun k => nI ((fun _ => 0) k))))] ++ (sW cI cZ cS cW a0 b1 b2 b3 b4 n m tn sl bg ht rs sn rw wy o))) := hD
        refine lv_astore (lv' := [(8, .ref q69), (7, .int (nI 0)), (6, .int (nI c1)), (5, .int (nI n)), (4, .int (r30 + nI (631 * tm))), (3, .int (nI tm)), (2, .ref a0), (1, .ref q0), (0, .ref b)]) hx hb dL_law_71 hl (by decide) rfl (fun ls hl => ?_)
        refine lv_iload hx hb dL_law_73 (lv_at hl 3 rfl) ?_
        refine my_newa (atype := .boolean) (ty := .boolean) (cI := cZ) (a0 := (n, .inl (fun k => bI ((fun _ => false) k)))) (N' := n) hx hb (hts _ q_ac_boolean) rfl hK 1 rfl (gW cI q0 h1 h2 h3 h4 h5 h6 h1 h2 n wn t tc sc uw c1 c2 s ow hf tf) ([(q69, .inl (cI, 3, .inl (fun k => nI ((fun _ => 0) k))))] ++ (sW cI cZ cS cW a0 b1 b2 b3 b4 n m tn sl bg ht rs sn rw wy o)) hP hD hS hA (fun _ => rfl) (nI_pos (by omega)) (nI_clamp (by omega)) (by show _ * 1 ≤ _; omega) (by show _ ≤ 600130; omega) (by show _ ≤ 7301080; omega) dL_law_75 (by simp) (fun q75 H hP hD hS => ?_)
        have hP : va_P (dC, dI) vwCl (gW cI q0 h1 h2 h3 h4 h5 h6 h1 h2 n wn t tc sc uw c1 c2 s ow hf tf ++ ([(q75, .inl (cZ, n, .inl (fun k => bI ((fun _ => false) k)))), (q69, .inl (cI, 3, .inl (fun k => nI ((fun _ => 0) k))))] ++ (sW cI cZ cS cW a0 b1 b2 b3 b4 n m tn sl bg ht rs sn rw wy o))) H := hP
        have hD : va_D A (gW cI q0 h1 h2 h3 h4 h5 h6 h1 h2 n wn t tc sc uw c1 c2 s ow hf tf ++ ([(q75, .inl (cZ, n, .inl (fun k => bI ((fun _ => false) k)))), (q69, .inl (cI, 3, .inl (fun k => nI ((fun _ => 0) k))))] ++ (sW cI cZ cS cW a0 b1 b2 b3 b4 n m tn sl bg ht rs sn rw wy o))) := hD
        refine lv_astore (lv' := [(9, .ref q75), (8, .ref q69), (7, .int (nI 0)), (6, .int (nI c1)), (5, .int (nI n)), (4, .int (r30 + nI (631 * tm))), (3, .int (nI tm)), (2, .ref a0), (1, .ref q0), (0, .ref b)]) hx hb dL_law_77 hl (by decide) rfl (fun ls hl => ?_)
        refine lv_iconst (v := nI 0) hx hb dL_law_79 (by decide) ?_
        refine lv_istore (lv' := [(10, .int (nI 0)), (9, .ref q75), (8, .ref q69), (7, .int (nI 0)), (6, .int (nI c1)), (5, .int (nI n)), (4, .int (r30 + nI (631 * tm))), (3, .int (nI tm)), (2, .ref a0), (1, .ref q0), (0, .ref b)]) hx hb dL_law_80 hl (by decide) rfl (fun ls hl => ?_)
        have lp82 : ∀ (kf : Nat) (p : Nat) (ce : Nat) (f : Nat → Nat) (wa : Nat → Bool) (c2 : Nat) (ow : Nat → Nat) (tf : Nat → Nat), n < p + kf → (p ≤ n) → (ce = certN wn s (Lof hf c1) p) → (∀ c, c < 3 → f c = hatsN p wn c) → (∀ q, q < p → wa q = cert wn (s q) q (Lof hf c1)) → ∀ (H : Heap) (locs : List Loc), va_P (dC, dI) vwCl (gW cI q0 h1 h2 h3 h4 h5 h6 h1 h2 n wn t tc sc uw c1 c2 s ow hf tf ++ ([(q75, .inl (cZ, n, .inl (fun k => bI (wa k)))), (q69, .inl (cI, 3, .inl (fun k => nI (f k))))] ++ (sW cI cZ cS cW a0 b1 b2 b3 b4 n m tn sl bg ht rs sn rw wy o))) H → va_D A (gW cI q0 h1 h2 h3 h4 h5 h6 h1 h2 n wn t tc sc uw c1 c2 s ow hf tf ++ ([(q75, .inl (cZ, n, .inl (fun k => bI (wa k)))), (q69, .inl (cI, 3, .inl (fun k => nI (f k))))] ++ (sW cI cZ cS cW a0 b1 b2 b3 b4 n m tn sl bg ht rs sn rw wy o))) → va_S A sx.heap H locs → ∀ ls : Array Slot, lv_has ls 18 [(10, .int (nI p)), (9, .ref q75), (8, .ref q69), (7, .int (nI ce)), (6, .int (nI c1)), (5, .int (nI n)), (3, .int (nI tm)), (2, .ref a0), (1, .ref q0), (0, .ref b)] → W pr l ev room_1 sx mi ag bl me cd H locs (4707 + tm * 264 + 261 + 1 + 1) (37930 + tm * 2400 + 2100 + 3 + n) Q (F0 mi 82 ls []) := by
          intro kf
          induction kf with
          | zero => intro p ce f wa c2 ow tf hkf hp hce hf9 hwa; exact absurd hkf (by omega)
          | succ kf ih82 =>
            intro p ce f wa c2 ow tf hkf hp hce hf9 hwa H locs hP hD hS ls hl
            refine lv_iload hx hb dL_law_82 (lv_at hl 0 rfl) ?_
            refine lv_iload hx hb dL_law_84 (lv_at hl 5 rfl) ?_
            refine icN_ge (tgt := 505) hx hb dL_law_86 (by decide) (by omega) (by omega) (fun c_86 => ?_) (fun c_86 => ?_)
            · refine lv_iconst (v := nI 0) hx hb dL_law_505 (by decide) ?_
              refine lv_istore (lv' := [(10, .int (nI 0)), (9, .ref q75), (8, .ref q69), (7, .int (nI ce)), (6, .int (nI c1)), (5, .int (nI n)), (3, .int (nI tm)), (2, .ref a0), (1, .ref q0), (0, .ref b)]) hx hb dL_law_506 hl (by decide) rfl (fun ls hl => ?_)
              have lp508 : ∀ (kf : Nat) (co : Nat), 3 < co + kf → (co ≤ 3) → ∀ (H : Heap) (locs : List Loc), va_P (dC, dI) vwCl (gW cI q0 h1 h2 h3 h4 h5 h6 h1 h2 n wn t tc sc uw c1 c2 s ow hf tf ++ ([(q75, .inl (cZ, n, .inl (fun k => bI (wa k)))), (q69, .inl (cI, 3, .inl (fun k => nI (f k))))] ++ (sW cI cZ cS cW a0 b1 b2 b3 b4 n m tn sl bg ht rs sn rw wy o))) H → va_D A (gW cI q0 h1 h2 h3 h4 h5 h6 h1 h2 n wn t tc sc uw c1 c2 s ow hf tf ++ ([(q75, .inl (cZ, n, .inl (fun k => bI (wa k)))), (q69, .inl (cI, 3, .inl (fun k => nI (f k))))] ++ (sW cI cZ cS cW a0 b1 b2 b3 b4 n m tn sl bg ht rs sn rw wy o))) → va_S A sx.heap H locs → ∀ ls : Array Slot, lv_has ls 18 [(10, .int (nI co)), (9, .ref q75), (8, .ref q69), (7, .int (nI ce)), (6, .int (nI c1)), (5, .int (nI n)), (3, .int (nI tm)), (2, .ref a0), (1, .ref q0), (0, .ref b)] → W pr l ev room_1 sx mi ag bl me cd H locs (4707 + tm * 264 + 261 + 1 + 1) (37930 + tm * 2400 + 2100 + 3 + n) Q (F0 mi 508 ls []) := by
                intro kf
                induction kf with
                | zero => intro co hkf hco; exact absurd hkf (by omega)
                | succ kf ih508 =>
                  intro co hkf hco H locs hP hD hS ls hl
                  refine lv_iload hx hb dL_law_508 (lv_at hl 0 rfl) ?_
                  refine lv_iconst (v := nI 3) hx hb dL_law_510 (by decide) ?_
                  refine icN_ge (tgt := 536) hx hb dL_law_511 (by decide) (by omega) (by omega) (fun c_511 => ?_) (fun c_511 => ?_)
                  · refine lv_iload hx hb dL_law_536 (lv_at hl 3 rfl) ?_
                    refine lv_aload_n hx hb dL_law_538 rfl (lv_at hl 8 rfl) ?_
                    refine call_VpS (As := []) (rest := [.int (nI ce)]) S (m_X1_certainPlayers q0 h1 h2 h3 h4 h5 h6 n wn t tc sc uw c1 c2 s ow hf tf   hn hw hs hc1 hb1) g_L_X1_certainPlayers hd_X1_certainPlayers ⟨Nat.le_of_ble_eq_true rfl, Nat.le_of_ble_eq_true rfl⟩ ⟨by show _ ≤ 600130; omega, by show _ ≤ 7301080; omega⟩ hP hD hK hS hZ (List.sublist_append_left _ _) 0 rfl rfl hl.1 rfl (Nat.le_of_ble_eq_true rfl) dL_law_539 (fun r H locs hq hP hS => ?_)
                    obtain rfl := hq
                    refine icN_ne (tgt := 551) hx hb dL_law_542 (by decide) (by rw [hce]; have := certN_le wn s (Lof hf c1) p; omega) (by have := certN_le wn s (Lof hf c1) n; omega) (fun c_542 => absurd c_542 (fun e9 => e9 (by rw [hce, show p = n by omega]))) (fun c_542 => ?_)
                    refine lv_iload hx hb dL_law_545 (lv_at hl 4 rfl) ?_
                    refine lv_iconst (v := nI 1) hx hb dL_law_547 (by decide) ?_
                    refine icN_ge (tgt := 553) hx hb dL_law_548 (by decide) (by omega) (by omega) (fun c_548 => ?_) (fun c_548 => absurd c_548 (by have := R.c1pos; omega))
                    refine lv_aload_n hx hb dL_law_553 rfl (lv_at hl 8 rfl) ?_
                    refine call_VpS (As := []) (rest := []) S (m_X1_playerInTurn q0 h1 h2 h3 h4 h5 h6 n wn t tc sc uw c1 c2 s ow hf tf   hn hw hs hc1 hb1) g_L_X1_playerInTurn hd_X1_playerInTurn ⟨Nat.le_of_ble_eq_true rfl, Nat.le_of_ble_eq_true rfl⟩ ⟨by show _ ≤ 600130; omega, by show _ ≤ 7301080; omega⟩ hP hD hK hS hZ (List.sublist_append_left _ _) 0 rfl rfl hl.1 rfl (Nat.le_of_ble_eq_true rfl) dL_law_554 (fun r H locs hq hP hS => ?_)
                    obtain rfl := hq
                    refine W_i (y := nI t) (by rw [whoI, if_neg (by omega)]) ?_
                    refine lv_istore (lv' := [(10, .int (nI t)), (9, .ref q75), (8, .ref q69), (7, .int (nI ce)), (6, .int (nI c1)), (5, .int (nI n)), (3, .int (nI tm)), (2, .ref a0), (1, .ref q0), (0, .ref b)]) hx hb dL_law_557 hl (by decide) rfl (fun ls hl => ?_)
                    refine lv_aload_n hx hb dL_law_559 rfl (lv_at hl 8 rfl) ?_
                    refine call_VpS (As := []) (rest := []) S (m_X1_silentTurns q0 h1 h2 h3 h4 h5 h6 n wn t tc sc uw c1 c2 s ow hf tf   hn hw hs hc1 hb1) g_L_X1_silentTurns hd_X1_silentTurns ⟨Nat.le_of_ble_eq_true rfl, Nat.le_of_ble_eq_true rfl⟩ ⟨by show _ ≤ 600130; omega, by show _ ≤ 7301080; omega⟩ hP hD hK hS hZ (List.sublist_append_left _ _) 0 rfl rfl hl.1 rfl (Nat.le_of_ble_eq_true rfl) dL_law_560 (fun r H locs hq hP hS => ?_)
                    obtain rfl := hq
                    refine lv_istore (lv' := [(11, .int (nI sc)), (10, .int (nI t)), (9, .ref q75), (8, .ref q69), (7, .int (nI ce)), (6, .int (nI c1)), (5, .int (nI n)), (3, .int (nI tm)), (2, .ref a0), (1, .ref q0), (0, .ref b)]) hx hb dL_law_563 hl (by decide) rfl (fun ls hl => ?_)
                    refine lv_aload_n hx hb dL_law_565 rfl (lv_at hl 9 rfl) ?_
                    refine call_VpS (As := []) (rest := []) S (m_X1_turnsTaken q0 h1 h2 h3 h4 h5 h6 n wn t tc sc uw c1 c2 s ow hf tf   hn hw hs hc1 hb1) g_L_X1_turnsTaken hd_X1_turnsTaken ⟨Nat.le_of_ble_eq_true rfl, Nat.le_of_ble_eq_true rfl⟩ ⟨by show _ ≤ 600130; omega, by show _ ≤ 7301080; omega⟩ hP hD hK hS hZ (List.sublist_append_left _ _) 0 rfl rfl hl.1 rfl (Nat.le_of_ble_eq_true rfl) dL_law_566 (fun r H locs hq hP hS => ?_)
                    obtain rfl := hq
                    refine lv_istore (lv' := [(12, .int (nI tc)), (11, .int (nI sc)), (10, .int (nI t)), (9, .ref q75), (8, .ref q69), (7, .int (nI ce)), (6, .int (nI c1)), (5, .int (nI n)), (3, .int (nI tm)), (2, .ref a0), (1, .ref q0), (0, .ref b)]) hx hb dL_law_569 hl (by decide) rfl (fun ls hl => ?_)
                    refine lv_aload_n hx hb dL_law_571 rfl (lv_at hl 10 rfl) ?_
                    refine call_ViF (As := []) (rest := []) (wr := [(q75, .inl (cZ, n, .inl (fun k => bI (wa k)))), (q69, .inl (cI, 3, .inl (fun k => nI (f k))))] ++ (sW cI cZ cS cW a0 b1 b2 b3 b4 n m tn sl bg ht rs sn rw wy o)) S (m_X1_takeTurn q0 h1 h2 h3 h4 h5 h6 n wn t tc sc uw c1 c2 s ow hf tf  h0n ht5 hn hw hs hc1 hb1) g_L_X1_takeTurn hd_X1_takeTurn ⟨Nat.le_of_ble_eq_true rfl, Nat.le_of_ble_eq_true rfl⟩ ⟨by show _ ≤ 600130; omega, by show _ ≤ 7301080; omega⟩ hP hD hK hS hZ 0 rfl rfl hl.1 rfl (Nat.le_of_ble_eq_true rfl) dL_law_572 (fun r u H locs hq hP hD hS => ?_)
                    obtain ⟨rfl, k9, og9, g9, rfl, hg9⟩ := hq
                    have hP : va_P (dC, dI) vwCl (gW cI q0 h1 h2 h3 h4 h5 h6 h1 h2 n wn (aftN n t) (tc + 1) (if cert wn (s t) t (Lof hf c1) = true then sc else sc + 1) true k9 c2 s og9 g9 tf ++ ([(q75, .inl (cZ, n, .inl (fun k => bI (wa k)))), (q69, .inl (cI, 3, .inl (fun k => nI (f k))))] ++ (sW cI cZ cS cW a0 b1 b2 b3 b4 n m tn sl bg ht rs sn rw wy o))) H := hP
                    have hD : va_D A (gW cI q0 h1 h2 h3 h4 h5 h6 h1 h2 n wn (aftN n t) (tc + 1) (if cert wn (s t) t (Lof hf c1) = true then sc else sc + 1) true k9 c2 s og9 g9 tf ++ ([(q75, .inl (cZ, n, .inl (fun k => bI (wa k)))), (q69, .inl (cI, 3, .inl (fun k => nI (f k))))] ++ (sW cI cZ cS cW a0 b1 b2 b3 b4 n m tn sl bg ht rs sn rw wy o))) := hD
                    refine lv_istore (lv' := [(13, .int (if cert wn (s t) t (Lof hf c1) = true then nI (qd wn t) else -1)), (12, .int (nI tc)), (11, .int (nI sc)), (10, .int (nI t)), (9, .ref q75), (8, .ref q69), (7, .int (nI ce)), (6, .int (nI c1)), (5, .int (nI n)), (3, .int (nI tm)), (2, .ref a0), (1, .ref q0), (0, .ref b)]) hx hb dL_law_575 hl (by decide) rfl (fun ls hl => ?_)
                    refine lv_aload_n hx hb dL_law_577 rfl (lv_at hl 10 rfl) ?_
                    refine call_VgI (As := []) (rest := []) (wr := gW cI q0 h1 h2 h3 h4 h5 h6 h1 h2 n wn (aftN n t) (tc + 1) (if cert wn (s t) t (Lof hf c1) = true then sc else sc + 1) true k9 c2 s og9 g9 tf ++ ([(q75, .inl (cZ, n, .inl (fun k => bI (wa k)))), (q69, .inl (cI, 3, .inl (fun k => nI (f k))))])) (wc := sW cI cZ cS cW a0 b1 b2 b3 b4 n m tn sl bg ht rs sn rw wy o) S (m_X2_turn a0 b1 b2 b3 b4 n m tn sl bg ht rs sn rw wy o (tn % n) hn (by omega) h0n rfl (Nat.mod_lt _ h0n) (by omega) hht hwy H.size) g_L_X2_turn hd_X2_turn ⟨Nat.le_of_ble_eq_true rfl, Nat.le_of_ble_eq_true rfl⟩ ⟨by show _ ≤ 600130; omega, by show _ ≤ 7301080; omega⟩ hP hD hK hS hA hZ 0 rfl rfl hl.1 rfl (Nat.le_of_ble_eq_true rfl) dL_law_578 (fun r u H locs hq hP hD hS => ?_)
                    obtain ⟨rfl, q9, o2, ho2, rfl⟩ := hq
                    have hP : va_P (dC, dI) vwCl (gW cI q0 h1 h2 h3 h4 h5 h6 h1 h2 n wn (aftN n t) (tc + 1) (if cert wn (s t) t (Lof hf c1) = true then sc else sc + 1) true k9 c2 s og9 g9 tf ++ ([(q75, .inl (cZ, n, .inl (fun k => bI (wa k)))), (q69, .inl (cI, 3, .inl (fun k => nI (f k))))] ++ (sW cI cZ cS cW a0 b1 b2 b3 q9 n m (tn + 1) (if surS n m sn wy o (tn % n) (tn % n) ht = true then sl else sl + 1) true ht rs sn rw wy o2))) H := hP
                    have hD : va_D A (gW cI q0 h1 h2 h3 h4 h5 h6 h1 h2 n wn (aftN n t) (tc + 1) (if cert wn (s t) t (Lof hf c1) = true then sc else sc + 1) true k9 c2 s og9 g9 tf ++ ([(q75, .inl (cZ, n, .inl (fun k => bI (wa k)))), (q69, .inl (cI, 3, .inl (fun k => nI (f k))))] ++ (sW cI cZ cS cW a0 b1 b2 b3 q9 n m (tn + 1) (if surS n m sn wy o (tn % n) (tn % n) ht = true then sl else sl + 1) true ht rs sn rw wy o2))) := hD
                    have R2 := R.turn h0n rfl hg9 ho2
                    have htn2 : t < n := by rw [R.tm h0n]; exact Nat.mod_lt _ h0n
                    have hpn : p = n := by omega
                    obtain ⟨hn, hw, hs, hc1, hb1⟩ := R2.inv
                    refine lv_iload hx hb dL_law_581 (lv_at hl 0 rfl) ?_
                    refine lv_icmp_ne (tgt := 671) hx hb dL_law_583 (by decide) (fun c_583 => absurd c_583 (fun e9 => e9 (R.turnA h0n rfl).symm)) (fun c_583 => ?_)
                    refine lv_iload hx hb dL_law_586 (lv_at hl 0 rfl) ?_
                    refine lv_aload hx hb dL_law_588 (lv_at hl 4 rfl) ?_
                    refine lv_iload hx hb dL_law_590 (lv_at hl 3 rfl) ?_
                    refine za_ld hx hb hK hP 7 1 rfl rfl (j := t) (by omega) (by omega) dL_law_592 ?_
                    refine W_i (y := bI (cert wn (s t) t (Lof hf c1))) (by rw [hwa t (by omega)]) ?_
                    have k609 : ∀ (H : Heap) (locs : List Loc), va_P (dC, dI) vwCl (gW cI q0 h1 h2 h3 h4 h5 h6 h1 h2 n wn (aftN n t) (tc + 1) (if cert wn (s t) t (Lof hf c1) = true then sc else sc + 1) true k9 c2 s og9 g9 tf ++ ([(q75, .inl (cZ, n, .inl (fun k => bI (wa k)))), (q69, .inl (cI, 3, .inl (fun k => nI (f k))))] ++ (sW cI cZ cS cW a0 b1 b2 b3 q9 n m (tn + 1) (if surS n m sn wy o (tn % n) (tn % n) ht = true then sl else sl + 1) true ht rs sn rw wy o2))) H → va_S A sx.heap H locs → W pr l ev room_1 sx mi ag bl me cd H locs (4707 + tm * 264 + 261 + 1 + 1 + 1) (37930 + tm * 2400 + 2100 + 3 + n + 243) Q (F0 mi 609 ls []) := by
                      intro H locs hP hS
                      refine lv_aload_n hx hb dL_law_609 rfl (lv_at hl 11 rfl) ?_
                      refine call_VpS (As := []) (rest := []) S (m_X1_turnsTaken q0 h1 h2 h3 h4 h5 h6 n wn (aftN n t) (tc + 1) (if cert wn (s t) t (Lof hf c1) = true then sc else sc + 1) true k9 c2 s og9 g9 tf   hn hw hs hc1 hb1) g_L_X1_turnsTaken hd_X1_turnsTaken ⟨Nat.le_of_ble_eq_true rfl, Nat.le_of_ble_eq_true rfl⟩ ⟨by show _ ≤ 600130; omega, by show _ ≤ 7301080; omega⟩ hP hD hK hS hZ (List.sublist_append_left _ _) 0 rfl rfl hl.1 rfl (Nat.le_of_ble_eq_true rfl) dL_law_610 (fun r H locs hq hP hS => ?_)
                      obtain rfl := hq
                      refine lv_iload hx hb dL_law_613 (lv_at hl 1 rfl) ?_
                      refine lv_iconst (v := nI 1) hx hb dL_law_615 (by decide) ?_
                      refine lv_iadd hx hb dL_law_616 ?_
                      refine W_i (y := nI (tc + 1)) (nI_add _ _) ?_
                      refine icN_ne (tgt := 671) hx hb dL_law_617 (by decide) (by omega) (by omega) (fun c_617 => absurd c_617 (fun e9 => e9 rfl)) (fun c_617 => ?_)
                      refine lv_aload_n hx hb dL_law_620 rfl (lv_at hl 11 rfl) ?_
                      refine call_VpS (As := []) (rest := []) S (m_X1_silentTurns q0 h1 h2 h3 h4 h5 h6 n wn (aftN n t) (tc + 1) (if cert wn (s t) t (Lof hf c1) = true then sc else sc + 1) true k9 c2 s og9 g9 tf   hn hw hs hc1 hb1) g_L_X1_silentTurns hd_X1_silentTurns ⟨Nat.le_of_ble_eq_true rfl, Nat.le_of_ble_eq_true rfl⟩ ⟨by show _ ≤ 600130; omega, by show _ ≤ 7301080; omega⟩ hP hD hK hS hZ (List.sublist_append_left _ _) 0 rfl rfl hl.1 rfl (Nat.le_of_ble_eq_true rfl) dL_law_621 (fun r H locs hq hP hS => ?_)
                      obtain rfl := hq
                      refine lv_iload hx hb dL_law_624 (lv_at hl 2 rfl) ?_
                      refine lv_iload hx hb dL_law_626 (lv_at hl 0 rfl) ?_
                      have k640 : ∀ (H : Heap) (locs : List Loc), va_P (dC, dI) vwCl (gW cI q0 h1 h2 h3 h4 h5 h6 h1 h2 n wn (aftN n t) (tc + 1) (if cert wn (s t) t (Lof hf c1) = true then sc else sc + 1) true k9 c2 s og9 g9 tf ++ ([(q75, .inl (cZ, n, .inl (fun k => bI (wa k)))), (q69, .inl (cI, 3, .inl (fun k => nI (f k))))] ++ (sW cI cZ cS cW a0 b1 b2 b3 q9 n m (tn + 1) (if surS n m sn wy o (tn % n) (tn % n) ht = true then sl else sl + 1) true ht rs sn rw wy o2))) H → va_S A sx.heap H locs → W pr l ev room_1 sx mi ag bl me cd H locs (4707 + tm * 264 + 261 + 1 + 1 + 1) (37930 + tm * 2400 + 2100 + 3 + n + 243) Q (F0 mi 640 ls []) := by
                        intro H locs hP hS
                        refine lv_aload_n hx hb dL_law_640 rfl (lv_at hl 11 rfl) ?_
                        refine call_VpS (As := []) (rest := []) S (m_X1_playerInTurn q0 h1 h2 h3 h4 h5 h6 n wn (aftN n t) (tc + 1) (if cert wn (s t) t (Lof hf c1) = true then sc else sc + 1) true k9 c2 s og9 g9 tf   hn hw hs hc1 hb1) g_L_X1_playerInTurn hd_X1_playerInTurn ⟨Nat.le_of_ble_eq_true rfl, Nat.le_of_ble_eq_true rfl⟩ ⟨by show _ ≤ 600130; omega, by show _ ≤ 7301080; omega⟩ hP hD hK hS hZ (List.sublist_append_left _ _) 0 rfl rfl hl.1 rfl (Nat.le_of_ble_eq_true rfl) dL_law_641 (fun r H locs hq hP hS => ?_)
                        obtain rfl := hq
                        refine lv_iload hx hb dL_law_644 (lv_at hl 3 rfl) ?_
                        refine lv_iconst (v := nI 1) hx hb dL_law_646 (by decide) ?_
                        refine lv_iadd hx hb dL_law_647 ?_
                        refine W_i (y := nI (t + 1)) (nI_add _ _) ?_
                        refine lv_iload hx hb dL_law_648 (lv_at hl 8 rfl) ?_
                        refine lv_irem hx hb dL_law_650 (nI_ne0 (by omega) (by omega)) ?_
                        refine W_i (y := nI ((t + 1) % n)) (pk_rem (by omega) h0n (by omega)) ?_
                        refine lv_icmp_ne (tgt := 671) hx hb dL_law_651 (by decide) (fun c_651 => absurd c_651 (fun e9 => e9 (by rw [whoI, if_neg (by omega), aft_mod h0n (Nat.mod_eq_of_lt htn2).symm]))) (fun c_651 => ?_)
                        refine lv_aload_n hx hb dL_law_654 rfl (lv_at hl 11 rfl) ?_
                        refine call_VpS (As := []) (rest := []) S (m_X1_openWays q0 h1 h2 h3 h4 h5 h6 n wn (aftN n t) (tc + 1) (if cert wn (s t) t (Lof hf c1) = true then sc else sc + 1) true k9 c2 s og9 g9 tf   hn hw hs hc1 hb1) g_L_X1_openWays hd_X1_openWays ⟨Nat.le_of_ble_eq_true rfl, Nat.le_of_ble_eq_true rfl⟩ ⟨by show _ ≤ 600130; omega, by show _ ≤ 7301080; omega⟩ hP hD hK hS hZ (List.sublist_append_left _ _) 0 rfl rfl hl.1 rfl (Nat.le_of_ble_eq_true rfl) dL_law_655 (fun r H locs hq hP hS => ?_)
                        obtain rfl := hq
                        refine lv_iload hx hb dL_law_658 (lv_at hl 7 rfl) ?_
                        refine icN_gt (tgt := 671) hx hb dL_law_660 (by decide) (by omega) (by omega) (fun c_660 => absurd c_660 (by have := turn_len hg9; omega)) (fun c_660 => ?_)
                        refine lv_aload_n hx hb dL_law_663 rfl (lv_at hl 11 rfl) ?_
                        refine call_VpS (As := []) (rest := []) S (m_X1_openWays q0 h1 h2 h3 h4 h5 h6 n wn (aftN n t) (tc + 1) (if cert wn (s t) t (Lof hf c1) = true then sc else sc + 1) true k9 c2 s og9 g9 tf   hn hw hs hc1 hb1) g_L_X1_openWays hd_X1_openWays ⟨Nat.le_of_ble_eq_true rfl, Nat.le_of_ble_eq_true rfl⟩ ⟨by show _ ≤ 600130; omega, by show _ ≤ 7301080; omega⟩ hP hD hK hS hZ (List.sublist_append_left _ _) 0 rfl rfl hl.1 rfl (Nat.le_of_ble_eq_true rfl) dL_law_664 (fun r H locs hq hP hS => ?_)
                        obtain rfl := hq
                        refine lv_iconst (v := nI 1) hx hb dL_law_667 (by decide) ?_
                        refine icN_ge (tgt := 673) hx hb dL_law_668 (by decide) (by omega) (by omega) (fun c_668 => ?_) (fun c_668 => absurd c_668 (by have := R2.c1pos; omega))
                        refine lv_iload hx hb dL_law_673 (lv_at hl 0 rfl) ?_
                        have k689 : ∀ (H : Heap) (locs : List Loc), va_P (dC, dI) vwCl (gW cI q0 h1 h2 h3 h4 h5 h6 h1 h2 n wn (aftN n t) (tc + 1) (if cert wn (s t) t (Lof hf c1) = true then sc else sc + 1) true k9 c2 s og9 g9 tf ++ ([(q75, .inl (cZ, n, .inl (fun k => bI (wa k)))), (q69, .inl (cI, 3, .inl (fun k => nI (f k))))] ++ (sW cI cZ cS cW a0 b1 b2 b3 q9 n m (tn + 1) (if surS n m sn wy o (tn % n) (tn % n) ht = true then sl else sl + 1) true ht rs sn rw wy o2))) H → va_S A sx.heap H locs → W pr l ev room_1 sx mi ag bl me cd H locs (4707 + tm * 264 + 261 + 1 + 1 + 1) (37930 + tm * 2400 + 2100 + 3 + n + 243) Q (F0 mi 689 ls []) := by
                          intro H locs hP hS
                          refine lv_iconst (v := nI 0) hx hb dL_law_689 (by decide) ?_
                          refine lv_istore (lv' := [(14, .int (nI 0)), (13, .int (if cert wn (s t) t (Lof hf c1) = true then nI (qd wn t) else -1)), (12, .int (nI tc)), (11, .int (nI sc)), (10, .int (nI t)), (9, .ref q75), (8, .ref q69), (7, .int (nI ce)), (6, .int (nI c1)), (5, .int (nI n)), (3, .int (nI tm)), (2, .ref a0), (1, .ref q0), (0, .ref b)]) hx hb dL_law_690 hl (by decide) rfl (fun ls hl => ?_)
                          have lp692 : ∀ (kf : Nat) (k : Nat), n < k + kf → (k ≤ n) → ∀ (H : Heap) (locs : List Loc), va_P (dC, dI) vwCl (gW cI q0 h1 h2 h3 h4 h5 h6 h1 h2 n wn (aftN n t) (tc + 1) (if cert wn (s t) t (Lof hf c1) = true then sc else sc + 1) true k9 c2 s og9 g9 tf ++ ([(q75, .inl (cZ, n, .inl (fun k => bI (wa k)))), (q69, .inl (cI, 3, .inl (fun k => nI (f k))))] ++ (sW cI cZ cS cW a0 b1 b2 b3 q9 n m (tn + 1) (if surS n m sn wy o (tn % n) (tn % n) ht = true then sl else sl + 1) true ht rs sn rw wy o2))) H → va_D A (gW cI q0 h1 h2 h3 h4 h5 h6 h1 h2 n wn (aftN n t) (tc + 1) (if cert wn (s t) t (Lof hf c1) = true then sc else sc + 1) true k9 c2 s og9 g9 tf ++ ([(q75, .inl (cZ, n, .inl (fun k => bI (wa k)))), (q69, .inl (cI, 3, .inl (fun k => nI (f k))))] ++ (sW cI cZ cS cW a0 b1 b2 b3 q9 n m (tn + 1) (if surS n m sn wy o (tn % n) (tn % n) ht = true then sl else sl + 1) true ht rs sn rw wy o2))) → va_S A sx.heap H locs → ∀ ls : Array Slot, lv_has ls 18 [(14, .int (nI k)), (9, .ref q75), (5, .int (nI n)), (3, .int (nI tm)), (2, .ref a0), (1, .ref q0), (0, .ref b)] → W pr l ev room_1 sx mi ag bl me cd H locs (4707 + tm * 264 + 261 + 1 + 1 + 1) (37930 + tm * 2400 + 2100 + 3 + n + 243) Q (F0 mi 692 ls []) := by
                            intro kf
                            induction kf with
                            | zero => intro k hkf hk; exact absurd hkf (by omega)
                            | succ kf ih692 =>
                              intro k hkf hk H locs hP hD hS ls hl
                              refine lv_iload hx hb dL_law_692 (lv_at hl 0 rfl) ?_
                              refine lv_iload hx hb dL_law_694 (lv_at hl 2 rfl) ?_
                              refine icN_ge (tgt := 724) hx hb dL_law_696 (by decide) (by omega) (by omega) (fun c_696 => ?_) (fun c_696 => ?_)
                              · refine lv_iinc (v := nI (tm + 1)) (lv' := [(3, .int (nI (tm + 1))), (14, .int (nI k)), (9, .ref q75), (5, .int (nI n)), (2, .ref a0), (1, .ref q0), (0, .ref b)]) hx hb dL_law_724 hl (k := 3) rfl (nI_add _ _) (by decide) rfl (fun ls hl => ?_)
                                refine lv_goto (tgt := 22) hx hb dL_law_727 (by decide) ?_
                                have hP := hP.sl (u := gW cI q0 h1 h2 h3 h4 h5 h6 h1 h2 n wn (aftN n t) (tc + 1) (if cert wn (s t) t (Lof hf c1) = true then sc else sc + 1) true k9 c2 s og9 g9 tf ++ (sW cI cZ cS cW a0 b1 b2 b3 q9 n m (tn + 1) (if surS n m sn wy o (tn % n) (tn % n) ht = true then sl else sl + 1) true ht rs sn rw wy o2)) ((List.sublist_append_right _ _).append_left _)
                                have hD := hD.sl (u := gW cI q0 h1 h2 h3 h4 h5 h6 h1 h2 n wn (aftN n t) (tc + 1) (if cert wn (s t) t (Lof hf c1) = true then sc else sc + 1) true k9 c2 s og9 g9 tf ++ (sW cI cZ cS cW a0 b1 b2 b3 q9 n m (tn + 1) (if surS n m sn wy o (tn % n) (tn % n) ht = true then sl else sl + 1) true ht rs sn rw wy o2)) ((List.sublist_append_right _ _).append_left _)
                                refine W.widen (k := 4707 + (tm + 1) * 264) (n := 37930 + (tm + 1) * 2400) (by omega) (by omega) ?_
                                exact ih22 (tm + 1) _ _ _ _ _ _ _ _ _ _ _ _ _ _ _ _ _ _ _ _ _ _ _ _ _ _ (by omega) (by omega) R2 h0n (by omega) _ _ hP hD hS _ (lv_sub hl [0, 4, 5, 6] rfl)
                              · refine lv_aload hx hb dL_law_699 (lv_at hl 1 rfl) ?_
                                refine lv_iload hx hb dL_law_701 (lv_at hl 0 rfl) ?_
                                refine za_ld hx hb hK hP 7 1 rfl rfl (j := k) (by omega) (by omega) dL_law_703 ?_
                                refine W_i (y := bI (cert wn (s k) k (Lof hf c1))) (by rw [hwa k (by omega)]) ?_
                                have k718 : ∀ (H : Heap) (locs : List Loc), va_P (dC, dI) vwCl (gW cI q0 h1 h2 h3 h4 h5 h6 h1 h2 n wn (aftN n t) (tc + 1) (if cert wn (s t) t (Lof hf c1) = true then sc else sc + 1) true k9 c2 s og9 g9 tf ++ ([(q75, .inl (cZ, n, .inl (fun k => bI (wa k)))), (q69, .inl (cI, 3, .inl (fun k => nI (f k))))] ++ (sW cI cZ cS cW a0 b1 b2 b3 q9 n m (tn + 1) (if surS n m sn wy o (tn % n) (tn % n) ht = true then sl else sl + 1) true ht rs sn rw wy o2))) H → va_S A sx.heap H locs → W pr l ev room_1 sx mi ag bl me cd H locs (4707 + tm * 264 + 261 + 1 + 1 + 1) (37930 + tm * 2400 + 2100 + 3 + n + 243) Q (F0 mi 718 ls []) := by
                                  intro H locs hP hS
                                  refine lv_iinc (v := nI (k + 1)) (lv' := [(14, .int (nI (k + 1))), (9, .ref q75), (5, .int (nI n)), (3, .int (nI tm)), (2, .ref a0), (1, .ref q0), (0, .ref b)]) hx hb dL_law_718 hl (k := 0) rfl (nI_add _ _) (by decide) rfl (fun ls hl => ?_)
                                  refine lv_goto (tgt := 692) hx hb dL_law_721 (by decide) ?_
                                  exact ih692 (k + 1) (by omega) (by omega) _ _ hP hD hS _ (lv_sub hl [0, 1, 2, 3, 4, 5, 6] rfl)
                                refine ifB_eq (tgt := 718) hx hb dL_law_704 (by decide) (fun c_704 => ?_) (fun c_704 => ?_)
                                · exact k718 _ _ hP hS
                                · refine lv_aload_n hx hb dL_law_707 rfl (lv_at hl 5 rfl) ?_
                                  refine lv_iload hx hb dL_law_708 (lv_at hl 0 rfl) ?_
                                  refine call_VpS (As := [.int (nI k)]) (rest := []) S (m_X1_isCertain q0 h1 h2 h3 h4 h5 h6 n wn (aftN n t) (tc + 1) (if cert wn (s t) t (Lof hf c1) = true then sc else sc + 1) true k9 c2 s og9 g9 tf k (by omega) hn hw hs hc1 hb1) g_L_X1_isCertain hd_X1_isCertain ⟨Nat.le_of_ble_eq_true rfl, Nat.le_of_ble_eq_true rfl⟩ ⟨by show _ ≤ 600130; omega, by show _ ≤ 7301080; omega⟩ hP hD hK hS hZ (List.sublist_append_left _ _) 0 rfl rfl hl.1 rfl (Nat.le_of_ble_eq_true rfl) dL_law_710 (fun r H locs hq hP hS => ?_)
                                  obtain rfl := hq
                                  refine ifB_ne (tgt := 718) hx hb dL_law_713 (by decide) (fun c_713 => ?_) (fun c_713 => absurd c_713 (by rw [hg9, cert_less c_704 turn_sub (by rw [← hg9]; exact R2.now)]; decide))
                                  exact k718 _ _ hP hS
                          exact lp692 (n + 1) 0 (by omega) (by omega) _ _ hP hD hS _ (lv_sub hl [0, 5, 9, 10, 11, 12, 13] rfl)
                        refine lv_if_lt (tgt := 689) hx hb dL_law_675 (by decide) (fun c_675 => ?_) (fun c_675 => ?_)
                        · exact k689 _ _ hP hS
                        · refine lv_aload_n hx hb dL_law_678 rfl (lv_at hl 11 rfl) ?_
                          refine lv_iload hx hb dL_law_679 (lv_at hl 3 rfl) ?_
                          refine call_VpS (As := [.int (nI t)]) (rest := []) S (m_X1_isKnownToAll q0 h1 h2 h3 h4 h5 h6 n wn (aftN n t) (tc + 1) (if cert wn (s t) t (Lof hf c1) = true then sc else sc + 1) true k9 c2 s og9 g9 tf t (by omega) hn hw hs hc1 hb1) g_L_X1_isKnownToAll hd_X1_isKnownToAll ⟨Nat.le_of_ble_eq_true rfl, Nat.le_of_ble_eq_true rfl⟩ ⟨by show _ ≤ 600130; omega, by show _ ≤ 7301080; omega⟩ hP hD hK hS hZ (List.sublist_append_left _ _) 0 rfl rfl hl.1 rfl (Nat.le_of_ble_eq_true rfl) dL_law_681 (fun r H locs hq hP hS => ?_)
                          obtain rfl := hq
                          refine ifB_ne (tgt := 689) hx hb dL_law_684 (by decide) (fun c_684 => ?_) (fun c_684 => absurd c_684 (by rw [turn_all hg9 (told_nl c_675)]; decide))
                          exact k689 _ _ hP hS
                      refine lv_if_ge (tgt := 635) hx hb dL_law_628 (by decide) (fun c_628 => ?_) (fun c_628 => ?_)
                      · refine lv_iconst (v := nI 0) hx hb dL_law_635 (by decide) ?_
                        refine lv_iadd hx hb dL_law_636 ?_
                        refine W_i (y := nI (sc + 0)) (nI_add _ _) ?_
                        refine icN_ne (tgt := 671) hx hb dL_law_637 (by decide) (by split <;> omega) (by omega) (fun c_637 => absurd c_637 (fun e9 => e9 (by rw [if_pos (told_ge c_628)]; rfl))) (fun c_637 => ?_)
                        exact k640 _ _ hP hS
                      · refine lv_iconst (v := nI 1) hx hb dL_law_631 (by decide) ?_
                        refine lv_goto (tgt := 636) hx hb dL_law_632 (by decide) ?_
                        refine lv_iadd hx hb dL_law_636 ?_
                        refine W_i (y := nI (sc + 1)) (nI_add _ _) ?_
                        refine icN_ne (tgt := 671) hx hb dL_law_637 (by decide) (by split <;> omega) (by omega) (fun c_637 => absurd c_637 (fun e9 => e9 (by rw [if_neg (by rw [told_lt (lt_31 (Nat.lt_trans (qd_lt _ _) (by omega))) c_628]; decide)]))) (fun c_637 => ?_)
                        exact k640 _ _ hP hS
                    refine ifB_eq (tgt := 605) hx hb dL_law_593 (by decide) (fun c_593 => ?_) (fun c_593 => ?_)
                    · refine lv_iconst (v := (-1)) hx hb dL_law_605 (by decide) ?_
                      refine lv_icmp_ne (tgt := 671) hx hb dL_law_606 (by decide) (fun c_606 => absurd c_606 (fun e9 => e9 (by rw [if_neg (by rw [c_593]; decide)]))) (fun c_606 => ?_)
                      exact k609 _ _ hP hS
                    · refine lv_aload_n hx hb dL_law_596 rfl (lv_at hl 11 rfl) ?_
                      refine lv_iload hx hb dL_law_597 (lv_at hl 3 rfl) ?_
                      refine call_VpS (As := [.int (nI t)]) (rest := [.int (if cert wn (s t) t (Lof hf c1) = true then nI (qd wn t) else -1)]) S (m_X1_hatOf q0 h1 h2 h3 h4 h5 h6 n wn (aftN n t) (tc + 1) (if cert wn (s t) t (Lof hf c1) = true then sc else sc + 1) true k9 c2 s og9 g9 tf t (by omega) hn hw hs hc1 hb1) g_L_X1_hatOf hd_X1_hatOf ⟨Nat.le_of_ble_eq_true rfl, Nat.le_of_ble_eq_true rfl⟩ ⟨by show _ ≤ 600130; omega, by show _ ≤ 7301080; omega⟩ hP hD hK hS hZ (List.sublist_append_left _ _) 0 rfl rfl hl.1 rfl (Nat.le_of_ble_eq_true rfl) dL_law_599 (fun r H locs hq hP hS => ?_)
                      obtain rfl := hq
                      refine lv_goto (tgt := 606) hx hb dL_law_602 (by decide) ?_
                      refine lv_icmp_ne (tgt := 671) hx hb dL_law_606 (by decide) (fun c_606 => absurd c_606 (fun e9 => e9 (by rw [if_pos c_593]))) (fun c_606 => ?_)
                      exact k609 _ _ hP hS
                  · refine lv_aload_n hx hb dL_law_514 rfl (lv_at hl 8 rfl) ?_
                    refine lv_iload hx hb dL_law_515 (lv_at hl 0 rfl) ?_
                    refine call_VpS (As := [.int (nI co)]) (rest := []) S (m_X1_hatsOf q0 h1 h2 h3 h4 h5 h6 n wn t tc sc uw c1 c2 s ow hf tf co (by omega) hn hw hs hc1 hb1) g_L_X1_hatsOf hd_X1_hatsOf ⟨Nat.le_of_ble_eq_true rfl, Nat.le_of_ble_eq_true rfl⟩ ⟨by show _ ≤ 600130; omega, by show _ ≤ 7301080; omega⟩ hP hD hK hS hZ (List.sublist_append_left _ _) 0 rfl rfl hl.1 rfl (Nat.le_of_ble_eq_true rfl) dL_law_517 (fun r H locs hq hP hS => ?_)
                    obtain rfl := hq
                    refine lv_aload hx hb dL_law_520 (lv_at hl 2 rfl) ?_
                    refine lv_iload hx hb dL_law_522 (lv_at hl 0 rfl) ?_
                    refine ia_ld hx hb hK hP 8 0 rfl rfl (j := co) (by omega) (by decide) dL_law_524 ?_
                    refine icN_eq (tgt := 530) hx hb dL_law_525 (by decide) (by have := hatsN_le n wn co; omega) (by rw [hf9 co (by omega)]; have := hatsN_le p wn co; omega) (fun c_525 => ?_) (fun c_525 => absurd c_525 (fun e9 => e9 (by rw [hf9 co (by omega), show p = n by omega])))
                    refine lv_iinc (v := nI (co + 1)) (lv' := [(10, .int (nI (co + 1))), (9, .ref q75), (8, .ref q69), (7, .int (nI ce)), (6, .int (nI c1)), (5, .int (nI n)), (3, .int (nI tm)), (2, .ref a0), (1, .ref q0), (0, .ref b)]) hx hb dL_law_530 hl (k := 0) rfl (nI_add _ _) (by decide) rfl (fun ls hl => ?_)
                    refine lv_goto (tgt := 508) hx hb dL_law_533 (by decide) ?_
                    exact ih508 (co + 1) (by omega) (by omega) _ _ hP hD hS _ (lv_sub hl [0, 1, 2, 3, 4, 5, 6, 7, 8, 9] rfl)
              exact lp508 4 0 (by omega) (by omega) _ _ hP hD hS _ (lv_sub hl [0, 1, 2, 3, 4, 5, 6, 7, 8, 9] rfl)
            · refine lv_aload_n hx hb dL_law_89 rfl (lv_at hl 8 rfl) ?_
              refine lv_iload hx hb dL_law_90 (lv_at hl 0 rfl) ?_
              refine call_VpS (As := [.int (nI p)]) (rest := []) S (m_X1_hatOf q0 h1 h2 h3 h4 h5 h6 n wn t tc sc uw c1 c2 s ow hf tf p (by omega) hn hw hs hc1 hb1) g_L_X1_hatOf hd_X1_hatOf ⟨Nat.le_of_ble_eq_true rfl, Nat.le_of_ble_eq_true rfl⟩ ⟨by show _ ≤ 600130; omega, by show _ ≤ 7301080; omega⟩ hP hD hK hS hZ (List.sublist_append_left _ _) 0 rfl rfl hl.1 rfl (Nat.le_of_ble_eq_true rfl) dL_law_92 (fun r H locs hq hP hS => ?_)
              obtain rfl := hq
              have hq3 : qd wn p < 3 := by rw [R.gx.qdh (by omega)]; exact R.gx.2.1 p (by omega)
              refine lv_istore (lv' := [(11, .int (nI (qd wn p))), (10, .int (nI p)), (9, .ref q75), (8, .ref q69), (7, .int (nI ce)), (6, .int (nI c1)), (5, .int (nI n)), (3, .int (nI tm)), (2, .ref a0), (1, .ref q0), (0, .ref b)]) hx hb dL_law_95 hl (by decide) rfl (fun ls hl => ?_)
              refine lv_aload hx hb dL_law_97 (lv_at hl 3 rfl) ?_
              refine lv_iload hx hb dL_law_99 (lv_at hl 0 rfl) ?_
              refine lv_dup2_11 hx hb dL_law_101 rfl rfl ?_
              refine ia_ld hx hb hK hP 8 0 rfl rfl (j := qd wn p) (by omega) (by decide) dL_law_102 ?_
              refine lv_iconst (v := nI 1) hx hb dL_law_103 (by decide) ?_
              refine lv_iadd hx hb dL_law_104 ?_
              refine W_i (y := nI ((f (qd wn p)) + 1)) (nI_add _ _) ?_
              refine ia_st hx hb hK hP hD hS 8 0 rfl rfl (j := qd wn p) (v := (f (qd wn p)) + 1) (by omega) (by decide) dL_law_105 (fun H locs hP hD hS => ?_)
              have hP : va_P (dC, dI) vwCl (gW cI q0 h1 h2 h3 h4 h5 h6 h1 h2 n wn t tc sc uw c1 c2 s ow hf tf ++ ([(q75, .inl (cZ, n, .inl (fun k => bI (wa k)))), (q69, .inl (cI, 3, .inl (fun k => nI ((upN f (qd wn p) ((f (qd wn p)) + 1)) k))))] ++ (sW cI cZ cS cW a0 b1 b2 b3 b4 n m tn sl bg ht rs sn rw wy o))) H := hP
              have hD : va_D A (gW cI q0 h1 h2 h3 h4 h5 h6 h1 h2 n wn t tc sc uw c1 c2 s ow hf tf ++ ([(q75, .inl (cZ, n, .inl (fun k => bI (wa k)))), (q69, .inl (cI, 3, .inl (fun k => nI ((upN f (qd wn p) ((f (qd wn p)) + 1)) k))))] ++ (sW cI cZ cS cW a0 b1 b2 b3 b4 n m tn sl bg ht rs sn rw wy o))) := hD
              refine lv_iconst (v := nI 0) hx hb dL_law_106 (by decide) ?_
              refine lv_istore (lv' := [(12, .int (nI 0)), (11, .int (nI (qd wn p))), (10, .int (nI p)), (9, .ref q75), (8, .ref q69), (7, .int (nI ce)), (6, .int (nI c1)), (5, .int (nI n)), (3, .int (nI tm)), (2, .ref a0), (1, .ref q0), (0, .ref b)]) hx hb dL_law_107 hl (by decide) rfl (fun ls hl => ?_)
              refine lv_iconst (v := nI 0) hx hb dL_law_109 (by decide) ?_
              refine lv_istore (lv' := [(13, .int (nI 0)), (12, .int (nI 0)), (11, .int (nI (qd wn p))), (10, .int (nI p)), (9, .ref q75), (8, .ref q69), (7, .int (nI ce)), (6, .int (nI c1)), (5, .int (nI n)), (3, .int (nI tm)), (2, .ref a0), (1, .ref q0), (0, .ref b)]) hx hb dL_law_110 hl (by decide) rfl (fun ls hl => ?_)
              have lp112 : ∀ (kf : Nat) (co : Nat) (sm : Nat), 3 < co + kf → (co ≤ 3) → (sm = sumC (Lof hf c1) p co) → ∀ (H : Heap) (locs : List Loc), va_P (dC, dI) vwCl (gW cI q0 h1 h2 h3 h4 h5 h6 h1 h2 n wn t tc sc uw c1 c2 s ow hf tf ++ ([(q75, .inl (cZ, n, .inl (fun k => bI (wa k)))), (q69, .inl (cI, 3, .inl (fun k => nI ((upN f (qd wn p) ((f (qd wn p)) + 1)) k))))] ++ (sW cI cZ cS cW a0 b1 b2 b3 b4 n m tn sl bg ht rs sn rw wy o))) H → va_D A (gW cI q0 h1 h2 h3 h4 h5 h6 h1 h2 n wn t tc sc uw c1 c2 s ow hf tf ++ ([(q75, .inl (cZ, n, .inl (fun k => bI (wa k)))), (q69, .inl (cI, 3, .inl (fun k => nI ((upN f (qd wn p) ((f (qd wn p)) + 1)) k))))] ++ (sW cI cZ cS cW a0 b1 b2 b3 b4 n m tn sl bg ht rs sn rw wy o))) → va_S A sx.heap H locs → ∀ ls : Array Slot, lv_has ls 18 [(13, .int (nI co)), (12, .int (nI sm)), (11, .int (nI (qd wn p))), (10, .int (nI p)), (9, .ref q75), (8, .ref q69), (7, .int (nI ce)), (6, .int (nI c1)), (5, .int (nI n)), (3, .int (nI tm)), (2, .ref a0), (1, .ref q0), (0, .ref b)] → W pr l ev room_1 sx mi ag bl me cd H locs (4707 + tm * 264 + 261 + 1 + 1) (37930 + tm * 2400 + 2100 + 3 + n) Q (F0 mi 112 ls []) := by
                intro kf
                induction kf with
                | zero => intro co sm hkf hco hsm; exact absurd hkf (by omega)
                | succ kf ih112 =>
                  intro co sm hkf hco hsm H locs hP hD hS ls hl
                  refine lv_iload hx hb dL_law_112 (lv_at hl 0 rfl) ?_
                  refine lv_iconst (v := nI 3) hx hb dL_law_114 (by decide) ?_
                  refine icN_ge (tgt := 137) hx hb dL_law_115 (by decide) (by omega) (by omega) (fun c_115 => ?_) (fun c_115 => ?_)
                  · have hsm3 : sm = c1 := by rw [hsm, show co = 3 by omega]; exact R.sum3 (by omega)
                    refine lv_aload_n hx hb dL_law_137 rfl (lv_at hl 11 rfl) ?_
                    refine lv_iload hx hb dL_law_138 (lv_at hl 3 rfl) ?_
                    refine call_VpS (As := [.int (nI p)]) (rest := []) S (m_X1_possibleWays q0 h1 h2 h3 h4 h5 h6 n wn t tc sc uw c1 c2 s ow hf tf p (by omega) hn hw hs hc1 hb1) g_L_X1_possibleWays hd_X1_possibleWays ⟨Nat.le_of_ble_eq_true rfl, Nat.le_of_ble_eq_true rfl⟩ ⟨by show _ ≤ 600130; omega, by show _ ≤ 7301080; omega⟩ hP hD hK hS hZ (List.sublist_append_left _ _) 0 rfl rfl hl.1 rfl (Nat.le_of_ble_eq_true rfl) dL_law_140 (fun r H locs hq hP hS => ?_)
                    obtain rfl := hq
                    refine lv_istore (lv' := [(13, .int (nI (possN wn (s p) (Lof hf c1)))), (12, .int (nI sm)), (11, .int (nI (qd wn p))), (10, .int (nI p)), (9, .ref q75), (8, .ref q69), (7, .int (nI ce)), (6, .int (nI c1)), (5, .int (nI n)), (3, .int (nI tm)), (2, .ref a0), (1, .ref q0), (0, .ref b)]) hx hb dL_law_143 hl (by decide) rfl (fun ls hl => ?_)
                    refine lv_aload hx hb dL_law_145 (lv_at hl 4 rfl) ?_
                    refine lv_iload hx hb dL_law_147 (lv_at hl 3 rfl) ?_
                    refine lv_aload_n hx hb dL_law_149 rfl (lv_at hl 11 rfl) ?_
                    refine lv_iload hx hb dL_law_150 (lv_at hl 3 rfl) ?_
                    refine call_VpS (As := [.int (nI p)]) (rest := [.int (nI p), .ref q75]) S (m_X1_isCertain q0 h1 h2 h3 h4 h5 h6 n wn t tc sc uw c1 c2 s ow hf tf p (by omega) hn hw hs hc1 hb1) g_L_X1_isCertain hd_X1_isCertain ⟨Nat.le_of_ble_eq_true rfl, Nat.le_of_ble_eq_true rfl⟩ ⟨by show _ ≤ 600130; omega, by show _ ≤ 7301080; omega⟩ hP hD hK hS hZ (List.sublist_append_left _ _) 0 rfl rfl hl.1 rfl (Nat.le_of_ble_eq_true rfl) dL_law_152 (fun r H locs hq hP hS => ?_)
                    obtain rfl := hq
                    refine za_st hx hb hK hP hD hS 7 1 rfl rfl (j := p) (v := cert wn (s p) p (Lof hf c1)) (by omega) (by omega) dL_law_155 (fun H locs hP hD hS => ?_)
                    have hP : va_P (dC, dI) vwCl (gW cI q0 h1 h2 h3 h4 h5 h6 h1 h2 n wn t tc sc uw c1 c2 s ow hf tf ++ ([(q75, .inl (cZ, n, .inl (fun k => bI ((upN wa p (cert wn (s p) p (Lof hf c1))) k)))), (q69, .inl (cI, 3, .inl (fun k => nI ((upN f (qd wn p) ((f (qd wn p)) + 1)) k))))] ++ (sW cI cZ cS cW a0 b1 b2 b3 b4 n m tn sl bg ht rs sn rw wy o))) H := hP
                    have hD : va_D A (gW cI q0 h1 h2 h3 h4 h5 h6 h1 h2 n wn t tc sc uw c1 c2 s ow hf tf ++ ([(q75, .inl (cZ, n, .inl (fun k => bI ((upN wa p (cert wn (s p) p (Lof hf c1))) k)))), (q69, .inl (cI, 3, .inl (fun k => nI ((upN f (qd wn p) ((f (qd wn p)) + 1)) k))))] ++ (sW cI cZ cS cW a0 b1 b2 b3 b4 n m tn sl bg ht rs sn rw wy o))) := hD
                    refine lv_iload hx hb dL_law_156 (lv_at hl 6 rfl) ?_
                    refine lv_aload hx hb dL_law_158 (lv_at hl 4 rfl) ?_
                    refine lv_iload hx hb dL_law_160 (lv_at hl 3 rfl) ?_
                    refine za_ld hx hb hK hP 7 1 rfl rfl (j := p) (by omega) (by omega) dL_law_162 ?_
                    refine W_i (y := bI (cert wn (s p) p (Lof hf c1))) (by rw [upN_s]) ?_
                    refine tern_n hx hb dL_law_163 dL_law_166 dL_law_167 dL_law_170 (by decide) (by decide) ?_
                    obtain ⟨ce2, hce2⟩ : ∃ z, z = certN wn s (Lof hf c1) (p + 1) := ⟨_, rfl⟩
                    have hce3 : ce2 ≤ p + 1 := by rw [hce2]; exact certN_le _ _ _ _
                    refine lv_iadd hx hb dL_law_171 ?_
                    refine W_i (y := nI ce2) (by rw [hce2, nI_add, hce]; rfl) ?_
                    refine lv_istore (lv' := [(7, .int (nI ce2)), (13, .int (nI (possN wn (s p) (Lof hf c1)))), (12, .int (nI sm)), (11, .int (nI (qd wn p))), (10, .int (nI p)), (9, .ref q75), (8, .ref q69), (6, .int (nI c1)), (5, .int (nI n)), (3, .int (nI tm)), (2, .ref a0), (1, .ref q0), (0, .ref b)]) hx hb dL_law_172 hl (by decide) rfl (fun ls hl => ?_)
                    refine lv_iload hx hb dL_law_174 (lv_at hl 2 rfl) ?_
                    refine lv_iload hx hb dL_law_176 (lv_at hl 7 rfl) ?_
                    refine icN_ne (tgt := 296) hx hb dL_law_178 (by decide) (by omega) (by omega) (fun c_178 => absurd c_178 (fun e9 => e9 hsm3)) (fun c_178 => ?_)
                    have hcl : (Lof hf c1).countP (fun x => qd x p == qd wn p) ≤ c1 := by have h9 := List.countP_le_length (p := fun x => qd x p == qd wn p) (l := Lof hf c1); rw [Lof_len] at h9; exact h9
                    have hh1 := R.hat1 p
                    have hp1 := R.poss1 p
                    have hpl := possN_le wn (s p) hf c1
                    refine lv_aload_n hx hb dL_law_181 rfl (lv_at hl 11 rfl) ?_
                    refine lv_iload hx hb dL_law_182 (lv_at hl 4 rfl) ?_
                    refine lv_iload hx hb dL_law_184 (lv_at hl 3 rfl) ?_
                    refine call_VpS (As := [.int (nI p), .int (nI (qd wn p))]) (rest := []) S (m_X1_openWaysWith q0 h1 h2 h3 h4 h5 h6 n wn t tc sc uw c1 c2 s ow hf tf p (qd wn p) (by omega) (by omega) hn hw hs hc1 hb1) g_L_X1_openWaysWith hd_X1_openWaysWith ⟨Nat.le_of_ble_eq_true rfl, Nat.le_of_ble_eq_true rfl⟩ ⟨by show _ ≤ 600130; omega, by show _ ≤ 7301080; omega⟩ hP hD hK hS hZ (List.sublist_append_left _ _) 0 rfl rfl hl.1 rfl (Nat.le_of_ble_eq_true rfl) dL_law_186 (fun r H locs hq hP hS => ?_)
                    obtain rfl := hq
                    refine lv_iconst (v := nI 1) hx hb dL_law_189 (by decide) ?_
                    refine icN_lt (tgt := 296) hx hb dL_law_190 (by decide) (by omega) (by omega) (fun c_190 => absurd c_190 (by omega)) (fun c_190 => ?_)
                    refine lv_iload hx hb dL_law_193 (lv_at hl 1 rfl) ?_
                    refine lv_iconst (v := nI 1) hx hb dL_law_195 (by decide) ?_
                    refine icN_lt (tgt := 296) hx hb dL_law_196 (by decide) (by omega) (by omega) (fun c_196 => absurd c_196 (by omega)) (fun c_196 => ?_)
                    refine lv_iload hx hb dL_law_199 (lv_at hl 1 rfl) ?_
                    refine lv_iload hx hb dL_law_201 (lv_at hl 7 rfl) ?_
                    refine icN_gt (tgt := 296) hx hb dL_law_203 (by decide) (by omega) (by omega) (fun c_203 => absurd c_203 (by omega)) (fun c_203 => ?_)
                    refine lv_aload_n hx hb dL_law_206 rfl (lv_at hl 11 rfl) ?_
                    refine lv_iload hx hb dL_law_207 (lv_at hl 4 rfl) ?_
                    refine call_VpS (As := [.int (nI p)]) (rest := []) S (m_X1_isKnownToAll q0 h1 h2 h3 h4 h5 h6 n wn t tc sc uw c1 c2 s ow hf tf p (by omega) hn hw hs hc1 hb1) g_L_X1_isKnownToAll hd_X1_isKnownToAll ⟨Nat.le_of_ble_eq_true rfl, Nat.le_of_ble_eq_true rfl⟩ ⟨by show _ ≤ 600130; omega, by show _ ≤ 7301080; omega⟩ hP hD hK hS hZ (List.sublist_append_left _ _) 0 rfl rfl hl.1 rfl (Nat.le_of_ble_eq_true rfl) dL_law_209 (fun r H locs hq hP hS => ?_)
                    obtain rfl := hq
                    refine lv_aload_n hx hb dL_law_212 rfl (lv_at hl 11 rfl) ?_
                    refine lv_iload hx hb dL_law_213 (lv_at hl 4 rfl) ?_
                    refine lv_iload hx hb dL_law_215 (lv_at hl 3 rfl) ?_
                    refine call_VpS (As := [.int (nI p), .int (nI (qd wn p))]) (rest := [.int (bI (allN wn p (Lof hf c1)))]) S (m_X1_openWaysWith q0 h1 h2 h3 h4 h5 h6 n wn t tc sc uw c1 c2 s ow hf tf p (qd wn p) (by omega) (by omega) hn hw hs hc1 hb1) g_L_X1_openWaysWith hd_X1_openWaysWith ⟨Nat.le_of_ble_eq_true rfl, Nat.le_of_ble_eq_true rfl⟩ ⟨by show _ ≤ 600130; omega, by show _ ≤ 7301080; omega⟩ hP hD hK hS hZ (List.sublist_append_left _ _) 0 rfl rfl hl.1 rfl (Nat.le_of_ble_eq_true rfl) dL_law_217 (fun r H locs hq hP hS => ?_)
                    obtain rfl := hq
                    refine lv_iload hx hb dL_law_220 (lv_at hl 7 rfl) ?_
                    refine tern_eqN hx hb dL_law_222 dL_law_225 dL_law_226 dL_law_229 (by decide) (by decide) (by omega) (by omega) ?_
                    refine icB_ne (tgt := 296) hx hb dL_law_230 (by decide) (fun c_230 => absurd c_230 (fun e9 => e9 (by rw [allN, Lof_len]))) (fun c_230 => ?_)
                    refine lv_aload_n hx hb dL_law_233 rfl (lv_at hl 11 rfl) ?_
                    refine lv_iload hx hb dL_law_234 (lv_at hl 4 rfl) ?_
                    refine call_VpS (As := [.int (nI p)]) (rest := []) S (m_X1_isKnownToAll q0 h1 h2 h3 h4 h5 h6 n wn t tc sc uw c1 c2 s ow hf tf p (by omega) hn hw hs hc1 hb1) g_L_X1_isKnownToAll hd_X1_isKnownToAll ⟨Nat.le_of_ble_eq_true rfl, Nat.le_of_ble_eq_true rfl⟩ ⟨by show _ ≤ 600130; omega, by show _ ≤ 7301080; omega⟩ hP hD hK hS hZ (List.sublist_append_left _ _) 0 rfl rfl hl.1 rfl (Nat.le_of_ble_eq_true rfl) dL_law_236 (fun r H locs hq hP hS => ?_)
                    obtain rfl := hq
                    have k250 : ∀ (H : Heap) (locs : List Loc), va_P (dC, dI) vwCl (gW cI q0 h1 h2 h3 h4 h5 h6 h1 h2 n wn t tc sc uw c1 c2 s ow hf tf ++ ([(q75, .inl (cZ, n, .inl (fun k => bI ((upN wa p (cert wn (s p) p (Lof hf c1))) k)))), (q69, .inl (cI, 3, .inl (fun k => nI ((upN f (qd wn p) ((f (qd wn p)) + 1)) k))))] ++ (sW cI cZ cS cW a0 b1 b2 b3 b4 n m tn sl bg ht rs sn rw wy o))) H → va_S A sx.heap H locs → W pr l ev room_1 sx mi ag bl me cd H locs (4707 + tm * 264 + 261 + 1 + 1) (37930 + tm * 2400 + 2100 + 3 + n) Q (F0 mi 250 ls []) := by
                      intro H locs hP hS
                      refine lv_iload hx hb dL_law_250 (lv_at hl 1 rfl) ?_
                      refine lv_iconst (v := nI 1) hx hb dL_law_252 (by decide) ?_
                      have k264 : ∀ (H : Heap) (locs : List Loc), va_P (dC, dI) vwCl (gW cI q0 h1 h2 h3 h4 h5 h6 h1 h2 n wn t tc sc uw c1 c2 s ow hf tf ++ ([(q75, .inl (cZ, n, .inl (fun k => bI ((upN wa p (cert wn (s p) p (Lof hf c1))) k)))), (q69, .inl (cI, 3, .inl (fun k => nI ((upN f (qd wn p) ((f (qd wn p)) + 1)) k))))] ++ (sW cI cZ cS cW a0 b1 b2 b3 b4 n m tn sl bg ht rs sn rw wy o))) H → va_S A sx.heap H locs → W pr l ev room_1 sx mi ag bl me cd H locs (4707 + tm * 264 + 261 + 1 + 1) (37930 + tm * 2400 + 2100 + 3 + n) Q (F0 mi 264 ls []) := by
                        intro H locs hP hS
                        refine lv_aload_n hx hb dL_law_264 rfl (lv_at hl 11 rfl) ?_
                        refine lv_iload hx hb dL_law_265 (lv_at hl 4 rfl) ?_
                        refine lv_iload hx hb dL_law_267 (lv_at hl 4 rfl) ?_
                        refine call_VpS (As := [.int (nI p), .int (nI p)]) (rest := []) S (m_X1_knowsHatOf q0 h1 h2 h3 h4 h5 h6 n wn t tc sc uw c1 c2 s ow hf tf p p (by omega) (by omega) hn hw hs hc1 hb1) g_L_X1_knowsHatOf hd_X1_knowsHatOf ⟨Nat.le_of_ble_eq_true rfl, Nat.le_of_ble_eq_true rfl⟩ ⟨by show _ ≤ 600130; omega, by show _ ≤ 7301080; omega⟩ hP hD hK hS hZ (List.sublist_append_left _ _) 0 rfl rfl hl.1 rfl (Nat.le_of_ble_eq_true rfl) dL_law_269 (fun r H locs hq hP hS => ?_)
                        obtain rfl := hq
                        refine lv_aload hx hb dL_law_272 (lv_at hl 5 rfl) ?_
                        refine lv_iload hx hb dL_law_274 (lv_at hl 4 rfl) ?_
                        refine za_ld hx hb hK hP 7 1 rfl rfl (j := p) (by omega) (by omega) dL_law_276 ?_
                        refine W_i (y := bI (cert wn (s p) p (Lof hf c1))) (by rw [upN_s]) ?_
                        refine icB_ne (tgt := 296) hx hb dL_law_277 (by decide) (fun c_277 => absurd c_277 (fun e9 => e9 rfl)) (fun c_277 => ?_)
                        refine lv_aload_n hx hb dL_law_280 rfl (lv_at hl 11 rfl) ?_
                        refine lv_iload hx hb dL_law_281 (lv_at hl 4 rfl) ?_
                        refine lv_iload hx hb dL_law_283 (lv_at hl 4 rfl) ?_
                        refine call_ViF (As := [.int (nI p), .int (nI p)]) (rest := []) (wr := [(q75, .inl (cZ, n, .inl (fun k => bI ((upN wa p (cert wn (s p) p (Lof hf c1))) k)))), (q69, .inl (cI, 3, .inl (fun k => nI ((upN f (qd wn p) ((f (qd wn p)) + 1)) k))))] ++ (sW cI cZ cS cW a0 b1 b2 b3 b4 n m tn sl bg ht rs sn rw wy o)) S (m_X1_knowsCertain q0 h1 h2 h3 h4 h5 h6 n wn t tc sc uw c1 c2 s ow hf tf p p (by omega) (by omega) hn hw hs hc1 hb1) g_L_X1_knowsCertain hd_X1_knowsCertain ⟨Nat.le_of_ble_eq_true rfl, Nat.le_of_ble_eq_true rfl⟩ ⟨by show _ ≤ 600130; omega, by show _ ≤ 7301080; omega⟩ hP hD hK hS hZ 0 rfl rfl hl.1 rfl (Nat.le_of_ble_eq_true rfl) dL_law_285 (fun r u H locs hq hP hD hS => ?_)
                        obtain ⟨rfl, og3, rfl⟩ := hq
                        have hP : va_P (dC, dI) vwCl (gW cI q0 h1 h2 h3 h4 h5 h6 h1 h2 n wn t tc sc uw c1 c2 s og3 hf tf ++ ([(q75, .inl (cZ, n, .inl (fun k => bI ((upN wa p (cert wn (s p) p (Lof hf c1))) k)))), (q69, .inl (cI, 3, .inl (fun k => nI ((upN f (qd wn p) ((f (qd wn p)) + 1)) k))))] ++ (sW cI cZ cS cW a0 b1 b2 b3 b4 n m tn sl bg ht rs sn rw wy o))) H := hP
                        have hD : va_D A (gW cI q0 h1 h2 h3 h4 h5 h6 h1 h2 n wn t tc sc uw c1 c2 s og3 hf tf ++ ([(q75, .inl (cZ, n, .inl (fun k => bI ((upN wa p (cert wn (s p) p (Lof hf c1))) k)))), (q69, .inl (cI, 3, .inl (fun k => nI ((upN f (qd wn p) ((f (qd wn p)) + 1)) k))))] ++ (sW cI cZ cS cW a0 b1 b2 b3 b4 n m tn sl bg ht rs sn rw wy o))) := hD
                        refine lv_aload hx hb dL_law_288 (lv_at hl 5 rfl) ?_
                        refine lv_iload hx hb dL_law_290 (lv_at hl 4 rfl) ?_
                        refine za_ld hx hb hK hP 7 1 rfl rfl (j := p) (by omega) (by omega) dL_law_292 ?_
                        refine W_i (y := bI (cert wn (s p) p (Lof hf c1))) (by rw [upN_s]) ?_
                        refine icB_eq (tgt := 298) hx hb dL_law_293 (by decide) (fun c_293 => ?_) (fun c_293 => absurd c_293 (fun e9 => e9 (R.sure_self p)))
                        refine lv_iconst (v := nI 0) hx hb dL_law_298 (by decide) ?_
                        refine lv_istore (lv' := [(14, .int (nI 0)), (7, .int (nI ce2)), (13, .int (nI (possN wn (s p) (Lof hf c1)))), (12, .int (nI sm)), (11, .int (nI (qd wn p))), (10, .int (nI p)), (9, .ref q75), (8, .ref q69), (6, .int (nI c1)), (5, .int (nI n)), (3, .int (nI tm)), (2, .ref a0), (1, .ref q0), (0, .ref b)]) hx hb dL_law_299 hl (by decide) rfl (fun ls hl => ?_)
                        have lp301 : ∀ (kf : Nat) (k : Nat) (ow : Nat → Nat), n < k + kf → (k ≤ n) → ∀ (H : Heap) (locs : List Loc), va_P (dC, dI) vwCl (gW cI q0 h1 h2 h3 h4 h5 h6 h1 h2 n wn t tc sc uw c1 c2 s ow hf tf ++ ([(q75, .inl (cZ, n, .inl (fun k => bI ((upN wa p (cert wn (s p) p (Lof hf c1))) k)))), (q69, .inl (cI, 3, .inl (fun k => nI ((upN f (qd wn p) ((f (qd wn p)) + 1)) k))))] ++ (sW cI cZ cS cW a0 b1 b2 b3 b4 n m tn sl bg ht rs sn rw wy o))) H → va_D A (gW cI q0 h1 h2 h3 h4 h5 h6 h1 h2 n wn t tc sc uw c1 c2 s ow hf tf ++ ([(q75, .inl (cZ, n, .inl (fun k => bI ((upN wa p (cert wn (s p) p (Lof hf c1))) k)))), (q69, .inl (cI, 3, .inl (fun k => nI ((upN f (qd wn p) ((f (qd wn p)) + 1)) k))))] ++ (sW cI cZ cS cW a0 b1 b2 b3 b4 n m tn sl bg ht rs sn rw wy o))) → va_S A sx.heap H locs → ∀ ls : Array Slot, lv_has ls 18 [(14, .int (nI k)), (7, .int (nI ce2)), (10, .int (nI p)), (9, .ref q75), (8, .ref q69), (6, .int (nI c1)), (5, .int (nI n)), (3, .int (nI tm)), (2, .ref a0), (1, .ref q0), (0, .ref b)] → W pr l ev room_1 sx mi ag bl me cd H locs (4707 + tm * 264 + 261 + 1 + 1) (37930 + tm * 2400 + 2100 + 3 + n) Q (F0 mi 301 ls []) := by
                          intro kf
                          induction kf with
                          | zero => intro k ow hkf hk; exact absurd hkf (by omega)
                          | succ kf ih301 =>
                            intro k ow hkf hk H locs hP hD hS ls hl
                            refine lv_iload hx hb dL_law_301 (lv_at hl 0 rfl) ?_
                            refine lv_iload hx hb dL_law_303 (lv_at hl 6 rfl) ?_
                            refine icN_ge (tgt := 471) hx hb dL_law_305 (by decide) (by omega) (by omega) (fun c_305 => ?_) (fun c_305 => ?_)
                            · refine lv_aload_n hx hb dL_law_471 rfl (lv_at hl 9 rfl) ?_
                              refine lv_iload hx hb dL_law_472 (lv_at hl 2 rfl) ?_
                              refine call_ViF (As := [.int (nI p)]) (rest := []) (wr := [(q75, .inl (cZ, n, .inl (fun k => bI ((upN wa p (cert wn (s p) p (Lof hf c1))) k)))), (q69, .inl (cI, 3, .inl (fun k => nI ((upN f (qd wn p) ((f (qd wn p)) + 1)) k))))] ++ (sW cI cZ cS cW a0 b1 b2 b3 b4 n m tn sl bg ht rs sn rw wy o)) S (m_X1_certainIfTold q0 h1 h2 h3 h4 h5 h6 n wn t tc sc uw c1 c2 s ow hf tf p (by omega) hn hw hs hc1 hb1) g_L_X1_certainIfTold hd_X1_certainIfTold ⟨Nat.le_of_ble_eq_true rfl, Nat.le_of_ble_eq_true rfl⟩ ⟨by show _ ≤ 600130; omega, by show _ ≤ 7301080; omega⟩ hP hD hK hS hZ 0 rfl rfl hl.1 rfl (Nat.le_of_ble_eq_true rfl) dL_law_474 (fun r u H locs hq hP hD hS => ?_)
                              obtain ⟨rfl, k3, g3, rfl⟩ := hq
                              have hP : va_P (dC, dI) vwCl (gW cI q0 h1 h2 h3 h4 h5 h6 h1 h2 n wn t tc sc uw c1 k3 s ow hf g3 ++ ([(q75, .inl (cZ, n, .inl (fun k => bI ((upN wa p (cert wn (s p) p (Lof hf c1))) k)))), (q69, .inl (cI, 3, .inl (fun k => nI ((upN f (qd wn p) ((f (qd wn p)) + 1)) k))))] ++ (sW cI cZ cS cW a0 b1 b2 b3 b4 n m tn sl bg ht rs sn rw wy o))) H := hP
                              have hD : va_D A (gW cI q0 h1 h2 h3 h4 h5 h6 h1 h2 n wn t tc sc uw c1 k3 s ow hf g3 ++ ([(q75, .inl (cZ, n, .inl (fun k => bI ((upN wa p (cert wn (s p) p (Lof hf c1))) k)))), (q69, .inl (cI, 3, .inl (fun k => nI ((upN f (qd wn p) ((f (qd wn p)) + 1)) k))))] ++ (sW cI cZ cS cW a0 b1 b2 b3 b4 n m tn sl bg ht rs sn rw wy o))) := hD
                              refine lv_istore (lv' := [(14, .int (nI (certN wn s (toldL wn p (Lof hf c1)) n))), (7, .int (nI ce2)), (10, .int (nI p)), (9, .ref q75), (8, .ref q69), (6, .int (nI c1)), (5, .int (nI n)), (3, .int (nI tm)), (2, .ref a0), (1, .ref q0), (0, .ref b)]) hx hb dL_law_477 hl (by decide) rfl (fun ls hl => ?_)
                              refine lv_iload hx hb dL_law_479 (lv_at hl 0 rfl) ?_
                              refine lv_iconst (v := nI 1) hx hb dL_law_481 (by decide) ?_
                              refine lv_iload hx hb dL_law_482 (lv_at hl 1 rfl) ?_
                              refine va_mmax hx hb (hml.trans hl.1.symm) hown (hts _ q_ml_L_35) (hts _ q_st_J9_max_7cf53) (hts _ q_in_J9) (hts _ q_c_J9_max_7cf53) (Nat.le_of_ble_eq_true rfl) (Nat.le_of_ble_eq_true rfl) (by show _ ≤ 600130; omega) (by show _ ≤ 7301080; omega) dL_law_484 ?_
                              refine W_i (y := nI (if 1 < ce2 then ce2 else 1)) (mx_nI (by omega) (by omega)) ?_
                              refine icN_lt (tgt := 497) hx hb dL_law_487 (by decide) (by have := certN_le wn s (toldL wn p (Lof hf c1)) n; omega) (by split <;> omega) (fun c_487 => absurd c_487 (by have h8 := R.told1 (p := p) (by omega); have h9 := R.told2 (p := p) (k := p + 1) (by omega); rw [← hce2] at h9; split <;> omega)) (fun c_487 => ?_)
                              refine lv_iload hx hb dL_law_490 (lv_at hl 0 rfl) ?_
                              refine lv_iload hx hb dL_law_492 (lv_at hl 6 rfl) ?_
                              refine icN_le (tgt := 499) hx hb dL_law_494 (by decide) (by have := certN_le wn s (toldL wn p (Lof hf c1)) n; omega) (by omega) (fun c_494 => ?_) (fun c_494 => absurd c_494 (by have := certN_le wn s (toldL wn p (Lof hf c1)) n; omega))
                              refine lv_iinc (v := nI (p + 1)) (lv' := [(10, .int (nI (p + 1))), (14, .int (nI (certN wn s (toldL wn p (Lof hf c1)) n))), (7, .int (nI ce2)), (9, .ref q75), (8, .ref q69), (6, .int (nI c1)), (5, .int (nI n)), (3, .int (nI tm)), (2, .ref a0), (1, .ref q0), (0, .ref b)]) hx hb dL_law_499 hl (k := 2) rfl (nI_add _ _) (by decide) rfl (fun ls hl => ?_)
                              refine lv_goto (tgt := 82) hx hb dL_law_502 (by decide) ?_
                              exact ih82 (p + 1) _ _ _ _ _ _ (by omega) (by omega) hce2 (hat_up (n := n) hf9 hq3) (was_up (g := fun q => cert wn (s q) q (Lof hf c1)) hwa) _ _ hP hD hS _ (lv_sub hl [0, 3, 4, 2, 5, 6, 7, 8, 9, 10] rfl)
                            · refine lv_aload_n hx hb dL_law_308 rfl (lv_at hl 9 rfl) ?_
                              refine lv_iload hx hb dL_law_309 (lv_at hl 2 rfl) ?_
                              refine lv_iload hx hb dL_law_311 (lv_at hl 0 rfl) ?_
                              refine call_VpS (As := [.int (nI p), .int (nI k)]) (rest := []) S (m_X1_sees q0 h1 h2 h3 h4 h5 h6 n wn t tc sc uw c1 c2 s ow hf tf p k (by omega) (by omega) hn hw hs hc1 hb1) g_L_X1_sees hd_X1_sees ⟨Nat.le_of_ble_eq_true rfl, Nat.le_of_ble_eq_true rfl⟩ ⟨by show _ ≤ 600130; omega, by show _ ≤ 7301080; omega⟩ hP hD hK hS hZ (List.sublist_append_left _ _) 0 rfl rfl hl.1 rfl (Nat.le_of_ble_eq_true rfl) dL_law_313 (fun r H locs hq hP hS => ?_)
                              obtain rfl := hq
                              refine lv_istore (lv' := [(15, .int (bI (seeN s p k))), (14, .int (nI k)), (7, .int (nI ce2)), (10, .int (nI p)), (9, .ref q75), (8, .ref q69), (6, .int (nI c1)), (5, .int (nI n)), (3, .int (nI tm)), (2, .ref a0), (1, .ref q0), (0, .ref b)]) hx hb dL_law_316 hl (by decide) rfl (fun ls hl => ?_)
                              refine lv_iload hx hb dL_law_318 (lv_at hl 0 rfl) ?_
                              have k341 : ∀ (H : Heap) (locs : List Loc), va_P (dC, dI) vwCl (gW cI q0 h1 h2 h3 h4 h5 h6 h1 h2 n wn t tc sc uw c1 c2 s ow hf tf ++ ([(q75, .inl (cZ, n, .inl (fun k => bI ((upN wa p (cert wn (s p) p (Lof hf c1))) k)))), (q69, .inl (cI, 3, .inl (fun k => nI ((upN f (qd wn p) ((f (qd wn p)) + 1)) k))))] ++ (sW cI cZ cS cW a0 b1 b2 b3 b4 n m tn sl bg ht rs sn rw wy o))) H → va_S A sx.heap H locs → W pr l ev room_1 sx mi ag bl me cd H locs (4707 + tm * 264 + 261 + 1 + 1) (37930 + tm * 2400 + 2100 + 3 + n) Q (F0 mi 341 ls []) := by
                                intro H locs hP hS
                                refine lv_aload_n hx hb dL_law_341 rfl (lv_at hl 10 rfl) ?_
                                refine lv_iload hx hb dL_law_342 (lv_at hl 3 rfl) ?_
                                refine lv_iload hx hb dL_law_344 (lv_at hl 1 rfl) ?_
                                refine lv_aload_n hx hb dL_law_346 rfl (lv_at hl 10 rfl) ?_
                                refine lv_iload hx hb dL_law_347 (lv_at hl 1 rfl) ?_
                                refine call_VpS (As := [.int (nI k)]) (rest := [.int (nI k), .int (nI p), .ref q0]) S (m_X1_hatOf q0 h1 h2 h3 h4 h5 h6 n wn t tc sc uw c1 c2 s ow hf tf k (by omega) hn hw hs hc1 hb1) g_L_X1_hatOf hd_X1_hatOf ⟨Nat.le_of_ble_eq_true rfl, Nat.le_of_ble_eq_true rfl⟩ ⟨by show _ ≤ 600130; omega, by show _ ≤ 7301080; omega⟩ hP hD hK hS hZ (List.sublist_append_left _ _) 0 rfl rfl hl.1 rfl (Nat.le_of_ble_eq_true rfl) dL_law_349 (fun r H locs hq hP hS => ?_)
                                obtain rfl := hq
                                refine call_VpS (As := [.int (nI p), .int (nI k), .int (nI (qd wn k))]) (rest := []) S (m_X1_holdsPossible q0 h1 h2 h3 h4 h5 h6 n wn t tc sc uw c1 c2 s ow hf tf p k (qd wn k) (by omega) (by omega) (by rw [R.gx.qdh (by omega)]; exact R.gx.2.1 k (by omega)) hn hw hs hc1 hb1) g_L_X1_holdsPossible hd_X1_holdsPossible ⟨Nat.le_of_ble_eq_true rfl, Nat.le_of_ble_eq_true rfl⟩ ⟨by show _ ≤ 600130; omega, by show _ ≤ 7301080; omega⟩ hP hD hK hS hZ (List.sublist_append_left _ _) 0 rfl rfl hl.1 rfl (Nat.le_of_ble_eq_true rfl) dL_law_352 (fun r H locs hq hP hS => ?_)
                                obtain rfl := hq
                                refine ifB_eq (tgt := 398) hx hb dL_law_355 (by decide) (fun c_355 => absurd c_355 (by rw [R.hold_now p k]; decide)) (fun c_355 => ?_)
                                refine lv_aload_n hx hb dL_law_358 rfl (lv_at hl 10 rfl) ?_
                                refine lv_iload hx hb dL_law_359 (lv_at hl 3 rfl) ?_
                                refine lv_iload hx hb dL_law_361 (lv_at hl 1 rfl) ?_
                                refine call_ViF (As := [.int (nI p), .int (nI k)]) (rest := []) (wr := [(q75, .inl (cZ, n, .inl (fun k => bI ((upN wa p (cert wn (s p) p (Lof hf c1))) k)))), (q69, .inl (cI, 3, .inl (fun k => nI ((upN f (qd wn p) ((f (qd wn p)) + 1)) k))))] ++ (sW cI cZ cS cW a0 b1 b2 b3 b4 n m tn sl bg ht rs sn rw wy o)) S (m_X1_knowsCertain q0 h1 h2 h3 h4 h5 h6 n wn t tc sc uw c1 c2 s ow hf tf p k (by omega) (by omega) hn hw hs hc1 hb1) g_L_X1_knowsCertain hd_X1_knowsCertain ⟨Nat.le_of_ble_eq_true rfl, Nat.le_of_ble_eq_true rfl⟩ ⟨by show _ ≤ 600130; omega, by show _ ≤ 7301080; omega⟩ hP hD hK hS hZ 0 rfl rfl hl.1 rfl (Nat.le_of_ble_eq_true rfl) dL_law_363 (fun r u H locs hq hP hD hS => ?_)
                                obtain ⟨rfl, og3, rfl⟩ := hq
                                have hP : va_P (dC, dI) vwCl (gW cI q0 h1 h2 h3 h4 h5 h6 h1 h2 n wn t tc sc uw c1 c2 s og3 hf tf ++ ([(q75, .inl (cZ, n, .inl (fun k => bI ((upN wa p (cert wn (s p) p (Lof hf c1))) k)))), (q69, .inl (cI, 3, .inl (fun k => nI ((upN f (qd wn p) ((f (qd wn p)) + 1)) k))))] ++ (sW cI cZ cS cW a0 b1 b2 b3 b4 n m tn sl bg ht rs sn rw wy o))) H := hP
                                have hD : va_D A (gW cI q0 h1 h2 h3 h4 h5 h6 h1 h2 n wn t tc sc uw c1 c2 s og3 hf tf ++ ([(q75, .inl (cZ, n, .inl (fun k => bI ((upN wa p (cert wn (s p) p (Lof hf c1))) k)))), (q69, .inl (cI, 3, .inl (fun k => nI ((upN f (qd wn p) ((f (qd wn p)) + 1)) k))))] ++ (sW cI cZ cS cW a0 b1 b2 b3 b4 n m tn sl bg ht rs sn rw wy o))) := hD
                                have k378 : ∀ (H : Heap) (locs : List Loc), va_P (dC, dI) vwCl (gW cI q0 h1 h2 h3 h4 h5 h6 h1 h2 n wn t tc sc uw c1 c2 s og3 hf tf ++ ([(q75, .inl (cZ, n, .inl (fun k => bI ((upN wa p (cert wn (s p) p (Lof hf c1))) k)))), (q69, .inl (cI, 3, .inl (fun k => nI ((upN f (qd wn p) ((f (qd wn p)) + 1)) k))))] ++ (sW cI cZ cS cW a0 b1 b2 b3 b4 n m tn sl bg ht rs sn rw wy o))) H → va_S A sx.heap H locs → W pr l ev room_1 sx mi ag bl me cd H locs (4707 + tm * 264 + 261 + 1 + 1) (37930 + tm * 2400 + 2100 + 3 + n) Q (F0 mi 378 ls []) := by
                                  intro H locs hP hS
                                  refine lv_aload_n hx hb dL_law_378 rfl (lv_at hl 10 rfl) ?_
                                  refine lv_iload hx hb dL_law_379 (lv_at hl 1 rfl) ?_
                                  refine call_VpS (As := [.int (nI k)]) (rest := []) S (m_X1_isKnownToAll q0 h1 h2 h3 h4 h5 h6 n wn t tc sc uw c1 c2 s og3 hf tf k (by omega) hn hw hs hc1 hb1) g_L_X1_isKnownToAll hd_X1_isKnownToAll ⟨Nat.le_of_ble_eq_true rfl, Nat.le_of_ble_eq_true rfl⟩ ⟨by show _ ≤ 600130; omega, by show _ ≤ 7301080; omega⟩ hP hD hK hS hZ (List.sublist_append_left _ _) 0 rfl rfl hl.1 rfl (Nat.le_of_ble_eq_true rfl) dL_law_381 (fun r H locs hq hP hS => ?_)
                                  obtain rfl := hq
                                  have k400 : ∀ (H : Heap) (locs : List Loc), va_P (dC, dI) vwCl (gW cI q0 h1 h2 h3 h4 h5 h6 h1 h2 n wn t tc sc uw c1 c2 s og3 hf tf ++ ([(q75, .inl (cZ, n, .inl (fun k => bI ((upN wa p (cert wn (s p) p (Lof hf c1))) k)))), (q69, .inl (cI, 3, .inl (fun k => nI ((upN f (qd wn p) ((f (qd wn p)) + 1)) k))))] ++ (sW cI cZ cS cW a0 b1 b2 b3 b4 n m tn sl bg ht rs sn rw wy o))) H → va_S A sx.heap H locs → W pr l ev room_1 sx mi ag bl me cd H locs (4707 + tm * 264 + 261 + 1 + 1) (37930 + tm * 2400 + 2100 + 3 + n) Q (F0 mi 400 ls []) := by
                                    intro H locs hP hS
                                    refine lv_iconst (v := nI 0) hx hb dL_law_400 (by decide) ?_
                                    refine lv_istore (lv' := [(16, .int (nI 0)), (15, .int (bI (seeN s p k))), (14, .int (nI k)), (7, .int (nI ce2)), (10, .int (nI p)), (9, .ref q75), (8, .ref q69), (6, .int (nI c1)), (5, .int (nI n)), (3, .int (nI tm)), (2, .ref a0), (1, .ref q0), (0, .ref b)]) hx hb dL_law_401 hl (by decide) rfl (fun ls hl => ?_)
                                    refine lv_iconst (v := nI 0) hx hb dL_law_403 (by decide) ?_
                                    refine lv_istore (lv' := [(17, .int (nI 0)), (16, .int (nI 0)), (15, .int (bI (seeN s p k))), (14, .int (nI k)), (7, .int (nI ce2)), (10, .int (nI p)), (9, .ref q75), (8, .ref q69), (6, .int (nI c1)), (5, .int (nI n)), (3, .int (nI tm)), (2, .ref a0), (1, .ref q0), (0, .ref b)]) hx hb dL_law_404 hl (by decide) rfl (fun ls hl => ?_)
                                    have lp406 : ∀ (kf : Nat) (co : Nat) (sr : Nat), 3 < co + kf → (co ≤ 3) → (sr = srtN (pcol wn (s p) k (Lof hf c1)) co) → ∀ (H : Heap) (locs : List Loc), va_P (dC, dI) vwCl (gW cI q0 h1 h2 h3 h4 h5 h6 h1 h2 n wn t tc sc uw c1 c2 s og3 hf tf ++ ([(q75, .inl (cZ, n, .inl (fun k => bI ((upN wa p (cert wn (s p) p (Lof hf c1))) k)))), (q69, .inl (cI, 3, .inl (fun k => nI ((upN f (qd wn p) ((f (qd wn p)) + 1)) k))))] ++ (sW cI cZ cS cW a0 b1 b2 b3 b4 n m tn sl bg ht rs sn rw wy o))) H → va_D A (gW cI q0 h1 h2 h3 h4 h5 h6 h1 h2 n wn t tc sc uw c1 c2 s og3 hf tf ++ ([(q75, .inl (cZ, n, .inl (fun k => bI ((upN wa p (cert wn (s p) p (Lof hf c1))) k)))), (q69, .inl (cI, 3, .inl (fun k => nI ((upN f (qd wn p) ((f (qd wn p)) + 1)) k))))] ++ (sW cI cZ cS cW a0 b1 b2 b3 b4 n m tn sl bg ht rs sn rw wy o))) → va_S A sx.heap H locs → ∀ ls : Array Slot, lv_has ls 18 [(17, .int (nI co)), (16, .int (nI sr)), (14, .int (nI k)), (7, .int (nI ce2)), (10, .int (nI p)), (9, .ref q75), (8, .ref q69), (6, .int (nI c1)), (5, .int (nI n)), (3, .int (nI tm)), (2, .ref a0), (1, .ref q0), (0, .ref b)] → W pr l ev room_1 sx mi ag bl me cd H locs (4707 + tm * 264 + 261 + 1 + 1) (37930 + tm * 2400 + 2100 + 3 + n) Q (F0 mi 406 ls []) := by
                                      intro kf
                                      induction kf with
                                      | zero => intro co sr hkf hco hsr; exact absurd hkf (by omega)
                                      | succ kf ih406 =>
                                        intro co sr hkf hco hsr H locs hP hD hS ls hl
                                        refine lv_iload hx hb dL_law_406 (lv_at hl 0 rfl) ?_
                                        refine lv_iconst (v := nI 3) hx hb dL_law_408 (by decide) ?_
                                        refine icN_ge (tgt := 441) hx hb dL_law_409 (by decide) (by omega) (by omega) (fun c_409 => ?_) (fun c_409 => ?_)
                                        · refine lv_aload_n hx hb dL_law_441 rfl (lv_at hl 11 rfl) ?_
                                          refine lv_iload hx hb dL_law_442 (lv_at hl 4 rfl) ?_
                                          refine lv_iload hx hb dL_law_444 (lv_at hl 2 rfl) ?_
                                          refine call_VpS (As := [.int (nI p), .int (nI k)]) (rest := []) S (m_X1_knowsHatOf q0 h1 h2 h3 h4 h5 h6 n wn t tc sc uw c1 c2 s og3 hf tf p k (by omega) (by omega) hn hw hs hc1 hb1) g_L_X1_knowsHatOf hd_X1_knowsHatOf ⟨Nat.le_of_ble_eq_true rfl, Nat.le_of_ble_eq_true rfl⟩ ⟨by show _ ≤ 600130; omega, by show _ ≤ 7301080; omega⟩ hP hD hK hS hZ (List.sublist_append_left _ _) 0 rfl rfl hl.1 rfl (Nat.le_of_ble_eq_true rfl) dL_law_446 (fun r H locs hq hP hS => ?_)
                                          obtain rfl := hq
                                          refine lv_iload hx hb dL_law_449 (lv_at hl 1 rfl) ?_
                                          refine lv_iconst (v := nI 1) hx hb dL_law_451 (by decide) ?_
                                          refine tern_eqN hx hb dL_law_452 dL_law_455 dL_law_456 dL_law_459 (by decide) (by decide) (by rw [hsr]; have := srtN_le (pcol wn (s p) k (Lof hf c1)) co; omega) (by omega) ?_
                                          refine icB_eq (tgt := 465) hx hb dL_law_460 (by decide) (fun c_460 => ?_) (fun c_460 => absurd c_460 (fun e9 => e9 (by rw [R.sorts p (by omega), hsr, show co = 3 by omega])))
                                          refine lv_iinc (v := nI (k + 1)) (lv' := [(14, .int (nI (k + 1))), (17, .int (nI co)), (16, .int (nI sr)), (7, .int (nI ce2)), (10, .int (nI p)), (9, .ref q75), (8, .ref q69), (6, .int (nI c1)), (5, .int (nI n)), (3, .int (nI tm)), (2, .ref a0), (1, .ref q0), (0, .ref b)]) hx hb dL_law_465 hl (k := 2) rfl (nI_add _ _) (by decide) rfl (fun ls hl => ?_)
                                          refine lv_goto (tgt := 301) hx hb dL_law_468 (by decide) ?_
                                          exact ih301 (k + 1) _ (by omega) (by omega) _ _ hP hD hS _ (lv_sub hl [0, 3, 4, 5, 6, 7, 8, 9, 10, 11, 12] rfl)
                                        · refine lv_iload hx hb dL_law_412 (lv_at hl 1 rfl) ?_
                                          refine lv_aload_n hx hb dL_law_414 rfl (lv_at hl 11 rfl) ?_
                                          refine lv_iload hx hb dL_law_415 (lv_at hl 4 rfl) ?_
                                          refine lv_iload hx hb dL_law_417 (lv_at hl 2 rfl) ?_
                                          refine lv_iload hx hb dL_law_419 (lv_at hl 0 rfl) ?_
                                          refine call_VpS (As := [.int (nI p), .int (nI k), .int (nI co)]) (rest := [.int (nI sr)]) S (m_X1_holdsPossible q0 h1 h2 h3 h4 h5 h6 n wn t tc sc uw c1 c2 s og3 hf tf p k co (by omega) (by omega) (by omega) hn hw hs hc1 hb1) g_L_X1_holdsPossible hd_X1_holdsPossible ⟨Nat.le_of_ble_eq_true rfl, Nat.le_of_ble_eq_true rfl⟩ ⟨by show _ ≤ 600130; omega, by show _ ≤ 7301080; omega⟩ hP hD hK hS hZ (List.sublist_append_left _ _) 0 rfl rfl hl.1 rfl (Nat.le_of_ble_eq_true rfl) dL_law_421 (fun r H locs hq hP hS => ?_)
                                          obtain rfl := hq
                                          refine tern_n hx hb dL_law_424 dL_law_427 dL_law_428 dL_law_431 (by decide) (by decide) ?_
                                          refine lv_iadd hx hb dL_law_432 ?_
                                          refine W_i (y := nI (sr + (if (!((pcol wn (s p) k (Lof hf c1) &&& 1 * 2 ^ co) == 0)) = true then 1 else 0))) (nI_add _ _) ?_
                                          refine lv_istore (lv' := [(16, .int (nI (sr + (if (!((pcol wn (s p) k (Lof hf c1) &&& 1 * 2 ^ co) == 0)) = true then 1 else 0)))), (17, .int (nI co)), (14, .int (nI k)), (7, .int (nI ce2)), (10, .int (nI p)), (9, .ref q75), (8, .ref q69), (6, .int (nI c1)), (5, .int (nI n)), (3, .int (nI tm)), (2, .ref a0), (1, .ref q0), (0, .ref b)]) hx hb dL_law_433 hl (by decide) rfl (fun ls hl => ?_)
                                          refine lv_iinc (v := nI (co + 1)) (lv' := [(17, .int (nI (co + 1))), (16, .int (nI (sr + (if (!((pcol wn (s p) k (Lof hf c1) &&& 1 * 2 ^ co) == 0)) = true then 1 else 0)))), (14, .int (nI k)), (7, .int (nI ce2)), (10, .int (nI p)), (9, .ref q75), (8, .ref q69), (6, .int (nI c1)), (5, .int (nI n)), (3, .int (nI tm)), (2, .ref a0), (1, .ref q0), (0, .ref b)]) hx hb dL_law_435 hl (k := 1) rfl (nI_add _ _) (by decide) rfl (fun ls hl => ?_)
                                          refine lv_goto (tgt := 406) hx hb dL_law_438 (by decide) ?_
                                          exact ih406 (co + 1) _ (by omega) (by omega) (by rw [hsr]; rfl) _ _ hP hD hS _ (lv_sub hl [0, 1, 2, 3, 4, 5, 6, 7, 8, 9, 10, 11, 12] rfl)
                                    exact lp406 4 0 0 (by omega) (by omega) rfl _ _ hP hD hS _ (lv_sub hl [0, 1, 3, 4, 5, 6, 7, 8, 9, 10, 11, 12, 13] rfl)
                                  refine ifB_eq (tgt := 400) hx hb dL_law_384 (by decide) (fun c_384 => ?_) (fun c_384 => ?_)
                                  · exact k400 _ _ hP hS
                                  · refine lv_aload_n hx hb dL_law_387 rfl (lv_at hl 10 rfl) ?_
                                    refine lv_iload hx hb dL_law_388 (lv_at hl 3 rfl) ?_
                                    refine lv_iload hx hb dL_law_390 (lv_at hl 1 rfl) ?_
                                    refine call_VpS (As := [.int (nI p), .int (nI k)]) (rest := []) S (m_X1_knowsHatOf q0 h1 h2 h3 h4 h5 h6 n wn t tc sc uw c1 c2 s og3 hf tf p k (by omega) (by omega) hn hw hs hc1 hb1) g_L_X1_knowsHatOf hd_X1_knowsHatOf ⟨Nat.le_of_ble_eq_true rfl, Nat.le_of_ble_eq_true rfl⟩ ⟨by show _ ≤ 600130; omega, by show _ ≤ 7301080; omega⟩ hP hD hK hS hZ (List.sublist_append_left _ _) 0 rfl rfl hl.1 rfl (Nat.le_of_ble_eq_true rfl) dL_law_392 (fun r H locs hq hP hS => ?_)
                                    obtain rfl := hq
                                    refine ifB_ne (tgt := 400) hx hb dL_law_395 (by decide) (fun c_395 => ?_) (fun c_395 => absurd c_395 (by rw [R.all_knw (s p) c_384]; decide))
                                    exact k400 _ _ hP hS
                                refine ifB_eq (tgt := 378) hx hb dL_law_366 (by decide) (fun c_366 => ?_) (fun c_366 => ?_)
                                · exact k378 _ _ hP hS
                                · refine lv_aload_n hx hb dL_law_369 rfl (lv_at hl 10 rfl) ?_
                                  refine lv_iload hx hb dL_law_370 (lv_at hl 1 rfl) ?_
                                  refine call_VpS (As := [.int (nI k)]) (rest := []) S (m_X1_isCertain q0 h1 h2 h3 h4 h5 h6 n wn t tc sc uw c1 c2 s og3 hf tf k (by omega) hn hw hs hc1 hb1) g_L_X1_isCertain hd_X1_isCertain ⟨Nat.le_of_ble_eq_true rfl, Nat.le_of_ble_eq_true rfl⟩ ⟨by show _ ≤ 600130; omega, by show _ ≤ 7301080; omega⟩ hP hD hK hS hZ (List.sublist_append_left _ _) 0 rfl rfl hl.1 rfl (Nat.le_of_ble_eq_true rfl) dL_law_372 (fun r H locs hq hP hS => ?_)
                                  obtain rfl := hq
                                  refine ifB_eq (tgt := 398) hx hb dL_law_375 (by decide) (fun c_375 => absurd c_375 (by rw [R.sure_cert c_366]; decide)) (fun c_375 => ?_)
                                  exact k378 _ _ hP hS
                              refine ifB_eq (tgt := 341) hx hb dL_law_320 (by decide) (fun c_320 => ?_) (fun c_320 => ?_)
                              · exact k341 _ _ hP hS
                              · refine lv_iload hx hb dL_law_323 (lv_at hl 3 rfl) ?_
                                refine lv_iload hx hb dL_law_325 (lv_at hl 1 rfl) ?_
                                refine icN_eq (tgt := 398) hx hb dL_law_327 (by decide) (by omega) (by omega) (fun c_327 => absurd c_327 (R.see_ne (by omega) (by omega) c_320)) (fun c_327 => ?_)
                                refine lv_aload_n hx hb dL_law_330 rfl (lv_at hl 10 rfl) ?_
                                refine lv_iload hx hb dL_law_331 (lv_at hl 3 rfl) ?_
                                refine lv_iload hx hb dL_law_333 (lv_at hl 1 rfl) ?_
                                refine call_VpS (As := [.int (nI p), .int (nI k)]) (rest := []) S (m_X1_knowsHatOf q0 h1 h2 h3 h4 h5 h6 n wn t tc sc uw c1 c2 s ow hf tf p k (by omega) (by omega) hn hw hs hc1 hb1) g_L_X1_knowsHatOf hd_X1_knowsHatOf ⟨Nat.le_of_ble_eq_true rfl, Nat.le_of_ble_eq_true rfl⟩ ⟨by show _ ≤ 600130; omega, by show _ ≤ 7301080; omega⟩ hP hD hK hS hZ (List.sublist_append_left _ _) 0 rfl rfl hl.1 rfl (Nat.le_of_ble_eq_true rfl) dL_law_335 (fun r H locs hq hP hS => ?_)
                                obtain rfl := hq
                                refine ifB_eq (tgt := 398) hx hb dL_law_338 (by decide) (fun c_338 => absurd c_338 (by rw [R.see_knw (by omega) (by omega) c_320]; decide)) (fun c_338 => ?_)
                                exact k341 _ _ hP hS
                        exact lp301 (n + 1) 0 _ (by omega) (by omega) _ _ hP hD hS _ (lv_sub hl [0, 1, 5, 6, 7, 8, 9, 10, 11, 12, 13] rfl)
                      refine icN_ne (tgt := 264) hx hb dL_law_253 (by decide) (by omega) (by omega) (fun c_253 => ?_) (fun c_253 => ?_)
                      · exact k264 _ _ hP hS
                      · refine lv_aload hx hb dL_law_256 (lv_at hl 5 rfl) ?_
                        refine lv_iload hx hb dL_law_258 (lv_at hl 4 rfl) ?_
                        refine za_ld hx hb hK hP 7 1 rfl rfl (j := p) (by omega) (by omega) dL_law_260 ?_
                        refine W_i (y := bI (cert wn (s p) p (Lof hf c1))) (by rw [upN_s]) ?_
                        refine ifB_eq (tgt := 296) hx hb dL_law_261 (by decide) (fun c_261 => absurd c_261 (by rw [R.one_cert c_253]; decide)) (fun c_261 => ?_)
                        exact k264 _ _ hP hS
                    refine ifB_eq (tgt := 250) hx hb dL_law_239 (by decide) (fun c_239 => ?_) (fun c_239 => ?_)
                    · exact k250 _ _ hP hS
                    · refine lv_aload hx hb dL_law_242 (lv_at hl 5 rfl) ?_
                      refine lv_iload hx hb dL_law_244 (lv_at hl 4 rfl) ?_
                      refine za_ld hx hb hK hP 7 1 rfl rfl (j := p) (by omega) (by omega) dL_law_246 ?_
                      refine W_i (y := bI (cert wn (s p) p (Lof hf c1))) (by rw [upN_s]) ?_
                      refine ifB_eq (tgt := 296) hx hb dL_law_247 (by decide) (fun c_247 => absurd c_247 (by have h9 : cert wn (s p) p (Lof hf c1) = true := R.all_knw (s p) c_239; rw [h9]; decide)) (fun c_247 => ?_)
                      exact k250 _ _ hP hS
                  · refine lv_iload hx hb dL_law_118 (lv_at hl 1 rfl) ?_
                    refine lv_aload_n hx hb dL_law_120 rfl (lv_at hl 11 rfl) ?_
                    refine lv_iload hx hb dL_law_121 (lv_at hl 3 rfl) ?_
                    refine lv_iload hx hb dL_law_123 (lv_at hl 0 rfl) ?_
                    refine call_VpS (As := [.int (nI p), .int (nI co)]) (rest := [.int (nI sm)]) S (m_X1_openWaysWith q0 h1 h2 h3 h4 h5 h6 n wn t tc sc uw c1 c2 s ow hf tf p co (by omega) (by omega) hn hw hs hc1 hb1) g_L_X1_openWaysWith hd_X1_openWaysWith ⟨Nat.le_of_ble_eq_true rfl, Nat.le_of_ble_eq_true rfl⟩ ⟨by show _ ≤ 600130; omega, by show _ ≤ 7301080; omega⟩ hP hD hK hS hZ (List.sublist_append_left _ _) 0 rfl rfl hl.1 rfl (Nat.le_of_ble_eq_true rfl) dL_law_125 (fun r H locs hq hP hS => ?_)
                    obtain rfl := hq
                    refine lv_iadd hx hb dL_law_128 ?_
                    refine W_i (y := nI (sm + ((Lof hf c1).countP (fun x => qd x p == co)))) (nI_add _ _) ?_
                    refine lv_istore (lv' := [(12, .int (nI (sm + ((Lof hf c1).countP (fun x => qd x p == co))))), (13, .int (nI co)), (11, .int (nI (qd wn p))), (10, .int (nI p)), (9, .ref q75), (8, .ref q69), (7, .int (nI ce)), (6, .int (nI c1)), (5, .int (nI n)), (3, .int (nI tm)), (2, .ref a0), (1, .ref q0), (0, .ref b)]) hx hb dL_law_129 hl (by decide) rfl (fun ls hl => ?_)
                    refine lv_iinc (v := nI (co + 1)) (lv' := [(13, .int (nI (co + 1))), (12, .int (nI (sm + ((Lof hf c1).countP (fun x => qd x p == co))))), (11, .int (nI (qd wn p))), (10, .int (nI p)), (9, .ref q75), (8, .ref q69), (7, .int (nI ce)), (6, .int (nI c1)), (5, .int (nI n)), (3, .int (nI tm)), (2, .ref a0), (1, .ref q0), (0, .ref b)]) hx hb dL_law_131 hl (k := 1) rfl (nI_add _ _) (by decide) rfl (fun ls hl => ?_)
                    refine lv_goto (tgt := 112) hx hb dL_law_134 (by decide) ?_
                    exact ih112 (co + 1) _ (by omega) (by omega) (by rw [hsm]; rfl) _ _ hP hD hS _ (lv_sub hl [0, 1, 2, 3, 4, 5, 6, 7, 8, 9, 10, 11, 12] rfl)
              exact lp112 4 0 0 (by omega) (by omega) rfl _ _ hP hD hS _ (lv_sub hl [0, 1, 2, 3, 4, 5, 6, 7, 8, 9, 10, 11, 12] rfl)
        exact lp82 (n + 1) 0 0 _ _ _ _ _ (by omega) (by omega) rfl (fun c hc => rfl) (fun q hq => absurd hq (by omega)) _ _ hP hD hS _ (lv_sub hl [0, 1, 2, 3, 4, 5, 7, 8, 9, 10] rfl)
  refine W.widen (k := 4707 + 0 * 264) (n := 37930 + 0 * 2400) (by omega) (by omega) ?_
  exact lp22 17 0 _ _ _ _ _ _ _ _ _ _ _ _ _ _ _ _ _ _ _ _ _ _ _ _ _ _ (by omega) (by omega) R h0n (by omega) _ _ hP hD hS _ (lv_sub hl [0, 1, 2, 3] rfl)

end
