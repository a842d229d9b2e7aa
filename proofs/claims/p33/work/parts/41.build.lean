/-! a cell of the script; a game that cells choose -/
theorem q_c_L_build : Cond.code yL_build cL_build 6 (some (.object "BorrowedHatsLaw$Sim")) ∈ bw := bw_of 509 (by decide +kernel) (by decide +kernel)
abbrev ws_L_build : List Cond := Cond.code yL_build cL_build 6 (some (.object "BorrowedHatsLaw$Sim")) :: bw
theorem g_L_L_build : GoodIn bw (va_wsS RL 104 yL_build ws_L_build) := bw_S q_ml_L_104 q_st_L_build q_in_L q_c_L_build
def cSc (b L : Nat) (xs : Nat → Int32) (av : List Value) : Array Value → State → Prop := va_Pc av (fun U => va_X b L xs U U.heap ∧ b < U.heap.size)
theorem cSc_blind {b L : Nat} {xs : Nat → Int32} {av : List Value} : FrameBlind (cSc b L xs av) := fun a U g mk q => by
  obtain ⟨q0, q1, q2⟩ := q
  exact ⟨q0, va_X.moved (u := U) (U := U.calling g mk a) (Vm.Alike.refl U.vm) q1, q2⟩
theorem wIn_nil (q : Nat) : ¬ wIn [] q := by simp [wIn]
set_option maxHeartbeats 4000000 in
set_option maxRecDepth 100000 in
theorem m_L_cell {l : Launch} {D : va_G} (b L : Nat) (xs : Nat → Int32) (k : Nat) (hL : L < 2 ^ 31) (hk : k < 2 ^ 31) : Met l yL_cell ws_L_cell (rmB 0 0) (cSc b L xs [.ref b, .int (nI k)]) (va_Qi (fun (_ : Int32) (u : va_W) => u = []) (cB D []) (wIn [])) 0 0 (wIn []) := by
  refine Met.ofW (cc := cL_cell) (maxL := 2) (ret := some .int) (by decide +kernel) rfl ?_
  intro p e s m args below meth c s₁ B hml hv
  obtain ⟨rfl, hX, hbl⟩ := hv
  have hts := atoms_spec (ws := ws_L_cell) B.pre
  have hts : ∀ w ∈ bw, w.before _ s = true := fun w h => hts w (List.mem_cons_of_mem _ h)
  have hx := B.exec
  have hb : c.code = cL_cell := B.bytes
  have hown : s.vm.findClass RL = some m.cls := findClass_of_methodNamed B.named
  have hbA := wIn_nil b
  have hS : va_S (wIn []) s.heap s.heap [] := va_S.rf
  rw [lg_entry_eq]
  have hl := lv_entry ([.ref b, .int (nI k)]) (n := 2) (Nat.le_of_ble_eq_true rfl)
  generalize (lg_sl ([.ref b, .int (nI k)]) ++ List.replicate (2 - (lg_sl ([.ref b, .int (nI k)])).length) Slot.unset).toArray = ls at hl ⊢
  have hl : lv_has ls 2 [(0, .ref b), (1, .int (nI k))] := hl
  refine lv_iload_n hx hb dL_cell_0 rfl (lv_at hl 1 rfl) ?_
  refine lv_aload_n hx hb dL_cell_1 rfl (lv_at hl 0 rfl) ?_
  refine va_slen hx hb hX hbl hbA hS dL_cell_2 ?_
  refine icN_ge (tgt := 12) (u := k) (v := L) hx hb dL_cell_3 (by decide) hk hL (fun c_3 => ?_) (fun c_3 => ?_)
  · refine lv_ldc hx hb hown (hts _ q_k_L_8) dL_cell_12 ?_
    refine lv_iload_n hx hb dL_cell_14 rfl (lv_at hl 1 rfl) ?_
    refine lv_iconst (v := nI 3) hx hb dL_cell_15 (by decide) ?_
    refine lv_iadd hx hb dL_cell_16 ?_
    refine lv_imul hx hb dL_cell_17 ?_
    exact W.zret B.exec B.bytes B.returns rfl (fun t ht hW => ⟨⟨_, [], rfl, rfl, va_P_iff.mpr (fun q hq => by cases hq), List.Perm.refl _⟩, hS.F ht⟩) hS.2.2 dL_cell_18 B.notSynchronized
  · refine lv_aload_n hx hb dL_cell_6 rfl (lv_at hl 0 rfl) ?_
    refine lv_iload_n hx hb dL_cell_7 rfl (lv_at hl 1 rfl) ?_
    refine va_sld hx hb hX hbl hbA hS (vp_in_nI c_3 hL) dL_cell_8 ?_
    refine lv_goto (tgt := 18) hx hb dL_cell_9 (by decide) ?_
    exact W.zret B.exec B.bytes B.returns rfl (fun t ht hW => ⟨⟨_, [], rfl, rfl, va_P_iff.mpr (fun q hq => by cases hq), List.Perm.refl _⟩, hS.F ht⟩) hS.2.2 dL_cell_18 B.notSynchronized
section
variable {p : Program} {l : Launch} {e : Env} {R : Room} {s : State} {m : MethodId} {args : Array Value} {below : List Frame} {meth : Method} {c : Code} {H : Heap} {locs : List Loc} {cells slots : Nat} {Q : State → Prop}
variable {pc : Nat} {ls : Array Slot} {rest st0 : List Value} {cc : ByteArray} {D : va_G} {A0 : Nat → Prop} {ws : va_W} {nL : Nat}
theorem call_cell {b L k : Nat} {xs : Nat → Int32} (S : CallFix p m c cc nL s args bw RL) (hX0 : va_X b L xs s s.heap) (hbl : b < s.heap.size) (hbA : ¬ A0 b) (hL : L < 2 ^ 31) (hk : k < 2 ^ 31) (hR : 0 + 1 ≤ R.frames ∧ 8 + (2 + 11) + 0 ≤ R.locals) (hroom : cells ≤ R.cells ∧ slots ≤ R.slots) (hP : va_P D vwCl ws H) (hD : va_D A0 ws) (hS : va_S A0 s.heap H locs)
    (hls : ls.size = nL) (hst : st0 = [Value.ref b, Value.int (nI k)].reverse ++ rest) (hrest : (rest.map fun v => v.category).sum ≤ 8) (hdg : decode cc pc = .ok (.invokestatic 96, 3))
    (kk : ∀ (r : Int32) (H1 : Heap) (locs1 : List Loc), va_P D vwCl ws H1 → va_S A0 s.heap H1 locs1 → W p l e R s m args below meth c H1 locs1 cells slots Q (F0 m (pc + 3) ls (.int r :: rest))) :
    W p l e R s m args below meth c H locs cells slots Q (F0 m pc ls st0) := by
  refine va_calli (va_runS (As := [Value.ref b, Value.int (nI k)]) (rest := rest) S (m_L_cell (D := D) b L xs k hL hk) (va_cwS 2 S.2.2.2.2 g_L_L_cell rfl rfl rfl hd_L_cell hR) ⟨cSc_blind, fun U hU hW => ⟨rfl, by rw [hU]; exact (hX0.kept (hS.2.1 b hbl hbA)).moved hW.alike, by rw [hU]; exact Nat.lt_of_lt_of_le hbl hS.1⟩⟩ rfl rfl hls hst (lv_room hrest) hdg hroom) hS (fun q _ h => absurd h (wIn_nil q)) (fun q h => absurd h (wIn_nil q)) (fun r u t H1 locs1 ht hvm hw hB hz1 hk1 hS1 => ?_)
  exact kk r H1 locs1 (my_sameS hP hD (List.nil_sublist ws) hk1 (va_P_iff.mpr (fun q hq => by cases hq))) hS1
end
def cPs (b L : Nat) (xs : Nat → Int32) (sz : Nat) (D : va_G) (ty : List (ClassId × FieldType)) (av : List Value) (w : va_W) : Array Value → State → Prop := va_Pc av (fun U => U.heap.size = sz ∧ va_P D vwCl w U.heap ∧ va_K D vwCl ty U ∧ va_D (fun _ => True) w ∧ zOK U ∧ va_X b L xs U U.heap ∧ b < U.heap.size ∧ ¬ wIn w b)
theorem cPs_blind {b L : Nat} {xs : Nat → Int32} {sz : Nat} {D : va_G} {ty : List (ClassId × FieldType)} {av : List Value} {w : va_W} : FrameBlind (cPs b L xs sz D ty av w) := fun a U g mk q => by
  obtain ⟨q0, qs, qP, qK, qD, qZ, qX, q2⟩ := q
  exact ⟨q0, qs, qP, va_K.moved (u := U) (U := U.calling g mk a) (Vm.Alike.refl U.vm) qK, qD, zOK.warm (s := U) (U := U.calling g mk a) (State.WarmedH.refl U) qZ, va_X.moved (u := U) (U := U.calling g mk a) (Vm.Alike.refl U.vm) qX, q2⟩
abbrev Gr (l : Launch) (y : MethodName) (ws : List Cond) (fr lo mc ms b L : Nat) (xs : Nat → Int32) (sz : Nat) (D : va_G) (ty : List (ClassId × FieldType)) (av : List Value) (w : va_W) (post : Nat × va_W → Prop) : Prop := Met l y ws (rmG fr lo mc ms) (cPs b L xs sz D ty av w) (va_Qr post (fun q a t => a = q.1 ∧ gB D w sz q.2 t) (va_A w sz)) mc ms (va_A w sz)
theorem Gr_of {l : Launch} {y : MethodName} {cc : ByteArray} {n fr lo mc ms sz b L : Nat} {xs : Nat → Int32} {rt : String} {D : va_G} {ty : List (ClassId × FieldType)} {av : List Value} {w : va_W} {post : Nat × va_W → Prop} (hy : plainName y.cls = true) (hn : (lg_sl av).length ≤ n)
    (body : ∀ (p : Program) (e : Env) (s : State) (m : MethodId) (args : Array Value) (below : List Frame) (meth : Method) (c : Code) (Q : State → Prop) (ls : Array Slot) (A : Nat → Prop), CallFix p m c cc n s args bw y.cls → va_P D vwCl w s.heap → va_K D vwCl ty s → va_D A w → (∀ q, s.heap.size ≤ q → A q) → zOK s → va_X b L xs s s.heap → b < s.heap.size → ¬ A b → lv_has ls n (lv_args 0 av) →
      (∀ (a : Nat) (u : va_W) (H : Heap) (locs : List Loc) (ls' : Array Slot) (pc : Nat), decode cc pc = .ok (.areturn, 1) → post (a, u) → va_P D vwCl u H → va_D A u → va_S A s.heap H locs → W p l e (rmG fr lo mc ms) s m args below meth c H locs mc ms Q (F0 m pc ls' [.ref a])) →
      W p l e (rmG fr lo mc ms) s m args below meth c s.heap [] 0 0 Q (F0 m 0 ls [])) : Gr l y (Cond.code y cc n (some (.object rt)) :: bw) fr lo mc ms b L xs sz D ty av w post := by
  refine Met.ofW (cc := cc) (maxL := n) (ret := some (.object rt)) hy rfl ?_
  intro p e s m args below meth c s₁ B hml hv
  obtain ⟨rfl, hsz, hP, hK, hD0, hZ, hX, hbl, hbw⟩ := hv
  subst hsz
  have hts := atoms_spec (ws := Cond.code y cc n (some (.object rt)) :: bw) B.pre
  rw [lg_entry_eq]
  have hbA : ¬ va_A w s.heap.size b := by
    intro h
    exact hbw (va_A_lt h hbl)
  refine body p e s m _ below meth c _ _ (va_A w s.heap.size) ⟨B.exec, B.bytes, hml, findClass_of_methodNamed B.named, fun w h => hts w (List.mem_cons_of_mem _ h)⟩ hP hK (hD0.self (sz := s.heap.size)) (fun q h => Or.inr h) hZ hX hbl hbA (lv_entry av (n := n) hn) ?_
  intro a u H locs ls' pc hdg hpost hPu hDu hS
  exact W.aret (v := .ref a) (rt := .object rt) B.exec B.bytes B.returns (.inl ⟨_, rfl⟩) (.inr ⟨_, rfl⟩) (fun t ht hW => ⟨⟨(a, u), a, rfl, hpost, rfl, by rw [ht]; exact hPu, hDu⟩, hS.F ht⟩) hS.2.2 hdg B.notSynchronized
section
variable {l : Launch} {dC : Nat → ClassId} {dI : Nat → Nat → Nat} {cI cZ cS cW : ClassId}

set_option maxHeartbeats 40000000 in
set_option maxRecDepth 100000 in
theorem m_L_build (h0 h1 h2 h3 h4 h5 h6 b L : Nat) (xs : Nat → Int32) (hL : L < 2 ^ 31) (sz : Nat) : Gr l yL_build ws_L_build 7 170 4700 36400 b L xs sz (dC, dI) (tyL cI cZ cS cW) [.ref h0, .ref b] (gW cI h0 h1 h2 h3 h4 h5 h6 h1 h2 0 0 0 0 0 false 1 0 (fun _ => 0) (fun _ => 0) (upN (fun _ => 0) 0 0) (fun _ => 0)) (fun q => GS cI cZ cS cW h0 h1 h2 h3 h4 h5 h6 q.1 13 q.2) := by
  refine Gr_of (by decide +kernel) (Nat.le_of_ble_eq_true rfl) ?_
  intro pr ev sx mi ag bl me cd Q ls A S hP hK hD hA hZ hX0 hbl hbA hl ret
  obtain ⟨hx, hb, hml, hown, hts⟩ := id S
  have hown : sx.vm.findClass RL = some mi.cls := hown
  have hS : va_S A sx.heap sx.heap [] := va_S.rf
  have hl : lv_has ls 6 [(0, .ref h0), (1, .ref b)] := hl
  refine va_new (ci := 2) (fs := [.int 0, .int 0, .int 0, .int 0, .null, .null, .null, .null]) (C := RX2) (T := TX2) (N := 8) hx hb hts inX2 tyX2 tyX2_ok hown (hts _ q_cl_L_10) (hts _ q_is_X2) (hts _ q_in_X2) hK hP hD hS hA rfl (fun j hj => by rcases (show j = 0 ∨ j = 1 ∨ j = 2 ∨ j = 3 ∨ j = 4 ∨ j = 5 ∨ j = 6 ∨ j = 7 by omega) with rfl | rfl | rfl | rfl | rfl | rfl | rfl | rfl <;> rfl) (by show _ ≤ 4700; omega) (by show _ ≤ 36400; omega) dL_build_0 (fun q0 H hP hD hS => ?_)
  refine lv_dup hx hb dL_build_3 rfl ?_
  refine call_GN (host := RL) (As := []) (rest := [.ref q0]) (wr := gW cI h0 h1 h2 h3 h4 h5 h6 h1 h2 0 0 0 0 0 false 1 0 (fun _ => 0) (fun _ => 0) (upN (fun _ => 0) 0 0) (fun _ => 0)) (wc := [(q0, .inr (2, [.int 0, .int 0, .int 0, .int 0, .null, .null, .null, .null]))]) S (m_X2_init q0 H.size) (bw_c q_c_X2_init) hZ.2.2.2 q_in_X2 q_im_X2_init rfl ⟨by decide +kernel, by decide +kernel, by decide +kernel⟩ ⟨Nat.le_of_ble_eq_true rfl, Nat.le_of_ble_eq_true rfl⟩ ⟨by show _ ≤ 4700; omega, by show _ ≤ 36400; omega⟩ hP hD hK hS hA hZ hl.1 rfl (Nat.le_of_ble_eq_true rfl) dL_build_4 (fun u H locs hq hP hD hS => ?_)
  obtain ⟨b1, b2, b3, b4, ht, rs, sn, rw, wy, o, ho0, rfl⟩ := hq
  have R0 : Rl 0 1 0 0 0 0 false 1 (fun _ => 0) (upN (fun _ => 0) 0 0) 0 0 false ht sn wy o := Rl_0 (rs := rs) (fun w hw => by rw [show w = 0 by omega]; exact ho0)
  have hP : va_P (dC, dI) vwCl (gW cI h0 h1 h2 h3 h4 h5 h6 h1 h2 0 0 0 0 0 false 1 0 (fun _ => 0) (fun _ => 0) (upN (fun _ => 0) 0 0) (fun _ => 0) ++ (sW cI cZ cS cW q0 b1 b2 b3 b4 0 1 0 0 false ht rs sn rw wy o)) H := hP
  have hD : va_D A (gW cI h0 h1 h2 h3 h4 h5 h6 h1 h2 0 0 0 0 0 false 1 0 (fun _ => 0) (fun _ => 0) (upN (fun _ => 0) 0 0) (fun _ => 0) ++ (sW cI cZ cS cW q0 b1 b2 b3 b4 0 1 0 0 false ht rs sn rw wy o)) := hD
  refine lv_astore_n (lv' := [(2, .ref q0), (0, .ref h0), (1, .ref b)]) hx hb dL_build_7 rfl hl (by decide) rfl (fun ls hl => ?_)
  refine lv_iconst (v := nI 1) hx hb dL_build_8 (by decide) ?_
  refine lv_aload_n hx hb dL_build_9 rfl (lv_at hl 2 rfl) ?_
  refine lv_iconst (v := nI 0) hx hb dL_build_10 (by decide) ?_
  refine call_cell (rest := [.int (nI 1)]) (k := 0) S hX0 hbl hbA hL (by omega) ⟨Nat.le_of_ble_eq_true rfl, Nat.le_of_ble_eq_true rfl⟩ ⟨by show _ ≤ 4700; omega, by show _ ≤ 36400; omega⟩ hP hD hS hl.1 rfl (Nat.le_of_ble_eq_true rfl) dL_build_11 (fun r11 H locs hP hS => ?_)
  refine lv_iconst (v := nI 5) hx hb dL_build_14 (by decide) ?_
  refine call_Sp (As := [.int r11, .int (nI 5)]) (rest := [.int (nI 1)]) S (m_L_below r11 5 (by omega) (by omega)) g_L_L_below hd_L_below ⟨Nat.le_of_ble_eq_true rfl, Nat.le_of_ble_eq_true rfl⟩ ⟨by show _ ≤ 4700; omega, by show _ ≤ 36400; omega⟩ hP hD hK hS hZ [] rfl (by decide) hl.1 rfl (Nat.le_of_ble_eq_true rfl) dL_build_15 (fun r H locs hq hP hS => ?_)
  obtain ⟨j5, hj5, rfl⟩ := hq
  refine lv_iadd hx hb dL_build_18 ?_
  refine W_i (y := nI (1 + j5)) (nI_add _ _) ?_
  refine lv_istore_n (lv' := [(3, .int (nI (1 + j5))), (2, .ref q0), (0, .ref h0), (1, .ref b)]) hx hb dL_build_19 rfl hl (by decide) rfl (fun ls hl => ?_)
  refine lv_iconst (v := nI 0) hx hb dL_build_20 (by decide) ?_
  refine lv_istore (lv' := [(4, .int (nI 0)), (3, .int (nI (1 + j5))), (2, .ref q0), (0, .ref h0), (1, .ref b)]) hx hb dL_build_21 hl (by decide) rfl (fun ls hl => ?_)
  have lp23 : ∀ (kf : Nat) (i : Nat) (wn : Nat) (c1 : Nat) (s : Nat → Nat) (hf : Nat → Nat) (b1 : Nat) (b2 : Nat) (b3 : Nat) (b4 : Nat) (m : Nat) (ht : Nat → Nat) (rs : Nat → Nat) (sn : Nat → Nat → Bool) (rw : Nat → Nat) (wy : Nat → Nat → Nat) (o : Nat → Bool), (1 + j5) < i + kf → (i ≤ 1 + j5) → (Rl i m wn 0 0 0 false c1 s hf 0 0 false ht sn wy o) → ∀ (H : Heap) (locs : List Loc), va_P (dC, dI) vwCl (gW cI h0 h1 h2 h3 h4 h5 h6 h1 h2 i wn 0 0 0 false c1 0 s (fun _ => 0) hf (fun _ => 0) ++ (sW cI cZ cS cW q0 b1 b2 b3 b4 i m 0 0 false ht rs sn rw wy o)) H → va_D A (gW cI h0 h1 h2 h3 h4 h5 h6 h1 h2 i wn 0 0 0 false c1 0 s (fun _ => 0) hf (fun _ => 0) ++ (sW cI cZ cS cW q0 b1 b2 b3 b4 i m 0 0 false ht rs sn rw wy o)) → va_S A sx.heap H locs → ∀ ls : Array Slot, lv_has ls 6 [(4, .int (nI i)), (3, .int (nI (1 + j5))), (2, .ref q0), (0, .ref h0), (1, .ref b)] → W pr l ev (rmG 7 170 4700 36400) sx mi ag bl me cd H locs (6 + i * 260) (10 + i * 1800) Q (F0 mi 23 ls []) := by
    intro kf
    induction kf with
    | zero => intro i wn c1 s hf b1 b2 b3 b4 m ht rs sn rw wy o hkf hi R; exact absurd hkf (by omega)
    | succ kf ih23 =>
      intro i wn c1 s hf b1 b2 b3 b4 m ht rs sn rw wy o hkf hi R H locs hP hD hS ls hl
      obtain ⟨hn, hw, hs, hc1, hb1⟩ := R.inv
      refine lv_iload hx hb dL_build_23 (lv_at hl 0 rfl) ?_
      refine lv_iload_n hx hb dL_build_25 rfl (lv_at hl 1 rfl) ?_
      refine icN_ge (tgt := 69) hx hb dL_build_26 (by decide) (by omega) (by omega) (fun c_26 => ?_) (fun c_26 => ?_)
      · refine lv_aload_n hx hb dL_build_69 rfl (lv_at hl 4 rfl) ?_
        refine lv_bipush (v := nI 6) hx hb dL_build_70 (by decide) ?_
        refine call_cell (rest := []) (k := 6) S hX0 hbl hbA hL (by omega) ⟨Nat.le_of_ble_eq_true rfl, Nat.le_of_ble_eq_true rfl⟩ ⟨by show _ ≤ 4700; omega, by show _ ≤ 36400; omega⟩ hP hD hS hl.1 rfl (Nat.le_of_ble_eq_true rfl) dL_build_72 (fun r72 H locs hP hS => ?_)
        refine lv_bipush (v := nI 14) hx hb dL_build_75 (by decide) ?_
        refine call_Sp (As := [.int r72, .int (nI 14)]) (rest := []) S (m_L_below r72 14 (by omega) (by omega)) g_L_L_below hd_L_below ⟨Nat.le_of_ble_eq_true rfl, Nat.le_of_ble_eq_true rfl⟩ ⟨by show _ ≤ 4700; omega, by show _ ≤ 36400; omega⟩ hP hD hK hS hZ [] rfl (by decide) hl.1 rfl (Nat.le_of_ble_eq_true rfl) dL_build_77 (fun r H locs hq hP hS => ?_)
        obtain ⟨n9, hn9, rfl⟩ := hq
        refine lv_istore (lv' := [(4, .int (nI n9)), (3, .int (nI (1 + j5))), (2, .ref q0), (0, .ref h0), (1, .ref b)]) hx hb dL_build_80 hl (by decide) rfl (fun ls hl => ?_)
        refine lv_iconst (v := nI 0) hx hb dL_build_82 (by decide) ?_
        refine lv_istore (lv' := [(5, .int (nI 0)), (4, .int (nI n9)), (3, .int (nI (1 + j5))), (2, .ref q0), (0, .ref h0), (1, .ref b)]) hx hb dL_build_83 hl (by decide) rfl (fun ls hl => ?_)
        have lp85 : ∀ (kf : Nat) (k : Nat) (n : Nat) (wn : Nat) (t : Nat) (tc : Nat) (sc : Nat) (uw : Bool) (c1 : Nat) (c2 : Nat) (s : Nat → Nat) (ow : Nat → Nat) (hf : Nat → Nat) (tf : Nat → Nat) (b1 : Nat) (b2 : Nat) (b3 : Nat) (b4 : Nat) (m : Nat) (tn : Nat) (sl : Nat) (bg : Bool) (ht : Nat → Nat) (rs : Nat → Nat) (sn : Nat → Nat → Bool) (rw : Nat → Nat) (wy : Nat → Nat → Nat) (o : Nat → Bool), n9 < k + kf → (k ≤ n9) → (Rl n m wn t tc sc uw c1 s hf tn sl bg ht sn wy o) → (0 < n) → (tn ≤ k) → ∀ (H : Heap) (locs : List Loc), va_P (dC, dI) vwCl (gW cI h0 h1 h2 h3 h4 h5 h6 h1 h2 n wn t tc sc uw c1 c2 s ow hf tf ++ (sW cI cZ cS cW q0 b1 b2 b3 b4 n m tn sl bg ht rs sn rw wy o)) H → va_D A (gW cI h0 h1 h2 h3 h4 h5 h6 h1 h2 n wn t tc sc uw c1 c2 s ow hf tf ++ (sW cI cZ cS cW q0 b1 b2 b3 b4 n m tn sl bg ht rs sn rw wy o)) → va_S A sx.heap H locs → ∀ ls : Array Slot, lv_has ls 6 [(5, .int (nI k)), (4, .int (nI n9)), (2, .ref q0), (0, .ref h0), (1, .ref b)] → W pr l ev (rmG 7 170 4700 36400) sx mi ag bl me cd H locs (1306 + k * 261) (9010 + k * 2100) Q (F0 mi 85 ls []) := by
          intro kf
          induction kf with
          | zero => intro k n wn t tc sc uw c1 c2 s ow hf tf b1 b2 b3 b4 m tn sl bg ht rs sn rw wy o hkf hk R h0n hT; exact absurd hkf (by omega)
          | succ kf ih85 =>
            intro k n wn t tc sc uw c1 c2 s ow hf tf b1 b2 b3 b4 m tn sl bg ht rs sn rw wy o hkf hk R h0n hT H locs hP hD hS ls hl
            refine lv_iload hx hb dL_build_85 (lv_at hl 0 rfl) ?_
            refine lv_iload hx hb dL_build_87 (lv_at hl 1 rfl) ?_
            refine icN_ge (tgt := 127) hx hb dL_build_89 (by decide) (by omega) (by omega) (fun c_89 => ?_) (fun c_89 => ?_)
            · refine lv_aload_n hx hb dL_build_127 rfl (lv_at hl 2 rfl) ?_
              refine W.widen (k := 4700) (n := 36400) (by omega) (by omega) ?_
              exact ret q0 (gW cI h0 h1 h2 h3 h4 h5 h6 h1 h2 n wn t tc sc uw c1 c2 s ow hf tf ++ (sW cI cZ cS cW q0 b1 b2 b3 b4 n m tn sl bg ht rs sn rw wy o)) _ _ _ _ dL_build_128 ⟨_, _, _, _, _, _, _, _, _, _, _, _, _, _, _, _, _, _, _, _, _, _, _, _, _, _, rfl, R, h0n, by omega⟩ hP hD hS
            · refine lv_aload_n hx hb dL_build_92 rfl (lv_at hl 3 rfl) ?_
              refine lv_aload_n hx hb dL_build_93 rfl (lv_at hl 2 rfl) ?_
              refine lv_aload_n hx hb dL_build_94 rfl (lv_at hl 4 rfl) ?_
              refine lv_iload hx hb dL_build_95 (lv_at hl 0 rfl) ?_
              refine lv_bipush (v := nI 7) hx hb dL_build_97 (by decide) ?_
              refine lv_iadd hx hb dL_build_99 ?_
              refine W_i (y := nI (k + 7)) (nI_add _ _) ?_
              refine lv_bipush (v := nI 16) hx hb dL_build_100 (by decide) ?_
              refine lv_irem hx hb dL_build_102 (nI_ne0 (by omega) (by omega)) ?_
              refine W_i (y := nI ((k + 7) % 16)) (pk_rem (by omega) (by omega) (by omega)) ?_
              refine call_cell (rest := [.ref q0, .ref h0]) (k := (k + 7) % 16) S hX0 hbl hbA hL (by omega) ⟨Nat.le_of_ble_eq_true rfl, Nat.le_of_ble_eq_true rfl⟩ ⟨by show _ ≤ 4700; omega, by show _ ≤ 36400; omega⟩ hP hD hS hl.1 rfl (Nat.le_of_ble_eq_true rfl) dL_build_103 (fun r103 H locs hP hS => ?_)
              refine lv_sipush (v := nI 631) hx hb dL_build_106 (by decide) ?_
              refine lv_iload hx hb dL_build_109 (lv_at hl 0 rfl) ?_
              refine lv_imul hx hb dL_build_111 ?_
              refine W_i (y := nI (631 * k)) (pk_mul _ _) ?_
              refine lv_iadd hx hb dL_build_112 ?_
              refine W_i (y := (r103 + nI (631 * k))) (rfl) ?_
              refine call_SgI (As := [.ref h0, .ref q0, .int (r103 + nI (631 * k))]) (rest := []) (wr := []) (wc := gW cI h0 h1 h2 h3 h4 h5 h6 h1 h2 n wn t tc sc uw c1 c2 s ow hf tf ++ (sW cI cZ cS cW q0 b1 b2 b3 b4 n m tn sl bg ht rs sn rw wy o)) S (m_L_act h0 h1 h2 h3 h4 h5 h6 n wn t tc sc uw c1 c2 s ow hf tf q0 b1 b2 b3 b4 m tn sl bg ht rs sn rw wy o (r103 + nI (631 * k)) R h0n (by omega) H.size) g_L_L_act hd_L_act ⟨Nat.le_of_ble_eq_true rfl, Nat.le_of_ble_eq_true rfl⟩ ⟨by show _ ≤ 4700; omega, by show _ ≤ 36400; omega⟩ hP hD hK hS hA hZ hl.1 rfl (Nat.le_of_ble_eq_true rfl) dL_build_113 (fun r u H locs hq hP hD hS => ?_)
              obtain ⟨rfl, n2, wn2, t2, tc2, sc2, uw2, c12, c22, s2, ow2, hf2, tf2, b12, b22, b32, b42, m2, tn2, sl2, bg2, ht2, rs2, sn2, rw2, wy2, o2, rfl, R2, h0n2, hT2⟩ := hq
              have hP : va_P (dC, dI) vwCl (gW cI h0 h1 h2 h3 h4 h5 h6 h1 h2 n2 wn2 t2 tc2 sc2 uw2 c12 c22 s2 ow2 hf2 tf2 ++ (sW cI cZ cS cW q0 b12 b22 b32 b42 n2 m2 tn2 sl2 bg2 ht2 rs2 sn2 rw2 wy2 o2)) H := hP
              have hD : va_D A (gW cI h0 h1 h2 h3 h4 h5 h6 h1 h2 n2 wn2 t2 tc2 sc2 uw2 c12 c22 s2 ow2 hf2 tf2 ++ (sW cI cZ cS cW q0 b12 b22 b32 b42 n2 m2 tn2 sl2 bg2 ht2 rs2 sn2 rw2 wy2 o2)) := hD
              refine ifN_ne (tgt := 121) hx hb dL_build_116 (by decide) (by omega) (fun c_116 => ?_) (fun c_116 => absurd c_116 (by decide))
              refine lv_iinc (v := nI (k + 1)) (lv' := [(5, .int (nI (k + 1))), (4, .int (nI n9)), (2, .ref q0), (0, .ref h0), (1, .ref b)]) hx hb dL_build_121 hl (k := 0) rfl (nI_add _ _) (by decide) rfl (fun ls hl => ?_)
              refine lv_goto (tgt := 85) hx hb dL_build_124 (by decide) ?_
              refine W.widen (k := 1306 + (k + 1) * 261) (n := 9010 + (k + 1) * 2100) (by omega) (by omega) ?_
              exact ih85 (k + 1) _ _ _ _ _ _ _ _ _ _ _ _ _ _ _ _ _ _ _ _ _ _ _ _ _ _ (by omega) (by omega) R2 h0n2 (by omega) _ _ hP hD hS _ (lv_sub hl [0, 1, 2, 3, 4] rfl)
        refine W.widen (k := 1306 + 0 * 261) (n := 9010 + 0 * 2100) (by omega) (by omega) ?_
        exact lp85 (n9 + 1) 0 _ _ _ _ _ _ _ _ _ _ _ _ _ _ _ _ _ _ _ _ _ _ _ _ _ _ (by omega) (by omega) R (by omega) (by omega) _ _ hP hD hS _ (lv_sub hl [0, 1, 3, 4, 5] rfl)
      · refine lv_aload_n hx hb dL_build_29 rfl (lv_at hl 2 rfl) ?_
        refine lv_aload_n hx hb dL_build_30 rfl (lv_at hl 4 rfl) ?_
        refine lv_iconst (v := nI 1) hx hb dL_build_31 (by decide) ?_
        refine lv_iload hx hb dL_build_32 (lv_at hl 0 rfl) ?_
        refine lv_iadd hx hb dL_build_34 ?_
        refine W_i (y := nI (1 + i)) (nI_add _ _) ?_
        refine call_cell (rest := [.ref q0]) (k := 1 + i) S hX0 hbl hbA hL (by omega) ⟨Nat.le_of_ble_eq_true rfl, Nat.le_of_ble_eq_true rfl⟩ ⟨by show _ ≤ 4700; omega, by show _ ≤ 36400; omega⟩ hP hD hS hl.1 rfl (Nat.le_of_ble_eq_true rfl) dL_build_35 (fun r35 H locs hP hS => ?_)
        refine lv_iconst (v := nI 3) hx hb dL_build_38 (by decide) ?_
        refine call_Sp (As := [.int r35, .int (nI 3)]) (rest := [.ref q0]) S (m_L_below r35 3 (by omega) (by omega)) g_L_L_below hd_L_below ⟨Nat.le_of_ble_eq_true rfl, Nat.le_of_ble_eq_true rfl⟩ ⟨by show _ ≤ 4700; omega, by show _ ≤ 36400; omega⟩ hP hD hK hS hZ [] rfl (by decide) hl.1 rfl (Nat.le_of_ble_eq_true rfl) dL_build_39 (fun r H locs hq hP hS => ?_)
        obtain ⟨co, hco, rfl⟩ := hq
        have hP := hP.sl (u := gW cI h0 h1 h2 h3 h4 h5 h6 h1 h2 i wn 0 0 0 false c1 0 s (fun _ => 0) hf (fun _ => 0) ++ ([(q0, .inr (2, [.int (nI i), .int (nI 0), .int (nI 0), .int (bI false), .ref b1, .ref b2, .ref b3, .ref b4])), (b1, .inl (cI, i, .inl (fun k => nI (ht k)))), (b2, eQ cS i rs)] ++ (rB (fun w0 => eZ cZ i (sn w0)) rs i))) (List.Sublist.append_left (List.Sublist.append (List.Sublist.cons₂ _ (List.Sublist.cons₂ _ (List.Sublist.cons₂ _ (List.nil_sublist _)))) (List.sublist_append_left _ _)) _)
        have hD := hD.sl (u := gW cI h0 h1 h2 h3 h4 h5 h6 h1 h2 i wn 0 0 0 false c1 0 s (fun _ => 0) hf (fun _ => 0) ++ ([(q0, .inr (2, [.int (nI i), .int (nI 0), .int (nI 0), .int (bI false), .ref b1, .ref b2, .ref b3, .ref b4])), (b1, .inl (cI, i, .inl (fun k => nI (ht k)))), (b2, eQ cS i rs)] ++ (rB (fun w0 => eZ cZ i (sn w0)) rs i))) (List.Sublist.append_left (List.Sublist.append (List.Sublist.cons₂ _ (List.Sublist.cons₂ _ (List.Sublist.cons₂ _ (List.nil_sublist _)))) (List.sublist_append_left _ _)) _)
        refine call_VgV (As := [.int (nI co)]) (rest := []) (wr := gW cI h0 h1 h2 h3 h4 h5 h6 h1 h2 i wn 0 0 0 false c1 0 s (fun _ => 0) hf (fun _ => 0)) (wc := [(q0, .inr (2, [.int (nI i), .int (nI 0), .int (nI 0), .int (bI false), .ref b1, .ref b2, .ref b3, .ref b4])), (b1, .inl (cI, i, .inl (fun k => nI (ht k)))), (b2, eQ cS i rs)] ++ (rB (fun w0 => eZ cZ i (sn w0)) rs i)) S (m_X2_add q0 b1 b2 i 0 0 false ht rs sn (.ref b3) (.ref b4) co (by omega) H.size) g_L_X2_add hd_X2_add ⟨Nat.le_of_ble_eq_true rfl, Nat.le_of_ble_eq_true rfl⟩ ⟨by show _ ≤ 4700; omega, by show _ ≤ 36400; omega⟩ hP hD hK hS hA hZ 0 rfl rfl hl.1 rfl (Nat.le_of_ble_eq_true rfl) dL_build_42 (fun u H locs hq hP hD hS => ?_)
        obtain ⟨d1, d2, d3, d4, ht2, rs2, sn2, rw2, wy2, o2, hh1, hh2, hsn2, hwy2, ho2, rfl⟩ := hq
        have hP : va_P (dC, dI) vwCl (gW cI h0 h1 h2 h3 h4 h5 h6 h1 h2 i wn 0 0 0 false c1 0 s (fun _ => 0) hf (fun _ => 0) ++ (sW cI cZ cS cW q0 d1 d2 d3 d4 (i + 1) (3 ^ (i + 1)) 0 0 false ht2 rs2 sn2 rw2 wy2 o2)) H := hP
        have hD : va_D A (gW cI h0 h1 h2 h3 h4 h5 h6 h1 h2 i wn 0 0 0 false c1 0 s (fun _ => 0) hf (fun _ => 0) ++ (sW cI cZ cS cW q0 d1 d2 d3 d4 (i + 1) (3 ^ (i + 1)) 0 0 false ht2 rs2 sn2 rw2 wy2 o2)) := hD
        refine lv_aload_n hx hb dL_build_45 rfl (lv_at hl 3 rfl) ?_
        refine lv_aload_n hx hb dL_build_46 rfl (lv_at hl 2 rfl) ?_
        refine va_get (D := (dC, dI)) (ci := 2) (v := .ref d1) (C := RX2) (T := TX2) (N := 8) hx hb hts inX2 hown hK hP 7 rfl rfl 4 (by decide) (hts _ q_fl_L_54) (fun _ h9 => h9) rfl dL_build_47 ?_
        refine lv_iload hx hb dL_build_50 (lv_at hl 0 rfl) ?_
        refine ia_ld hx hb hK hP 8 0 rfl rfl (j := i) (by omega) (by omega) dL_build_52 ?_
        refine call_ViF (As := [.int (nI (ht2 i))]) (rest := []) (wr := sW cI cZ cS cW q0 d1 d2 d3 d4 (i + 1) (3 ^ (i + 1)) 0 0 false ht2 rs2 sn2 rw2 wy2 o2) S (m_X1_addPlayer h0 h1 h2 h3 h4 h5 h6 i wn 0 0 0 false c1 0 s (fun _ => 0) hf (fun _ => 0) (ht2 i) (by rw [hh2]; exact hco) (by omega) rfl (by have h9 := R.c1m; rw [R.m3] at h9; exact Nat.le_trans h9 (p3_81 i (by omega))) hn hw hs hc1 hb1) g_L_X1_addPlayer hd_X1_addPlayer ⟨Nat.le_of_ble_eq_true rfl, Nat.le_of_ble_eq_true rfl⟩ ⟨by show _ ≤ 4700; omega, by show _ ≤ 36400; omega⟩ hP hD hK hS hZ 0 rfl rfl hl.1 rfl (Nat.le_of_ble_eq_true rfl) dL_build_53 (fun r u H locs hq hP hD hS => ?_)
        obtain ⟨rfl, g9, rfl, hg9⟩ := hq
        have hP : va_P (dC, dI) vwCl (gW cI h0 h1 h2 h3 h4 h5 h6 h1 h2 (i + 1) (wn ||| (ht2 i) * 2 ^ (i * 2)) 0 0 0 false (3 * c1) 0 (upN (lkS s i i) i (mskN i)) (fun _ => 0) g9 (fun _ => 0) ++ (sW cI cZ cS cW q0 d1 d2 d3 d4 (i + 1) (3 ^ (i + 1)) 0 0 false ht2 rs2 sn2 rw2 wy2 o2)) H := hP
        have hD : va_D A (gW cI h0 h1 h2 h3 h4 h5 h6 h1 h2 (i + 1) (wn ||| (ht2 i) * 2 ^ (i * 2)) 0 0 0 false (3 * c1) 0 (upN (lkS s i i) i (mskN i)) (fun _ => 0) g9 (fun _ => 0) ++ (sW cI cZ cS cW q0 d1 d2 d3 d4 (i + 1) (3 ^ (i + 1)) 0 0 false ht2 rs2 sn2 rw2 wy2 o2)) := hD
        refine lv_iload hx hb dL_build_56 (lv_at hl 0 rfl) ?_
        refine icN_eq (tgt := 63) hx hb dL_build_58 (by decide) (by omega) (by omega) (fun c_58 => ?_) (fun c_58 => absurd c_58 (fun e9 => e9 rfl))
        refine lv_iinc (v := nI (i + 1)) (lv' := [(4, .int (nI (i + 1))), (3, .int (nI (1 + j5))), (2, .ref q0), (0, .ref h0), (1, .ref b)]) hx hb dL_build_63 hl (k := 0) rfl (nI_add _ _) (by decide) rfl (fun ls hl => ?_)
        refine lv_goto (tgt := 23) hx hb dL_build_66 (by decide) ?_
        refine W.widen (k := 6 + (i + 1) * 260) (n := 10 + (i + 1) * 1800) (by omega) (by omega) ?_
        exact ih23 (i + 1) _ _ _ _ _ _ _ _ _ _ _ _ _ _ _ (by omega) (by omega) (R.add (co := ht2 i) (by omega) rfl (by rw [hh2]; exact hco) hg9 hh1 rfl hsn2 hwy2 ho2) _ _ hP hD hS _ (lv_sub hl [0, 1, 2, 3, 4] rfl)
  refine W.widen (k := 6 + 0 * 260) (n := 10 + 0 * 1800) (by omega) (by omega) ?_
  exact lp23 (1 + j5 + 1) 0 _ _ _ _ _ _ _ _ _ _ _ _ _ _ _ (by omega) (by omega) R0 _ _ hP hD hS _ (lv_sub hl [0, 1, 2, 3, 4] rfl)

end
