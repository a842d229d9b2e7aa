/-! methods that throw: contracts for the arguments with which they do -/
abbrev rmX (f lo : Nat) : Room := { frames := f, cells := 1, slots := 6, locals := lo }
def xStr : List (Nat × String) := [(219, "there are no players"), (211, "no such player"), (216, "both players are the same"), (221, "no such colour"), (55, "no player can be added now"), (223, "many is not 0 to 5"), (225, "what is said is not true")]
def xNm : List String := ["java/lang/RuntimeException", "java/lang/Exception"]
def xEx : List String := ["java/lang/IllegalStateException", "java/lang/IndexOutOfBoundsException", "java/lang/IllegalArgumentException"]
def xDec : List Cond := [Cond.declares ⟨"java/lang/RuntimeException", "<init>", "(Ljava/lang/String;)V"⟩, Cond.declares ⟨"java/lang/Exception", "<init>", "(Ljava/lang/String;)V"⟩, Cond.declares ⟨"java/lang/Throwable", "<init>", "(Ljava/lang/String;)V"⟩]
def exOK (A : Nat → Prop) (U : State) (H : Heap) : Prop := vx_Zq Bundle.tN "UNASSIGNED_STACK" Bundle.steD A U H ∧ vx_Zq Bundle.tN "SUPPRESSED_SENTINEL" Bundle.listD A U H ∧ (∀ q ∈ xStr, (∃ sa, vk_R RX1 q.1 q.2 sa U)) ∧ (∀ E ∈ xEx, va_Nw (Cond.castable E E) U) ∧ ∀ w ∈ xDec, va_Nw w U
theorem exOK.warm {A : Nat → Prop} {u U : State} {H : Heap} (hW : u.WarmedH U.vm) (h : exOK A u H) : exOK A U H :=
  ⟨h.1.moved hW.alike, h.2.1.moved hW.alike, fun q hq => by
    obtain ⟨sa, hs⟩ := h.2.2.1 q hq
    exact ⟨sa, hs.warm hW⟩, fun E hE => va_Nw.warmC hW (h.2.2.2.1 E hE), fun w hw => by
    have := h.2.2.2.2 w hw
    simp only [xDec, List.mem_cons, List.not_mem_nil, or_false] at hw
    rcases hw with rfl | rfl | rfl <;> exact va_Nw.warmD hW this⟩
theorem exOK.kept {A : Nat → Prop} {U : State} {H H1 : Heap} (h : exOK A U H) (hq : ∀ a : Nat, a < H.size → ¬ A a → H1[a]? = H[a]?) : exOK A U H1 := ⟨h.1.kept hq, h.2.1.kept hq, h.2.2⟩
theorem exOK.narrow {A B : Nat → Prop} {U : State} {H : Heap} (h : exOK A U H) (hAB : ∀ q, B q → A q) : exOK B U H := ⟨h.1.narrow hAB, h.2.1.narrow hAB, h.2.2⟩
def xP (D : va_G) (ty : List (ClassId × FieldType)) (av : List Value) (w : va_W) : Array Value → State → Prop := va_Pc av (fun U => va_P D vwCl w U.heap ∧ va_K D vwCl ty U ∧ va_D (fun _ => True) w ∧ pwOK (wIn w) U U.heap ∧ exOK (wIn w) U U.heap)
theorem xP_blind {D : va_G} {ty : List (ClassId × FieldType)} {av : List Value} {w : va_W} : FrameBlind (xP D ty av w) := fun a U g mk q => by
  obtain ⟨q0, qP, qK, qD, qZ, qX⟩ := q
  exact ⟨q0, qP, va_K.moved (u := U) (U := U.calling g mk a) (Vm.Alike.refl U.vm) qK, qD, pwOK.moved (u := U) (U := U.calling g mk a) (Vm.Alike.refl U.vm) qZ, exOK.warm (u := U) (U := U.calling g mk a) (State.WarmedH.refl U) qX⟩
def xQ : Array Value → State → Outcome → State → Prop := fun _ _ _ _ => False
def xC (D : va_G) (w : va_W) (E : String) : String → State → State → Prop := vx_X (fun _ : Unit => True) (fun E' _ t => E' = E ∧ va_P D vwCl w t.heap) (wIn w)
abbrev Mx (l : Launch) (y : MethodName) (ws : List Cond) (fr lo : Nat) (D : va_G) (ty : List (ClassId × FieldType)) (av : List Value) (w : va_W) (E : String) : Prop := vx_Met l y ws (rmX fr lo) (xP D ty av w) xQ (xC D w E) 1 6 (wIn w)
theorem xDec_on : ∀ w ∈ xDec, w.onTables = true := by decide +kernel
theorem xgd_ISE : ∀ w ∈ (vx_atS RX1 57 "java/lang/IllegalStateException" xNm).filter goodWord, w ∈ bw := by decide +kernel
theorem xbd_ISE : ∀ w ∈ (vx_atS RX1 57 "java/lang/IllegalStateException" xNm).filter (fun w => !goodWord w), w ∈ Cond.castable "java/lang/IllegalStateException" "java/lang/IllegalStateException" :: xDec := by decide +kernel
theorem xto_ISE : ∀ w ∈ vx_atS RX1 57 "java/lang/IllegalStateException" xNm, vx_ot w = true := by decide +kernel
theorem xgd_IOOB : ∀ w ∈ (vx_atS RX1 213 "java/lang/IndexOutOfBoundsException" xNm).filter goodWord, w ∈ bw := by decide +kernel
theorem xbd_IOOB : ∀ w ∈ (vx_atS RX1 213 "java/lang/IndexOutOfBoundsException" xNm).filter (fun w => !goodWord w), w ∈ Cond.castable "java/lang/IndexOutOfBoundsException" "java/lang/IndexOutOfBoundsException" :: xDec := by decide +kernel
theorem xto_IOOB : ∀ w ∈ vx_atS RX1 213 "java/lang/IndexOutOfBoundsException" xNm, vx_ot w = true := by decide +kernel
theorem xgd_IAE : ∀ w ∈ (vx_atS RX1 218 "java/lang/IllegalArgumentException" xNm).filter goodWord, w ∈ bw := by decide +kernel
theorem xbd_IAE : ∀ w ∈ (vx_atS RX1 218 "java/lang/IllegalArgumentException" xNm).filter (fun w => !goodWord w), w ∈ Cond.castable "java/lang/IllegalArgumentException" "java/lang/IllegalArgumentException" :: xDec := by decide +kernel
theorem xto_IAE : ∀ w ∈ vx_atS RX1 218 "java/lang/IllegalArgumentException" xNm, vx_ot w = true := by decide +kernel
theorem xot_bw {w : Cond} (h : w ∈ bw) : vx_ot w = true := by
  have := (List.mem_filter.mp h).2
  simp [vx_ot, this]
section XC1
variable {p : Program} {l : Launch} {e : Env} {R : Room} {s : State} {m : MethodId} {args : Array Value} {below : List Frame} {meth : Method} {c : Code} {H : Heap} {locs : List Loc} {cells slots : Nat} {Q : State → Prop}
variable {pc : Nat} {ls : Array Slot} {rest st0 : List Value} {cc cb : ByteArray} {nL : Nat} {D : va_G} {ty : List (ClassId × FieldType)} {w ws wc : va_W} {E : String}
/-- a throw in the method itself -/
theorem x_throw (S : CallFix p m c cc nL s args bw RX1) (hl : l.stackTraces = false) (hX : exOK (wIn w) s s.heap) (hS : va_S (wIn w) s.heap H locs) (hP : va_P D vwCl w H) (hsize : ls.size = nL) {ik is ic : Nat} {text : String}
    (q1 : Cond.classLink RX1 ik E ∈ bw) (q2 : Cond.initialized E ∈ bw) (q3 : ∀ w ∈ (vx_atS RX1 ic E xNm).filter goodWord, w ∈ bw) (q4 : ∀ w ∈ (vx_atS RX1 ic E xNm).filter (fun w => !goodWord w), w ∈ Cond.castable E E :: xDec) (q5 : ∀ w ∈ vx_atS RX1 ic E xNm, vx_ot w = true) (hE : E ∈ xEx) (hfit : Bundle.fit E = true) (hstr : (is, text) ∈ xStr)
    (d0 : decode cc pc = .ok (.new ik, 3)) (d3 : decode cc (pc + 3) = .ok (.dup, 1)) (d4 : decode cc (pc + 4) = .ok (.ldc is, 2)) (d6 : decode cc (pc + 6) = .ok (.invokespecial ic, 3)) (d9 : decode cc (pc + 9) = .ok (.athrow, 1))
    (htab : ∀ x ∈ c.exceptionTable.toList, False) (hlocks : meth.locks = false) (hRf : 6 ≤ R.frames) (hRl : 90 ≤ R.locals) (hRc : R.cells = 1) (hRs : R.slots = 6) (hrest : (rest.map fun v => v.category).sum ≤ 8) :
    W p l e R s m args below meth c H locs 0 0 (vx_MQ below xQ (xC D w E) args s 1 6 (wIn w)) (F0 m pc ls rest) := by
  obtain ⟨hx, hb, hml, hown, hts⟩ := id S
  obtain ⟨sa, hsa⟩ := hX.2.2.1 _ hstr
  refine vx_throwS (A := wIn w) (names := xNm) hx hb hl hown hfit (by decide +kernel) (hts _ q1) (hts _ q2) hsa (vx_hat (fun w hw => hts _ (q3 w hw)) q4 (fun w hw => (by rcases List.mem_cons.mp hw with rfl | hw; (· exact va_Nw.use rfl (hX.2.2.2.1 E hE)); (· exact va_Nw.use (xDec_on w hw) (hX.2.2.2.2 w hw))))) (fun w hw => ?_) hX.1 hX.2.1 hS (hsize.trans hml.symm) d0 d3 d4 d6 d9 (fun x hx => (htab x hx).elim) (show xNm.length + 3 < R.frames by simp [xNm]; omega) (by simp [xNm]; omega) (by omega) (by omega) hlocks (fun t hvm hz hk => ?_) hS.2.2 (by omega) (by omega)
  · rcases List.mem_cons.mp hw with rfl | hw
    · exact xot_bw q1
    · rcases List.mem_cons.mp hw with rfl | hw
      · exact xot_bw q2
      · exact q5 w hw
  · refine ⟨(), trivial, ⟨rfl, hP.kept (fun k q hq => hk q.1 (hP k q hq).lt)⟩, Nat.le_trans hS.1 hz, fun q h1 h2 => ?_⟩
    rw [hk q (Nat.lt_of_lt_of_le h1 hS.1)]
    exact hS.2.1 q h1 h2
/-- a call of a method that throws -/
theorem x_callE {y : MethodName} {mc ms : Nat} {free : Addr → Prop} {A0 AX : Nat → Prop} {H0 : Heap} {BX : String → Unit → State → Prop} {Qa : State → Outcome → State → Prop} (hQa : ∀ a b c, ¬ Qa a b c) (hr : vx_Run p l e R s m args below meth c H locs cells slots mc ms (F0 m pc ls st0) rest Qa (vx_X (fun _ => True) BX AX) free) (hS : va_S A0 H0 H locs) (hf : ∀ q, free q → A0 q) (hAX : ∀ q, q < H.size → AX q → A0 q)
    (kx : ∀ (E : String) (ce : Cell) (q9 : Addr) (t : State) (H1 : Heap) (locs1 : List Loc), t.heap = H1 → s.vm.Alike t.vm → BX E () t → H.size ≤ H1.size → (∀ q : Nat, q < H.size → ¬ AX q → H1[q]? = H[q]?) → va_S A0 H0 H1 locs1 → H1[q9]? = some ce → ce.vm = .none → s.vm.findClass E = some ce.cls → vx_W p l e R s m args below meth c H1 locs1 (cells + mc) (slots + ms) Q (F0 m pc ls rest) q9) :
    W p l e R s m args below meth c H locs cells slots Q (F0 m pc ls st0) := by
  intro T hT X
  rcases hr T hT X with ⟨v, st₀, t, T', L, h0, X', hL, e1, e2, hq, st⟩ | ⟨q, st₀, t, T', L, E, ce, h0, X', hL, e1, e2, ⟨u, hp, hb, hF⟩, hce, hcv, hcl, st⟩
  · exact (hQa _ _ _ hq).elim
  · obtain ⟨k1, k2, k3⟩ := vx_keep h0 e1 hS hAX hf hL hF
    obtain ⟨t2, a1, b1⟩ := kx E ce q t T'.heap (locs ++ L) e1.symm (by rw [← e2]; exact X'.warmed.alike) hb k1 k2 k3 (by rw [e1]; exact hce) hcv hcl T' rfl X'
    exact ⟨t2, st.trans a1, b1⟩
theorem xP_pre {A0 : Nat → Prop} {av : List Value} (hK : va_K D vwCl ty s) (hZ : pwOK A0 s s.heap) (hX : exOK A0 s s.heap) (hP : va_P D vwCl ws H) (hD : va_D A0 ws) (hS : va_S A0 s.heap H locs) (isC : List Nat) (hC : isC.map (fun i => ws[i]?) = wc.map some) (hn : va_nd isC = true) :
    ∀ U : State, U.heap = H → s.WarmedH U.vm → xP D ty av wc av.toArray U := fun U hU hW =>
  ⟨rfl, by rw [hU]; exact va_P_at hP isC hC, va_K.moved hW.alike hK, (hD.sub isC hn hC).weaken (fun _ _ _ _ => trivial), by
    rw [hU]; exact ((hZ.kept hS.2.1).narrow (wIn_A hD isC hC)).moved hW.alike, by
    rw [hU]; exact ((hX.kept hS.2.1).narrow (wIn_A hD isC hC)).warm hW⟩
variable {y : MethodName} {maxL index fr lo : Nat} {rt : Option FieldType} {own C : String} {A0 : Nat → Prop} {b : Addr} {As : List Value} {ci N : Nat} {fs : List Value} {T : u_T}
theorem x_V (S : CallFix p m c cc nL s args bw own) (hM : Mx l y (Cond.code y cb maxL rt :: bw) fr lo D ty (.ref b :: As) wc E) (hg : GoodIn bw (wsV own index C y (Cond.code y cb maxL rt :: bw)))
    (hd : y.cls = C ∧ y.cls ≠ "java/lang/invoke/MethodHandle" ∧ y.cls ≠ "java/lang/invoke/VarHandle" ∧ (parseMethodDescriptor y.desc).map (fun d => d.parameters.length) = some As.length) (hR : fr + 1 ≤ R.frames ∧ 8 + (maxL + 11) + lo ≤ R.locals) (hroom : cells + 1 ≤ R.cells ∧ slots + 6 ≤ R.slots)
    (hP : va_P D vwCl ws H) (hD : va_D A0 ws) (hK : va_K D vwCl ty s) (hS : va_S A0 s.heap H locs) (hZ : pwOK A0 s s.heap) (hX : exOK A0 s s.heap)
    (isC : List Nat) (hC : isC.map (fun i => ws[i]?) = wc.map some) (hn : va_nd isC = true)
    (k0 : Nat) (hrec : wc[k0]? = some (b, .inr (ci, fs))) (hc : vwCl[ci]? = some (C, T, N)) (hls : ls.size = nL) (hst : st0 = As.reverse ++ .ref b :: rest) (hrest : (rest.map fun v => v.category).sum ≤ 8) (hdg : decode cc pc = .ok (.invokevirtual index, 3))
    (kx : ∀ (ce : Cell) (q9 : Addr) (H1 : Heap) (locs1 : List Loc), va_P D vwCl ws H1 → va_S A0 s.heap H1 locs1 → H1[q9]? = some ce → ce.vm = .none → s.vm.findClass E = some ce.cls → vx_W p l e R s m args below meth c H1 locs1 (cells + 1) (slots + 6) Q (F0 m pc ls rest) q9) :
    W p l e R s m args below meth c H locs cells slots Q (F0 m pc ls st0) := by
  refine x_callE (y := y) (fun _ _ _ h => h) (vx_runV (As := As) (rest := rest) S hM (cwV As.length S.2.2.2.2 hg rfl rfl rfl hd hR) ⟨xP_blind, va_recv hK (va_P_at hP isC hC) (ci := ci) (q0 := k0) hc hrec, xP_pre hK hZ hX hP hD hS isC hC hn⟩ rfl rfl hls hst (lv_room hrest) hdg hroom) hS (wIn_A hD isC hC) (fun q _ h => wIn_A hD isC hC q h) (fun E' ce q9 t H1 locs1 ht hvm hB hz hk hS1 h1 h2 h3 => ?_)
  obtain ⟨rfl, hP1⟩ := hB
  rw [ht] at hP1
  exact kx ce q9 H1 locs1 (my_same hP hD isC hC hk hP1) hS1 h1 h2 h3
theorem x_S (S : CallFix p m c cc nL s args bw own) (hM : Mx l y (Cond.code y cb maxL rt :: bw) fr lo D ty As wc E) (hg : GoodIn bw (va_wsS own index y (Cond.code y cb maxL rt :: bw)))
    (hd : y.cls ≠ "java/lang/invoke/MethodHandle" ∧ y.cls ≠ "java/lang/invoke/VarHandle" ∧ (parseMethodDescriptor y.desc).map (fun d => d.parameters.length) = some As.length) (hR : fr + 1 ≤ R.frames ∧ 8 + (maxL + 11) + lo ≤ R.locals) (hroom : cells + 1 ≤ R.cells ∧ slots + 6 ≤ R.slots)
    (hP : va_P D vwCl ws H) (hD : va_D A0 ws) (hK : va_K D vwCl ty s) (hS : va_S A0 s.heap H locs) (hZ : pwOK A0 s s.heap) (hX : exOK A0 s s.heap)
    (isC : List Nat) (hC : isC.map (fun i => ws[i]?) = wc.map some) (hn : va_nd isC = true)
    (hls : ls.size = nL) (hst : st0 = As.reverse ++ rest) (hrest : (rest.map fun v => v.category).sum ≤ 8) (hdg : decode cc pc = .ok (.invokestatic index, 3))
    (kx : ∀ (ce : Cell) (q9 : Addr) (H1 : Heap) (locs1 : List Loc), va_P D vwCl ws H1 → va_S A0 s.heap H1 locs1 → H1[q9]? = some ce → ce.vm = .none → s.vm.findClass E = some ce.cls → vx_W p l e R s m args below meth c H1 locs1 (cells + 1) (slots + 6) Q (F0 m pc ls rest) q9) :
    W p l e R s m args below meth c H locs cells slots Q (F0 m pc ls st0) := by
  refine x_callE (y := y) (fun _ _ _ h => h) (vx_runS (As := As) (rest := rest) S hM (va_cwS As.length S.2.2.2.2 hg rfl rfl rfl hd hR) ⟨xP_blind, xP_pre hK hZ hX hP hD hS isC hC hn⟩ rfl rfl hls hst (lv_room hrest) hdg hroom) hS (wIn_A hD isC hC) (fun q _ h => wIn_A hD isC hC q h) (fun E' ce q9 t H1 locs1 ht hvm hB hz hk hS1 h1 h2 h3 => ?_)
  obtain ⟨rfl, hP1⟩ := hB
  rw [ht] at hP1
  exact kx ce q9 H1 locs1 (my_same hP hD isC hC hk hP1) hS1 h1 h2 h3
end XC1
section XC2
variable {l : Launch} {y : MethodName} {cc : ByteArray} {n fr lo : Nat} {rt : Option FieldType} {D : va_G} {ty : List (ClassId × FieldType)} {av : List Value} {w : va_W} {E : String}
theorem Mx_of (hy : plainName y.cls = true) (hn : (lg_sl av).length ≤ n)
    (body : ∀ (p : Program) (e : Env) (s : State) (m : MethodId) (args : Array Value) (below : List Frame) (meth : Method) (c : Code) (ls : Array Slot), CallFix p m c cc n s args bw y.cls → va_P D vwCl w s.heap → va_K D vwCl ty s → va_D (wIn w) w → pwOK (wIn w) s s.heap → exOK (wIn w) s s.heap → lv_has ls n (lv_args 0 av) →
      (∀ x ∈ c.exceptionTable.toList, False) → meth.locks = false →
      (∀ (H : Heap) (locs : List Loc) (ls' : Array Slot) (pc : Nat) (rest : List Value) (ce : Cell) (q9 : Addr), va_P D vwCl w H → va_S (wIn w) s.heap H locs → H[q9]? = some ce → ce.vm = .none → s.vm.findClass E = some ce.cls → vx_W p l e (rmX fr lo) s m args below meth c H locs (0 + 1) (0 + 6) (vx_MQ below xQ (xC D w E) args s 1 6 (wIn w)) (F0 m pc ls' rest) q9) →
      W p l e (rmX fr lo) s m args below meth c s.heap [] 0 0 (vx_MQ below xQ (xC D w E) args s 1 6 (wIn w)) (F0 m 0 ls [])) : Mx l y (Cond.code y cc n rt :: bw) fr lo D ty av w E := by
  refine vx_ofW (cc := cc) (maxL := n) (ret := rt) hy rfl ?_
  intro p e s m args below meth c s₁ B hml htab hv
  obtain ⟨rfl, hP, hK, hD0, hZ, hX⟩ := hv
  have hts := atoms_spec (ws := Cond.code y cc n rt :: bw) B.pre
  rw [lg_entry_eq]
  refine body p e s m _ below meth c _ ⟨B.exec, B.bytes, hml, findClass_of_methodNamed B.named, fun w h => hts w (List.mem_cons_of_mem _ h)⟩ hP hK (va_D_self hD0) hZ hX (lv_entry av (n := n) hn) htab B.notSynchronized ?_
  intro H locs ls' pc rest ce q9 hPu hS h1 h2 h3
  exact vx_out (fun x hx => (htab x hx).elim) B.notSynchronized h1 h2 h3 (fun t ht hvm => ⟨(), trivial, ⟨rfl, by rw [ht]; exact hPu⟩, hS.F ht⟩) hS.2.2 (Nat.le_refl _) (Nat.le_refl _)
end XC2
theorem rp_n {p0 : Int32} {n : Nat} (hn : n < 2 ^ 31) (hp : ∀ j, j < n → p0 ≠ nI j) (h0 : ¬ p0 < 0) : ¬ p0 < nI n := by
  intro h
  obtain ⟨j, hj, rfl⟩ := nI_of h0
  exact hp j ((nI_ltI hj hn).mp h) rfl
theorem rm_n {p0 : Int32} {n : Nat} (hn : n < 2 ^ 31) (hp : ∀ j, j < n + 1 → p0 ≠ nI j) (h0 : ¬ p0 < 0) : ¬ p0 ≤ nI n := by
  intro h
  obtain ⟨j, hj, rfl⟩ := nI_of h0
  exact hp j (by have := (nI_leI hj hn).mp h; omega) rfl
