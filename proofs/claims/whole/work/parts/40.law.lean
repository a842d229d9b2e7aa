/-! the law's own methods, which catch -/
def ncOK (U : State) : Prop := ∀ E ∈ xEx, ∀ F ∈ xEx, E ≠ F → va_Nc E F U
theorem ncOK.moved {u U : State} (hvm : u.vm.Alike U.vm) (h : ncOK u) : ncOK U := fun E hE F hF hn => (h E hE F hF hn).moved hvm
def hPc (D : va_G) (ty : List (ClassId × FieldType)) (av : List Value) (w : va_W) : Array Value → State → Prop := va_Pc av (fun U => va_P D vwCl w U.heap ∧ va_K D vwCl ty U ∧ va_D (fun _ => True) w ∧ pwOK (wIn w) U U.heap ∧ exOK (wIn w) U U.heap ∧ ncOK U)
theorem hPc_blind {D : va_G} {ty : List (ClassId × FieldType)} {av : List Value} {w : va_W} : FrameBlind (hPc D ty av w) := fun a U g mk q => by
  obtain ⟨q0, qP, qK, qD, qZ, qX, qN⟩ := q
  exact ⟨q0, qP, va_K.moved (u := U) (U := U.calling g mk a) (Vm.Alike.refl U.vm) qK, qD, pwOK.moved (u := U) (U := U.calling g mk a) (Vm.Alike.refl U.vm) qZ, exOK.warm (u := U) (U := U.calling g mk a) (State.WarmedH.refl U) qX, ncOK.moved (u := U) (U := U.calling g mk a) (Vm.Alike.refl U.vm) qN⟩
abbrev Hi (l : Launch) (y : MethodName) (ws : List Cond) (D : va_G) (ty : List (ClassId × FieldType)) (av : List Value) (w : va_W) (post : Int32 → va_W → Prop) : Prop := Met l y ws (rmG 11 410 1 6) (hPc D ty av w) (va_Qi post (cB D w) (wIn w)) 1 6 (wIn w)
section
variable {l : Launch} {y : MethodName} {cc : ByteArray} {n : Nat} {hh : List (Nat × Nat × Nat × Nat)} {D : va_G} {ty : List (ClassId × FieldType)} {av : List Value} {w : va_W}
theorem Hi_of {post : Int32 → va_W → Prop} (hy : plainName y.cls = true) (hn : (lg_sl av).length ≤ n)
    (body : ∀ (p : Program) (e : Env) (s : State) (m : MethodId) (args : Array Value) (below : List Frame) (meth : Method) (c : Code) (Q : State → Prop) (ls : Array Slot), CallFix p m c cc n s args bw y.cls → va_P D vwCl w s.heap → va_K D vwCl ty s → va_D (wIn w) w → pwOK (wIn w) s s.heap → exOK (wIn w) s s.heap → ncOK s → lv_has ls n (lv_args 0 av) → c.exceptionTable.toList = tableOf hh →
      (∀ (v : Int32) (u : va_W) (H : Heap) (locs : List Loc) (ls' : Array Slot) (pc : Nat), decode cc pc = .ok (.ireturn, 1) → post v u → (u.map (·.1)).Perm (w.map (·.1)) → va_P D vwCl u H → va_S (wIn w) s.heap H locs → W p l e (rmG 11 410 1 6) s m args below meth c H locs 1 6 Q (F0 m pc ls' [.int v])) →
      W p l e (rmG 11 410 1 6) s m args below meth c s.heap [] 0 0 Q (F0 m 0 ls [])) : Hi l y (Cond.codeWith y cc n (some .int) hh :: bw) D ty av w post := by
  refine MetFree.of_bodyS (code := cc) (maxLocals := n) (ret := some .int) hy ?_ ?_
  · intro args s m h hn
    obtain ⟨m9, meth, c, hn9, h1, h2, h3, h4, -, h5, h6, -⟩ := Cond.codeWith_spec (atoms_spec (ws := Cond.codeWith y cc n (some .int) hh :: bw) h _ List.mem_cons_self)
    cases hn.symm.trans hn9
    exact ⟨meth, c, h1, h2, h3, h4, h5, h6⟩
  · intro p e s m args below meth c s₁ B hml hv _
    have hh0 : s₁.heap = s.heap := by rw [B.state]; rfl
    obtain ⟨rfl, hP, hK, hD0, hZ, hX, hN⟩ := hv
    have hts := atoms_spec (ws := Cond.codeWith y cc n (some .int) hh :: bw) B.pre
    have htab := vx_table (x := y) B (hts _ List.mem_cons_self)
    have key := body p e s m _ below meth c (MQ below (va_Qi post (cB D w) (wIn w)) av.toArray s 1 6 (wIn w)) _ ⟨B.exec, B.bytes, hml, findClass_of_methodNamed B.named, fun w h => hts w (List.mem_cons_of_mem _ h)⟩ hP hK (va_D_self hD0) hZ hX hN (lv_entry av (n := n) hn) htab ?_
    · rw [← lg_entry_eq] at key
      obtain ⟨t, a1, o, b1, b2, b3⟩ := key s₁ hh0 (Stand.of_body B)
      exact ⟨t, o, a1, b1, b2, ⟨b3.1, b3.2⟩⟩
    · intro v u H locs ls' pc hdg hpost hu hPu hS
      exact W.zret (v := v) B.exec B.bytes B.returns rfl (fun t ht hW => ⟨⟨v, u, rfl, hpost, by rw [ht]; exact hPu, hu⟩, hS.F ht⟩) hS.2.2 hdg B.notSynchronized
end
section
variable {p : Program} {l : Launch} {e : Env} {R : Room} {s : State} {m : MethodId} {args : Array Value} {below : List Frame} {meth : Method} {c : Code} {H : Heap} {locs : List Loc} {cells slots : Nat} {Q : State → Prop}
variable {pc : Nat} {ls : Array Slot} {rest st0 : List Value} {cc cb : ByteArray} {nL : Nat} {D : va_G} {ty : List (ClassId × FieldType)} {ws wc wr : va_W} {y : MethodName} {maxL index : Nat} {own : String} {A0 : Nat → Prop} {As : List Value} {hh : List (Nat × Nat × Nat × Nat)}
theorem hPc_pre {av : List Value} (hK : va_K D vwCl ty s) (hZ : pwOK A0 s s.heap) (hX : exOK A0 s s.heap) (hN : ncOK s) (hP : va_P D vwCl ws H) (hD : va_D A0 ws) (hS : va_S A0 s.heap H locs) (isC : List Nat) (hC : isC.map (fun i => ws[i]?) = wc.map some) (hn : va_nd isC = true) :
    ∀ U : State, U.heap = H → s.WarmedH U.vm → hPc D ty av wc av.toArray U := fun U hU hW =>
  ⟨rfl, by rw [hU]; exact va_P_at hP isC hC, va_K.moved hW.alike hK, (hD.sub isC hn hC).weaken (fun _ _ _ _ => trivial), by
    rw [hU]; exact ((hZ.kept hS.2.1).narrow (wIn_A hD isC hC)).moved hW.alike, by
    rw [hU]; exact ((hX.kept hS.2.1).narrow (wIn_A hD isC hC)).warm hW, hN.moved hW.alike⟩
theorem call_Hi {post : Int32 → va_W → Prop} (S : CallFix p m c cc nL s args bw own) (hM : Hi l y (Cond.codeWith y cb maxL (some .int) hh :: bw) D ty As wc post) (hg : GoodIn bw (va_wsS own index y (Cond.codeWith y cb maxL (some .int) hh :: bw)))
    (hd : y.cls ≠ "java/lang/invoke/MethodHandle" ∧ y.cls ≠ "java/lang/invoke/VarHandle" ∧ (parseMethodDescriptor y.desc).map (fun d => d.parameters.length) = some As.length) (hR : 11 + 1 ≤ R.frames ∧ 8 + (maxL + 11) + 410 ≤ R.locals) (hroom : cells + 1 ≤ R.cells ∧ slots + 6 ≤ R.slots)
    (hP : va_P D vwCl ws H) (hD : va_D A0 ws) (hK : va_K D vwCl ty s) (hS : va_S A0 s.heap H locs) (hZ : pwOK A0 s s.heap) (hX : exOK A0 s s.heap) (hN : ncOK s)
    (isC isR : List Nat) (hC : isC.map (fun i => ws[i]?) = wc.map some) (hRr : isR.map (fun i => ws[i]?) = wr.map some) (hn : va_nd (isR ++ isC) = true)
    (hls : ls.size = nL) (hst : st0 = As.reverse ++ rest) (hrest : (rest.map fun v => v.category).sum ≤ 8) (hdg : decode cc pc = .ok (.invokestatic index, 3))
    (kk : ∀ (r : Int32) (w1 : va_W) (H1 : Heap) (locs1 : List Loc), post r w1 → va_P D vwCl (wr ++ w1) H1 → va_D A0 (wr ++ w1) → va_S A0 s.heap H1 locs1 → W p l e R s m args below meth c H1 locs1 (cells + 1) (slots + 6) Q (F0 m (pc + 3) ls (.int r :: rest))) :
    W p l e R s m args below meth c H locs cells slots Q (F0 m pc ls st0) := by
  refine va_calli (vx_runSW (As := As) (rest := rest) S hM (vx_cwSW As.length S.2.2.2.2 hg rfl rfl rfl hd hR) ⟨hPc_blind, hPc_pre hK hZ hX hN hP hD hS isC hC (va_nd_sub hn)⟩ rfl rfl hls hst (lv_room hrest) hdg hroom) hS (fun q _ h => wIn_A hD isC hC q h) (wIn_A hD isC hC) (fun r u t H1 locs1 ht hvm hw hB hz1 hk1 hS1 => ?_)
  obtain ⟨hP1, he⟩ := hB
  rw [ht] at hP1
  obtain ⟨hP2, hD2⟩ := my_join hP hD isC isR hC hRr hn hk1 hP1 he
  exact kk r u H1 locs1 hw hP2 hD2 hS1
def lB (b : Bool) : Int64 := if b then 1 else 0
theorem ternL_eq (hexec : p.tables.exec = Jvm.exec) (hb : c.code = cc) {b : Bool} {off off2 : Int} (d0 : decode cc pc = .ok (.ifCond .eq off, 3)) (d1 : decode cc (pc + 3) = .ok (.lconst 1, 1)) (d2 : decode cc (pc + 4) = .ok (.goto off2, 3)) (d3 : decode cc (pc + 7) = .ok (.lconst 0, 1)) (h1 : (pc : Int) + off = ((pc + 7 : Nat) : Int)) (h2 : ((pc + 4 : Nat) : Int) + off2 = ((pc + 8 : Nat) : Int))
    (k : W p l e R s m args below meth c H locs cells slots Q (F0 m (pc + 8) ls (.long (lB b) :: rest))) : W p l e R s m args below meth c H locs cells slots Q (F0 m pc ls (.int (bI b) :: rest)) := by
  refine ifB_eq (tgt := pc + 7) hexec hb d0 h1 (fun hc => ?_) (fun hc => ?_)
  · subst hc
    exact lv_lconst (v := lB false) hexec hb d3 (by decide) k
  · subst hc
    exact lv_lconst (v := lB true) hexec hb d1 (by decide) (lv_goto (tgt := pc + 8) hexec hb d2 h2 k)
end
theorem xE_0 : "java/lang/IllegalStateException" ∈ xEx := by simp [xEx]
theorem xE_1 : "java/lang/IndexOutOfBoundsException" ∈ xEx := by simp [xEx]
theorem xE_2 : "java/lang/IllegalArgumentException" ∈ xEx := by simp [xEx]
