/-! methods that make cells -/
abbrev rmG (f lo mc ms : Nat) : Room := { frames := f, cells := mc, slots := ms, locals := lo }
def cPn (sz : Nat) (D : va_G) (ty : List (ClassId × FieldType)) (av : List Value) (w : va_W) : Array Value → State → Prop := va_Pc av (fun U => U.heap.size = sz ∧ va_P D vwCl w U.heap ∧ va_K D vwCl ty U ∧ va_D (fun _ => True) w ∧ pwOK (wIn w) U U.heap ∧ va_Nw (.methodLinkNest RX1 9 yX0_init RX1) U)
theorem cPn_blind {sz : Nat} {D : va_G} {ty : List (ClassId × FieldType)} {av : List Value} {w : va_W} : FrameBlind (cPn sz D ty av w) := fun a U g mk q => by
  obtain ⟨q0, qs, qP, qK, qD, qZ, qN⟩ := q
  exact ⟨q0, qs, qP, va_K.moved (u := U) (U := U.calling g mk a) (Vm.Alike.refl U.vm) qK, qD, pwOK.moved (u := U) (U := U.calling g mk a) (Vm.Alike.refl U.vm) qZ, va_Nw.warmM (s := U) (U := U.calling g mk a) (State.WarmedH.refl U) qN⟩
def gB (D : va_G) (w : va_W) (sz : Nat) : va_W → State → Prop := fun u t => va_P D vwCl u t.heap ∧ va_D (va_A w sz) u
abbrev Gv (l : Launch) (y : MethodName) (ws : List Cond) (fr lo mc ms sz : Nat) (D : va_G) (ty : List (ClassId × FieldType)) (av : List Value) (w : va_W) (post : va_W → Prop) : Prop := Met l y ws (rmG fr lo mc ms) (cPn sz D ty av w) (va_Qv post (gB D w sz) (va_A w sz)) mc ms (va_A w sz)
abbrev Gl (l : Launch) (y : MethodName) (ws : List Cond) (fr lo mc ms sz : Nat) (D : va_G) (ty : List (ClassId × FieldType)) (av : List Value) (w : va_W) (post : Int64 → va_W → Prop) : Prop := Met l y ws (rmG fr lo mc ms) (cPn sz D ty av w) (va_Ql post (gB D w sz) (va_A w sz)) mc ms (va_A w sz)
theorem pwOK.grow {w : va_W} {U : State} (h : pwOK (wIn w) U U.heap) : pwOK (va_A w U.heap.size) U U.heap := by
  obtain ⟨t, ⟨cf, kf, fi, f, a, cell, h1, h2, h3, h4, h5, h6, h7, h8⟩, ⟨c2, g1, g2, g3, g4, g5, g6, g7⟩⟩ := h
  have hin : ∀ a, a < U.heap.size → ¬ wIn w a → ¬ va_A w U.heap.size a := by
    rintro a ha hn (⟨k, e, hk⟩ | hge)
    · exact hn (wIn_of hk)
    · omega
  exact ⟨t, ⟨cf, kf, fi, f, a, cell, h1, h2, h3, h4, h5, h6, h7, hin a (Array.getElem?_eq_some_iff.mp h5).1 h8⟩, ⟨c2, g1, g2, g3, g4, g5, g6, hin t (Array.getElem?_eq_some_iff.mp g1).1 g7⟩⟩
theorem q_oi_X0 : Cond.methodLink RX0 3 Lib.objectInit ∈ bw := by decide +kernel
theorem q_oi_X1 : Cond.methodLink RX1 1 Lib.objectInit ∈ bw := by decide +kernel
theorem q_oi_X2 : Cond.methodLink RX2 1 Lib.objectInit ∈ bw := by decide +kernel
theorem q_oi_im : Cond.instanceMethod Lib.objectInit ∈ bw := by decide +kernel
theorem q_oi_c : Cond.code Lib.objectInit ⟨#[0xb1]⟩ 1 none ∈ bw := by decide +kernel
section
variable {p : Program} {l : Launch} {e : Env} {R : Room} {s : State} {m : MethodId} {args : Array Value} {below : List Frame} {meth : Method} {c : Code} {H : Heap} {locs : List Loc} {cells slots : Nat} {Q : State → Prop}
variable {pc : Nat} {ls : Array Slot} {rest st0 : List Value} {cc : ByteArray} {D : va_G} {cl : List vw_C} {A : Nat → Prop} {a : Nat} {tys : List (ClassId × FieldType)} {ws : va_W} {H0 : Heap}
theorem ra_of {U : State} {cA : ClassId} {ty : FieldType} (hp : ty = .int ∨ ty = .boolean ∨ ty = .long) (h : va_RA U cA ty) : U.vm.findClass ("[" ++ ty.toString) = some cA := by
  rcases hp with rfl | rfl | rfl <;> exact h
theorem my_newa (hexec : p.tables.exec = Jvm.exec) (hb : c.code = cc) {atype : ArrayType} (harr : (Cond.arrayClass (newarray.typeOf atype)).before args s = true) {ty : FieldType} (hty : newarray.typeOf atype = ty) (hK : va_K D cl tys s) (t0 : Nat) {cI : ClassId} (ht0 : tys[t0]? = some (cI, ty)) (hP : va_P D cl ws H) (hD : va_D A ws) (hS : va_S A H0 H locs) (hA : ∀ q, H0.size ≤ q → A q)
    {n : Int32} {N' : Nat} {a0 : vp_A} (ha : ∀ cA : ClassId, vp_cell cA a0 = arrV cA N' (fun _ => defaultValue ty)) (hn : ¬ n < 0) (hN : n.toNatClampNeg = N') (hbytes : N' * componentBytes ty ≤ 536870912) (hcells : cells + 1 ≤ R.cells) (hslots : slots + N' ≤ R.slots) (hdg : decode cc pc = .ok (.newarray atype, 2)) (hprim : ty = .int ∨ ty = .boolean ∨ ty = .long)
    (kk : ∀ (q : Nat) (H1 : Heap), va_P D cl (ws ++ [(q, .inl (cI, a0))]) H1 → va_D A (ws ++ [(q, .inl (cI, a0))]) → va_S A H0 H1 locs →
      W p l e R s m args below meth c H1 locs (cells + 1) (slots + N') Q (F0 m (pc + 2) ls (.ref q :: rest))) : W p l e R s m args below meth c H locs cells slots Q (F0 m pc ls (.int n :: rest)) := by
  refine va_newa hexec hb harr hty hK hP hD hS hA ha hn hN hbytes hcells hslots hdg (fun q cA H1 hK1 hP1 hD1 hS1 => ?_)
  have e1 := ra_of hprim (hK.2 t0 _ ht0).2
  have hk1 : (tys ++ [(cA, ty)])[tys.length]? = some (cA, ty) := by simp
  have e2 := ra_of hprim (hK1.2 tys.length _ hk1).2
  have : cA = cI := Option.some.inj (e2.symm.trans e1)
  subst this
  exact kk q H1 hP1 hD1 hS1
theorem ka_ld (hexec : p.tables.exec = Jvm.exec) (hb : c.code = cc) (hK : va_K D cl tys s) (hP : va_P D cl ws H) (q0 t0 : Nat) {cA : ClassId} {n : Nat} {f : Nat → Int32} (ha : ws[q0]? = some (a, .inl (cA, n, .inl f))) (ht : tys[t0]? = some (cA, .int)) {j : Nat} (hj : j < n) (hn : n < 2 ^ 31) (hdg : decode cc pc = .ok (.iaload, 1))
    (kk : W p l e R s m args below meth c H locs cells slots Q (F0 m (pc + 1) ls (.int (f j) :: rest))) : W p l e R s m args below meth c H locs cells slots Q (F0 m pc ls (.int (nI j) :: .ref a :: rest)) := by
  refine va_iald hexec hb hK hP q0 t0 ha ht (vp_in_nI hj hn) hdg ?_
  rw [nI_clamp (by omega)]
  exact kk
theorem ka_st (hexec : p.tables.exec = Jvm.exec) (hb : c.code = cc) (hK : va_K D cl tys s) (hP : va_P D cl ws H) (hD : va_D A ws) (hS : va_S A H0 H locs) (q0 t0 : Nat) {cA : ClassId} {n : Nat} {f : Nat → Int32} (ha : ws[q0]? = some (a, .inl (cA, n, .inl f))) (ht : tys[t0]? = some (cA, .int)) {j : Nat} {v : Int32} (hj : j < n) (hn : n < 2 ^ 31) (hdg : decode cc pc = .ok (.iastore, 1))
    (kk : ∀ (H1 : Heap) (locs1 : List Loc), va_P D cl (ws.set q0 (a, .inl (cA, n, .inl (upd f j v)))) H1 → va_D A (ws.set q0 (a, .inl (cA, n, .inl (upd f j v)))) → va_S A H0 H1 locs1 → W p l e R s m args below meth c H1 locs1 cells slots Q (F0 m (pc + 1) ls rest)) : W p l e R s m args below meth c H locs cells slots Q (F0 m pc ls (.int v :: .int (nI j) :: .ref a :: rest)) := by
  refine va_iast hexec hb hK hP hD hS q0 t0 ha ht (vp_in_nI hj hn) hdg ?_
  rw [nI_clamp (by omega)]
  exact kk
theorem tern_eq (hexec : p.tables.exec = Jvm.exec) (hb : c.code = cc) {b : Bool} {off off2 : Int} (d0 : decode cc pc = .ok (.ifCond .eq off, 3)) (d1 : decode cc (pc + 3) = .ok (.iconst 1, 1)) (d2 : decode cc (pc + 4) = .ok (.goto off2, 3)) (d3 : decode cc (pc + 7) = .ok (.iconst 0, 1)) (h1 : (pc : Int) + off = ((pc + 7 : Nat) : Int)) (h2 : ((pc + 4 : Nat) : Int) + off2 = ((pc + 8 : Nat) : Int))
    (k : W p l e R s m args below meth c H locs cells slots Q (F0 m (pc + 8) ls (.int (bI b) :: rest))) : W p l e R s m args below meth c H locs cells slots Q (F0 m pc ls (.int (bI b) :: rest)) := by
  refine ifB_eq (tgt := pc + 7) hexec hb d0 h1 (fun hc => ?_) (fun hc => ?_)
  · subst hc
    exact lv_iconst (v := bI false) hexec hb d3 (by decide) k
  · subst hc
    exact lv_iconst (v := bI true) hexec hb d1 (by decide) (lv_goto (tgt := pc + 8) hexec hb d2 h2 k)
variable {y : MethodName} {cb : ByteArray} {nL maxL index fr lo mc ms : Nat} {own C : String} {ty : List (ClassId × FieldType)} {A0 : Nat → Prop} {b : Addr} {As : List Value} {wc wr : va_W} {k0 ci N : Nat} {fs : List Value} {T : u_T}
theorem cPn_pre {av : List Value} (hK : va_K D vwCl ty s) (hZ : pwOK A0 s s.heap) (hNw : va_Nw (.methodLinkNest RX1 9 yX0_init RX1) s) (hP : va_P D vwCl ws H) (hD : va_D A0 ws) (hS : va_S A0 s.heap H locs) (isC : List Nat) (hC : isC.map (fun i => ws[i]?) = wc.map some) (hn : va_nd isC = true) :
    ∀ U : State, U.heap = H → s.WarmedH U.vm → cPn H.size D ty av wc av.toArray U := fun U hU hW =>
  ⟨rfl, by rw [hU], by rw [hU]; exact va_P_at hP isC hC, va_K.moved hW.alike hK, (hD.sub isC hn hC).weaken (fun _ _ _ _ => trivial), by
    rw [hU]; exact ((hZ.kept hS.2.1).narrow (wIn_A hD isC hC)).moved hW.alike, va_Nw.warmM hW hNw⟩
theorem g_join (hP : va_P D vwCl ws H) (hD : va_D A0 ws) (hS : va_S A0 s.heap H locs) (hA : ∀ q, s.heap.size ≤ q → A0 q) {H1 : Heap} {w1 : va_W} (isC isR : List Nat) (hC : isC.map (fun i => ws[i]?) = wc.map some) (hRr : isR.map (fun i => ws[i]?) = wr.map some) (hn : va_nd isR = true) (hdis : ∀ i ∈ isR, i ∉ isC)
    (hk : ∀ q : Nat, q < H.size → ¬ va_A wc H.size q → H1[q]? = H[q]?) (hP1 : va_P D vwCl w1 H1) (hD1 : va_D (va_A wc H.size) w1) : va_P D vwCl (wr ++ w1) H1 ∧ va_D A0 (wr ++ w1) :=
  va_join hP hD isC isR hC hRr hn hdis hk (va_free hD hS hA isC hC) hP1 hD1
/-- a nest mate's constructor -/
theorem call_GN {post : va_W → Prop} (S : CallFix p m c cc nL s args bw own) (hM : Gv l y (Cond.code y cb maxL none :: bw) fr lo mc ms H.size D ty (.ref b :: As) wc post) {host : String} (hgd : GoodIn bw (Cond.code y cb maxL none :: bw)) (hlk : va_Nw (.methodLinkNest own index y host) s) (hini : (Cond.initialized y.cls) ∈ bw) (him : Cond.instanceMethod y ∈ bw) (hy : y.name = "<init>")
    (hd : y.cls ≠ "java/lang/invoke/MethodHandle" ∧ y.cls ≠ "java/lang/invoke/VarHandle" ∧ (parseMethodDescriptor y.desc).map (fun d => d.parameters.length) = some As.length) (hR : fr + 1 ≤ R.frames ∧ 8 + (maxL + 11) + lo ≤ R.locals) (hroom : cells + mc ≤ R.cells ∧ slots + ms ≤ R.slots)
    (hP : va_P D vwCl ws H) (hD : va_D A0 ws) (hK : va_K D vwCl ty s) (hS : va_S A0 s.heap H locs) (hA : ∀ q, s.heap.size ≤ q → A0 q) (hZ : pwOK A0 s s.heap) (hNw : va_Nw (.methodLinkNest RX1 9 yX0_init RX1) s)
    (isC isR : List Nat) (hC : isC.map (fun i => ws[i]?) = wc.map some) (hRr : isR.map (fun i => ws[i]?) = wr.map some) (hnC : va_nd isC = true) (hn : va_nd isR = true) (hdis : ∀ i ∈ isR, i ∉ isC)
    (hls : ls.size = nL) (hst : st0 = As.reverse ++ .ref b :: rest) (hrest : (rest.map fun v => v.category).sum ≤ 8) (hdg : decode cc pc = .ok (.invokespecial index, 3))
    (kk : ∀ (w1 : va_W) (H1 : Heap) (locs1 : List Loc), post w1 → va_P D vwCl (wr ++ w1) H1 → va_D A0 (wr ++ w1) → va_S A0 s.heap H1 locs1 → W p l e R s m args below meth c H1 locs1 (cells + mc) (slots + ms) Q (F0 m (pc + 3) ls rest)) :
    W p l e R s m args below meth c H locs cells slots Q (F0 m pc ls st0) := by
  refine va_callv (va_runIN (As := As) (rest := rest) (host := host) S hM ⟨va_cnB As.length S.2.2.2.2 hgd rfl rfl rfl hlk (S.2.2.2.2 _ hini) hd hR, hy, S.2.2.2.2 _ him⟩ ⟨cPn_blind, cPn_pre hK hZ hNw hP hD hS isC hC hnC⟩ rfl rfl hls hst (lv_room hrest) hdg hroom) hS (fun q _ h => va_free hD hS hA isC hC q h) (va_free hD hS hA isC hC) (fun u t H1 locs1 ht hvm hw hB hz1 hk1 hS1 => ?_)
  obtain ⟨hP1, hD1⟩ := hB
  rw [ht] at hP1
  obtain ⟨hP2, hD2⟩ := g_join hP hD hS hA isC isR hC hRr hn hdis hk1 hP1 hD1
  exact kk u H1 locs1 hw hP2 hD2 hS1
/-- a constructor -/
theorem call_GI {post : va_W → Prop} (S : CallFix p m c cc nL s args bw own) (hM : Gv l y (Cond.code y cb maxL none :: bw) fr lo mc ms H.size D ty (.ref b :: As) wc post) (hgd : GoodIn bw (Cond.code y cb maxL none :: bw)) (hlk : Cond.methodLink own index y ∈ bw) (hini : (Cond.initialized y.cls) ∈ bw) (him : Cond.instanceMethod y ∈ bw) (hy : y.name = "<init>")
    (hd : y.cls ≠ "java/lang/invoke/MethodHandle" ∧ y.cls ≠ "java/lang/invoke/VarHandle" ∧ (parseMethodDescriptor y.desc).map (fun d => d.parameters.length) = some As.length) (hR : fr + 1 ≤ R.frames ∧ 8 + (maxL + 11) + lo ≤ R.locals) (hroom : cells + mc ≤ R.cells ∧ slots + ms ≤ R.slots)
    (hP : va_P D vwCl ws H) (hD : va_D A0 ws) (hK : va_K D vwCl ty s) (hS : va_S A0 s.heap H locs) (hA : ∀ q, s.heap.size ≤ q → A0 q) (hZ : pwOK A0 s s.heap) (hNw : va_Nw (.methodLinkNest RX1 9 yX0_init RX1) s)
    (isC isR : List Nat) (hC : isC.map (fun i => ws[i]?) = wc.map some) (hRr : isR.map (fun i => ws[i]?) = wr.map some) (hnC : va_nd isC = true) (hn : va_nd isR = true) (hdis : ∀ i ∈ isR, i ∉ isC)
    (hls : ls.size = nL) (hst : st0 = As.reverse ++ .ref b :: rest) (hrest : (rest.map fun v => v.category).sum ≤ 8) (hdg : decode cc pc = .ok (.invokespecial index, 3))
    (kk : ∀ (w1 : va_W) (H1 : Heap) (locs1 : List Loc), post w1 → va_P D vwCl (wr ++ w1) H1 → va_D A0 (wr ++ w1) → va_S A0 s.heap H1 locs1 → W p l e R s m args below meth c H1 locs1 (cells + mc) (slots + ms) Q (F0 m (pc + 3) ls rest)) :
    W p l e R s m args below meth c H locs cells slots Q (F0 m pc ls st0) := by
  refine va_callv (va_runI (As := As) (rest := rest) S hM (cwI As.length S.2.2.2.2 hgd rfl rfl rfl (S.2.2.2.2 _ hini) (S.2.2.2.2 _ hlk) (S.2.2.2.2 _ him) hy hd hR) ⟨cPn_blind, cPn_pre hK hZ hNw hP hD hS isC hC hnC⟩ rfl rfl hls hst (lv_room hrest) hdg hroom) hS (fun q _ h => va_free hD hS hA isC hC q h) (va_free hD hS hA isC hC) (fun u t H1 locs1 ht hvm hw hB hz1 hk1 hS1 => ?_)
  obtain ⟨hP1, hD1⟩ := hB
  rw [ht] at hP1
  obtain ⟨hP2, hD2⟩ := g_join hP hD hS hA isC isR hC hRr hn hdis hk1 hP1 hD1
  exact kk u H1 locs1 hw hP2 hD2 hS1
/-- the model's digest -/
theorem call_GL {post : Int64 → va_W → Prop} {rt : FieldType} (S : CallFix p m c cc nL s args bw own) (hM : Gl l y (Cond.code y cb maxL (some rt) :: bw) fr lo mc ms H.size D ty (.ref b :: As) wc post) (hg : GoodIn bw (wsV own index C y (Cond.code y cb maxL (some rt) :: bw)))
    (hd : y.cls = C ∧ y.cls ≠ "java/lang/invoke/MethodHandle" ∧ y.cls ≠ "java/lang/invoke/VarHandle" ∧ (parseMethodDescriptor y.desc).map (fun d => d.parameters.length) = some As.length) (hR : fr + 1 ≤ R.frames ∧ 8 + (maxL + 11) + lo ≤ R.locals) (hroom : cells + mc ≤ R.cells ∧ slots + ms ≤ R.slots)
    (hP : va_P D vwCl ws H) (hD : va_D A0 ws) (hK : va_K D vwCl ty s) (hS : va_S A0 s.heap H locs) (hA : ∀ q, s.heap.size ≤ q → A0 q) (hZ : pwOK A0 s s.heap) (hNw : va_Nw (.methodLinkNest RX1 9 yX0_init RX1) s)
    (isC isR : List Nat) (hC : isC.map (fun i => ws[i]?) = wc.map some) (hRr : isR.map (fun i => ws[i]?) = wr.map some) (hnC : va_nd isC = true) (hn : va_nd isR = true) (hdis : ∀ i ∈ isR, i ∉ isC)
    (k0 : Nat) (hrec : wc[k0]? = some (b, .inr (ci, fs))) (hc : vwCl[ci]? = some (C, T, N)) (hls : ls.size = nL) (hst : st0 = As.reverse ++ .ref b :: rest) (hrest : (rest.map fun v => v.category).sum ≤ 8) (hdg : decode cc pc = .ok (.invokevirtual index, 3))
    (kk : ∀ (r : Int64) (w1 : va_W) (H1 : Heap) (locs1 : List Loc), post r w1 → va_P D vwCl (wr ++ w1) H1 → va_D A0 (wr ++ w1) → va_S A0 s.heap H1 locs1 → W p l e R s m args below meth c H1 locs1 (cells + mc) (slots + ms) Q (F0 m (pc + 3) ls (.long r :: rest))) :
    W p l e R s m args below meth c H locs cells slots Q (F0 m pc ls st0) := by
  refine va_calll (va_runV (As := As) (rest := rest) S hM (cwV As.length S.2.2.2.2 hg rfl rfl rfl hd hR) ⟨cPn_blind, va_recv hK (va_P_at hP isC hC) (ci := ci) (q0 := k0) hc hrec, cPn_pre hK hZ hNw hP hD hS isC hC hnC⟩ rfl rfl hls hst (lv_room hrest) hdg hroom) hS (fun q _ h => va_free hD hS hA isC hC q h) (va_free hD hS hA isC hC) (fun r u t H1 locs1 ht hvm hw hB hz1 hk1 hS1 => ?_)
  obtain ⟨hP1, hD1⟩ := hB
  rw [ht] at hP1
  obtain ⟨hP2, hD2⟩ := g_join hP hD hS hA isC isR hC hRr hn hdis hk1 hP1 hD1
  exact kk r u H1 locs1 hw hP2 hD2 hS1
end
section
variable {l : Launch} {y : MethodName} {cc : ByteArray} {n fr lo mc ms sz : Nat} {D : va_G} {ty : List (ClassId × FieldType)} {av : List Value} {w : va_W}
theorem Gv_of {post : va_W → Prop} (hy : plainName y.cls = true) (hn : (lg_sl av).length ≤ n)
    (body : ∀ (p : Program) (e : Env) (s : State) (m : MethodId) (args : Array Value) (below : List Frame) (meth : Method) (c : Code) (Q : State → Prop) (ls : Array Slot) (A : Nat → Prop), CallFix p m c cc n s args bw y.cls → va_P D vwCl w s.heap → va_K D vwCl ty s → va_D A w → (∀ q, s.heap.size ≤ q → A q) → pwOK A s s.heap → va_Nw (.methodLinkNest RX1 9 yX0_init RX1) s → lv_has ls n (lv_args 0 av) → meth.name = y.name →
      (∀ (u : va_W) (H : Heap) (locs : List Loc) (ls' : Array Slot) (pc : Nat), decode cc pc = .ok (.return_, 1) → post u → va_P D vwCl u H → va_D A u → va_S A s.heap H locs → W p l e (rmG fr lo mc ms) s m args below meth c H locs mc ms Q (F0 m pc ls' [])) →
      W p l e (rmG fr lo mc ms) s m args below meth c s.heap [] 0 0 Q (F0 m 0 ls [])) : Gv l y (Cond.code y cc n none :: bw) fr lo mc ms sz D ty av w post := by
  refine Met.ofW (cc := cc) (maxL := n) (ret := none) hy rfl ?_
  intro p e s m args below meth c s₁ B hml hv
  obtain ⟨rfl, hsz, hP, hK, hD0, hZ, hNw⟩ := hv
  subst hsz
  have hts := atoms_spec (ws := Cond.code y cc n none :: bw) B.pre
  rw [lg_entry_eq]
  refine body p e s m _ below meth c _ _ (va_A w s.heap.size) ⟨B.exec, B.bytes, hml, findClass_of_methodNamed B.named, fun w h => hts w (List.mem_cons_of_mem _ h)⟩ hP hK (hD0.self (sz := s.heap.size)) (fun q h => Or.inr h) hZ.grow hNw (lv_entry av (n := n) hn) (name_of_methodNamed B.named B.method).1 ?_
  intro u H locs ls' pc hdg hpost hPu hDu hS
  exact W.vret B.exec B.bytes B.returns (fun t ht hW => ⟨⟨u, rfl, hpost, by rw [ht]; exact hPu, hDu⟩, hS.F ht⟩) hS.2.2 hdg B.notSynchronized
theorem Gl_of {post : Int64 → va_W → Prop} (hy : plainName y.cls = true) (hn : (lg_sl av).length ≤ n)
    (body : ∀ (p : Program) (e : Env) (s : State) (m : MethodId) (args : Array Value) (below : List Frame) (meth : Method) (c : Code) (Q : State → Prop) (ls : Array Slot) (A : Nat → Prop), CallFix p m c cc n s args bw y.cls → va_P D vwCl w s.heap → va_K D vwCl ty s → va_D A w → (∀ q, s.heap.size ≤ q → A q) → pwOK A s s.heap → va_Nw (.methodLinkNest RX1 9 yX0_init RX1) s → lv_has ls n (lv_args 0 av) → meth.name = y.name →
      (∀ (v : Int64) (u : va_W) (H : Heap) (locs : List Loc) (ls' : Array Slot) (pc : Nat), decode cc pc = .ok (.lreturn, 1) → post v u → va_P D vwCl u H → va_D A u → va_S A s.heap H locs → W p l e (rmG fr lo mc ms) s m args below meth c H locs mc ms Q (F0 m pc ls' [.long v])) →
      W p l e (rmG fr lo mc ms) s m args below meth c s.heap [] 0 0 Q (F0 m 0 ls [])) : Gl l y (Cond.code y cc n (some .long) :: bw) fr lo mc ms sz D ty av w post := by
  refine Met.ofW (cc := cc) (maxL := n) (ret := some .long) hy rfl ?_
  intro p e s m args below meth c s₁ B hml hv
  obtain ⟨rfl, hsz, hP, hK, hD0, hZ, hNw⟩ := hv
  subst hsz
  have hts := atoms_spec (ws := Cond.code y cc n (some .long) :: bw) B.pre
  rw [lg_entry_eq]
  refine body p e s m _ below meth c _ _ (va_A w s.heap.size) ⟨B.exec, B.bytes, hml, findClass_of_methodNamed B.named, fun w h => hts w (List.mem_cons_of_mem _ h)⟩ hP hK (hD0.self (sz := s.heap.size)) (fun q h => Or.inr h) hZ.grow hNw (lv_entry av (n := n) hn) (name_of_methodNamed B.named B.method).1 ?_
  intro v u H locs ls' pc hdg hpost hPu hDu hS
  exact W.lret (v := v) B.exec B.bytes B.returns (fun t ht hW => ⟨⟨v, u, rfl, hpost, by rw [ht]; exact hPu, hDu⟩, hS.F ht⟩) hS.2.2 hdg B.notSynchronized
end
