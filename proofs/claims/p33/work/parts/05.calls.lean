/-! contracts in one form: a method of the game or of the model over its world w; the answer and the world behind it by post; nothing is made -/
abbrev rmB (f lo : Nat) : Room := { frames := f, cells := 0, slots := 0, locals := lo }
def wIn (w : va_W) : Nat → Prop := fun q => q ∈ w.map (·.1)
/-- what the tables say that no list of steady words carries: the array classes of arrays, the nest mates' constructors -/
def zOK (U : State) : Prop := va_AOA .boolean U ∧ va_AOA .int U ∧ va_Nw (.methodLinkNest RX1 9 yX0_init RX1) U ∧ va_Nw (.methodLinkNest RL 95 yX2_init RL) U
theorem zOK.warm {s U : State} (hW : s.WarmedH U.vm) (h : zOK s) : zOK U := ⟨h.1.moved hW.alike, h.2.1.moved hW.alike, va_Nw.warmM hW h.2.2.1, va_Nw.warmM hW h.2.2.2⟩
def cP (D : va_G) (ty : List (ClassId × FieldType)) (av : List Value) (w : va_W) : Array Value → State → Prop := va_Pc av (fun U => va_P D vwCl w U.heap ∧ va_K D vwCl ty U ∧ va_D (fun _ => True) w ∧ zOK U)
theorem cP_blind {D : va_G} {ty : List (ClassId × FieldType)} {av : List Value} {w : va_W} : FrameBlind (cP D ty av w) := fun a U g mk q => by
  obtain ⟨q0, qP, qK, qD, qZ⟩ := q
  exact ⟨q0, qP, va_K.moved (u := U) (U := U.calling g mk a) (Vm.Alike.refl U.vm) qK, qD, zOK.warm (s := U) (U := U.calling g mk a) (State.WarmedH.refl U) qZ⟩
def cB (D : va_G) (w : va_W) : va_W → State → Prop := fun u t => va_P D vwCl u t.heap ∧ (u.map (·.1)).Perm (w.map (·.1))
abbrev Mi (l : Launch) (y : MethodName) (ws : List Cond) (fr lo : Nat) (D : va_G) (ty : List (ClassId × FieldType)) (av : List Value) (w : va_W) (post : Int32 → va_W → Prop) : Prop := Met l y ws (rmB fr lo) (cP D ty av w) (va_Qi post (cB D w) (wIn w)) 0 0 (wIn w)
abbrev Ml (l : Launch) (y : MethodName) (ws : List Cond) (fr lo : Nat) (D : va_G) (ty : List (ClassId × FieldType)) (av : List Value) (w : va_W) (post : Int64 → va_W → Prop) : Prop := Met l y ws (rmB fr lo) (cP D ty av w) (va_Ql post (cB D w) (wIn w)) 0 0 (wIn w)
abbrev Md (l : Launch) (y : MethodName) (ws : List Cond) (fr lo : Nat) (D : va_G) (ty : List (ClassId × FieldType)) (av : List Value) (w : va_W) (post : UInt64 → va_W → Prop) : Prop := Met l y ws (rmB fr lo) (cP D ty av w) (va_Qd post (cB D w) (wIn w)) 0 0 (wIn w)
abbrev Mv (l : Launch) (y : MethodName) (ws : List Cond) (fr lo : Nat) (D : va_G) (ty : List (ClassId × FieldType)) (av : List Value) (w : va_W) (post : va_W → Prop) : Prop := Met l y ws (rmB fr lo) (cP D ty av w) (va_Qv post (cB D w) (wIn w)) 0 0 (wIn w)
abbrev Mp (l : Launch) (y : MethodName) (ws : List Cond) (fr lo : Nat) (D : va_G) (ty : List (ClassId × FieldType)) (av : List Value) (w : va_W) (post : Int32 → Prop) : Prop := Mi l y ws fr lo D ty av w (fun r u => u = w ∧ post r)
theorem wIn_of {w : va_W} {k : Nat} {q : Nat × va_E} (h : w[k]? = some q) : wIn w q.1 := List.mem_map.mpr ⟨q, List.mem_of_getElem? h, rfl⟩
theorem va_D_iff {A : Nat → Prop} {w : va_W} : va_D A w ↔ (w.map (·.1)).Nodup ∧ ∀ a ∈ w.map (·.1), A a := by
  constructor
  · intro h
    refine ⟨List.pairwise_iff_getElem.mpr fun i j hi hj hij he => ?_, fun a ha => ?_⟩
    · have hi' : i < w.length := by simpa using hi
      have hj' : j < w.length := by simpa using hj
      have := h.1 i j w[i] w[j] (List.getElem?_eq_getElem hi') (List.getElem?_eq_getElem hj') (by simpa using he)
      omega
    · obtain ⟨x, hx, rfl⟩ := List.mem_map.mp ha
      obtain ⟨k, hk⟩ := List.getElem?_of_mem hx
      exact h.2 k x hk
  · rintro ⟨h1, h2⟩
    refine ⟨fun i j x y hi hj hxy => ?_, fun k q hk => h2 _ (wIn_of hk)⟩
    have e1 : (w.map (·.1))[i]? = some x.1 := by rw [List.getElem?_map, hi]; rfl
    have e2 : (w.map (·.1))[j]? = some x.1 := by rw [List.getElem?_map, hj, hxy]; rfl
    obtain ⟨hi2, e1⟩ := List.getElem?_eq_some_iff.mp e1
    obtain ⟨hj2, e2⟩ := List.getElem?_eq_some_iff.mp e2
    rcases Nat.lt_trichotomy i j with hlt | heq | hlt
    · exact absurd (e1.trans e2.symm) (List.pairwise_iff_getElem.mp h1 i j hi2 hj2 hlt)
    · exact heq
    · exact absurd (e2.trans e1.symm) (List.pairwise_iff_getElem.mp h1 j i hj2 hi2 hlt)
theorem va_D_same {A : Nat → Prop} {w u : va_W} (h : va_D A w) (e : (u.map (·.1)).Perm (w.map (·.1))) : va_D A u := by
  rw [va_D_iff] at h ⊢
  exact ⟨e.symm.nodup h.1, fun a ha => h.2 a (e.mem_iff.mp ha)⟩
theorem wIn_A {A0 : Nat → Prop} {ws wc : va_W} (hD : va_D A0 ws) (isC : List Nat) (hC : isC.map (fun i => ws[i]?) = wc.map some) : ∀ q, wIn wc q → A0 q := by
  intro q hq
  obtain ⟨x, hx, rfl⟩ := List.mem_map.mp hq
  obtain ⟨k, hk⟩ := List.getElem?_of_mem hx
  have h1 : (isC.map (fun i => ws[i]?))[k]? = some (some x) := by rw [hC, List.getElem?_map, hk]; rfl
  rw [List.getElem?_map] at h1
  cases hi : isC[k]? with
  | none => rw [hi] at h1; cases h1
  | some i => rw [hi] at h1; exact hD.2 i x (Option.some.inj h1)
theorem va_P_at {D : va_G} {cl : List vw_C} {ws wc : va_W} {H : Heap} (hP : va_P D cl ws H) (isC : List Nat) (hC : isC.map (fun i => ws[i]?) = wc.map some) : va_P D cl wc H := by
  intro k q hk
  have h1 : (isC.map (fun i => ws[i]?))[k]? = some (some q) := by rw [hC, List.getElem?_map, hk]; rfl
  rw [List.getElem?_map] at h1
  cases hi : isC[k]? with
  | none => rw [hi] at h1; cases h1
  | some i => rw [hi] at h1; exact hP i q (Option.some.inj h1)
/-- behind a call over a part of the world -/
theorem my_join {A0 : Nat → Prop} {D : va_G} {cl : List vw_C} {ws wc wr w1 : va_W} {H H1 : Heap} (hP : va_P D cl ws H) (hD : va_D A0 ws) (isC isR : List Nat) (hC : isC.map (fun i => ws[i]?) = wc.map some) (hR : isR.map (fun i => ws[i]?) = wr.map some) (hn : va_nd (isR ++ isC) = true)
    (hk : ∀ q : Nat, q < H.size → ¬ wIn wc q → H1[q]? = H[q]?) (hP1 : va_P D cl w1 H1) (he : (w1.map (·.1)).Perm (wc.map (·.1))) : va_P D cl (wr ++ w1) H1 ∧ va_D A0 (wr ++ w1) := by
  have hall : (isR ++ isC).map (fun i => ws[i]?) = (wr ++ wc).map some := by rw [List.map_append, List.map_append, hC, hR]
  have hDa : va_D A0 (wr ++ wc) := hD.sub (isR ++ isC) hn hall
  have hPr : va_P D cl wr H := va_P_at hP isR hR
  have hD2 : va_D A0 (wr ++ w1) := va_D_same hDa (by rw [List.map_append, List.map_append]; exact he.append_left _)
  refine ⟨va_P.app ?_ hP1, hD2⟩
  intro k q hk2
  refine (hPr k q hk2).kept (hk q.1 (hPr k q hk2).lt (fun hq => ?_))
  obtain ⟨x, hx, hxe⟩ := List.mem_map.mp hq
  obtain ⟨j, hj⟩ := List.getElem?_of_mem hx
  have hlk : k < wr.length := (List.getElem?_eq_some_iff.mp hk2).1
  have e1 : (wr ++ wc)[k]? = some q := by rw [List.getElem?_append_left hlk]; exact hk2
  have e2 : (wr ++ wc)[wr.length + j]? = some x := by rw [List.getElem?_append_right (by omega)]; rw [show wr.length + j - wr.length = j by omega]; exact hj
  have := hDa.1 k (wr.length + j) q x e1 e2 hxe.symm
  omega
theorem my_same {A0 : Nat → Prop} {D : va_G} {cl : List vw_C} {ws wc : va_W} {H H1 : Heap} (hP : va_P D cl ws H) (hD : va_D A0 ws) (isC : List Nat) (hC : isC.map (fun i => ws[i]?) = wc.map some)
    (hk : ∀ q : Nat, q < H.size → ¬ wIn wc q → H1[q]? = H[q]?) (hP1 : va_P D cl wc H1) : va_P D cl ws H1 := by
  intro k q hkq
  by_cases hq : wIn wc q.1
  · obtain ⟨x, hx, hxe⟩ := List.mem_map.mp hq
    obtain ⟨j, hj⟩ := List.getElem?_of_mem hx
    have h1 : (isC.map (fun i => ws[i]?))[j]? = some (some x) := by rw [hC, List.getElem?_map, hj]; rfl
    rw [List.getElem?_map] at h1
    cases hi : isC[j]? with
    | none => rw [hi] at h1; cases h1
    | some i =>
      rw [hi] at h1
      have hix : ws[i]? = some x := Option.some.inj h1
      have := hD.1 i k x q hix hkq hxe
      subst this
      have : x = q := Option.some.inj (hix.symm.trans hkq)
      rw [← this]
      exact hP1 j x hj
  · exact (hP k q hkq).kept (hk q.1 (hP k q hkq).lt hq)
section CC
variable {p : Program} {l : Launch} {e : Env} {R : Room} {s : State} {m : MethodId} {args : Array Value} {below : List Frame} {meth : Method} {c : Code} {H : Heap} {locs : List Loc} {cells slots : Nat} {Q : State → Prop}
variable {pc : Nat} {ls : Array Slot} {rest st0 : List Value}
theorem W_i {x y : Int32} (h : x = y) (k : W p l e R s m args below meth c H locs cells slots Q (F0 m pc ls (.int y :: rest))) : W p l e R s m args below meth c H locs cells slots Q (F0 m pc ls (.int x :: rest)) := h ▸ k
theorem W_l {x y : Int64} (h : x = y) (k : W p l e R s m args below meth c H locs cells slots Q (F0 m pc ls (.long y :: rest))) : W p l e R s m args below meth c H locs cells slots Q (F0 m pc ls (.long x :: rest)) := h ▸ k
variable {y : MethodName} {cc cb : ByteArray} {nL maxL index fr lo : Nat} {rt : FieldType} {own C : String} {D : va_G} {ty : List (ClassId × FieldType)} {A0 : Nat → Prop} {b : Addr} {As : List Value} {ws wc wr : va_W} {k0 ci N : Nat} {fs : List Value} {T : u_T}
theorem cP_pre {av : List Value} (hK : va_K D vwCl ty s) (hZ : zOK s) (hP : va_P D vwCl ws H) (hD : va_D A0 ws) (hS : va_S A0 s.heap H locs) (isC : List Nat) (hC : isC.map (fun i => ws[i]?) = wc.map some) (hn : va_nd isC = true) :
    ∀ U : State, U.heap = H → s.WarmedH U.vm → cP D ty av wc av.toArray U := fun U hU hW =>
  ⟨rfl, by rw [hU]; exact va_P_at hP isC hC, va_K.moved hW.alike hK, (hD.sub isC hn hC).weaken (fun _ _ _ _ => trivial), zOK.warm hW hZ⟩
theorem va_nd_sub {l1 l2 : List Nat} (h : va_nd (l1 ++ l2) = true) : va_nd l2 = true := by
  induction l1 with
  | nil => exact h
  | cons a t ih =>
    simp only [List.cons_append, va_nd, Bool.and_eq_true] at h
    exact ih h.2
theorem call_Vi {post : Int32 → va_W → Prop} (S : CallFix p m c cc nL s args bw own) (hM : Mi l y (Cond.code y cb maxL (some rt) :: bw) fr lo D ty (.ref b :: As) wc post) (hg : GoodIn bw (wsV own index C y (Cond.code y cb maxL (some rt) :: bw)))
    (hd : y.cls = C ∧ y.cls ≠ "java/lang/invoke/MethodHandle" ∧ y.cls ≠ "java/lang/invoke/VarHandle" ∧ (parseMethodDescriptor y.desc).map (fun d => d.parameters.length) = some As.length) (hR : fr + 1 ≤ R.frames ∧ 8 + (maxL + 11) + lo ≤ R.locals) (hroom : cells ≤ R.cells ∧ slots ≤ R.slots)
    (hP : va_P D vwCl ws H) (hD : va_D A0 ws) (hK : va_K D vwCl ty s) (hS : va_S A0 s.heap H locs) (hZ : zOK s)
    (isC isR : List Nat) (hC : isC.map (fun i => ws[i]?) = wc.map some) (hRr : isR.map (fun i => ws[i]?) = wr.map some) (hn : va_nd (isR ++ isC) = true)
    (k0 : Nat) (hrec : wc[k0]? = some (b, .inr (ci, fs))) (hc : vwCl[ci]? = some (C, T, N)) (hls : ls.size = nL) (hst : st0 = As.reverse ++ .ref b :: rest) (hrest : (rest.map fun v => v.category).sum ≤ 8) (hdg : decode cc pc = .ok (.invokevirtual index, 3))
    (kk : ∀ (r : Int32) (w1 : va_W) (H1 : Heap) (locs1 : List Loc), post r w1 → va_P D vwCl (wr ++ w1) H1 → va_D A0 (wr ++ w1) → va_S A0 s.heap H1 locs1 → W p l e R s m args below meth c H1 locs1 cells slots Q (F0 m (pc + 3) ls (.int r :: rest))) :
    W p l e R s m args below meth c H locs cells slots Q (F0 m pc ls st0) := by
  refine va_calli (va_runV (As := As) (rest := rest) S hM (cwV As.length S.2.2.2.2 hg rfl rfl rfl hd hR) ⟨cP_blind, va_recv hK (va_P_at hP isC hC) (ci := ci) (q0 := k0) hc hrec, cP_pre hK hZ hP hD hS isC hC (va_nd_sub hn)⟩ rfl rfl hls hst (lv_room hrest) hdg hroom) hS (fun q _ h => wIn_A hD isC hC q h) (wIn_A hD isC hC) (fun r u t H1 locs1 ht hvm hw hB hz1 hk1 hS1 => ?_)
  obtain ⟨hP1, he⟩ := hB
  rw [ht] at hP1
  obtain ⟨hP2, hD2⟩ := my_join hP hD isC isR hC hRr hn hk1 hP1 he
  exact kk r u H1 locs1 hw hP2 hD2 hS1
theorem call_Vv {post : va_W → Prop} (S : CallFix p m c cc nL s args bw own) (hM : Mv l y (Cond.code y cb maxL none :: bw) fr lo D ty (.ref b :: As) wc post) (hg : GoodIn bw (wsV own index C y (Cond.code y cb maxL none :: bw)))
    (hd : y.cls = C ∧ y.cls ≠ "java/lang/invoke/MethodHandle" ∧ y.cls ≠ "java/lang/invoke/VarHandle" ∧ (parseMethodDescriptor y.desc).map (fun d => d.parameters.length) = some As.length) (hR : fr + 1 ≤ R.frames ∧ 8 + (maxL + 11) + lo ≤ R.locals) (hroom : cells ≤ R.cells ∧ slots ≤ R.slots)
    (hP : va_P D vwCl ws H) (hD : va_D A0 ws) (hK : va_K D vwCl ty s) (hS : va_S A0 s.heap H locs) (hZ : zOK s)
    (isC isR : List Nat) (hC : isC.map (fun i => ws[i]?) = wc.map some) (hRr : isR.map (fun i => ws[i]?) = wr.map some) (hn : va_nd (isR ++ isC) = true)
    (k0 : Nat) (hrec : wc[k0]? = some (b, .inr (ci, fs))) (hc : vwCl[ci]? = some (C, T, N)) (hls : ls.size = nL) (hst : st0 = As.reverse ++ .ref b :: rest) (hrest : (rest.map fun v => v.category).sum ≤ 8) (hdg : decode cc pc = .ok (.invokevirtual index, 3))
    (kk : ∀ (w1 : va_W) (H1 : Heap) (locs1 : List Loc), post w1 → va_P D vwCl (wr ++ w1) H1 → va_D A0 (wr ++ w1) → va_S A0 s.heap H1 locs1 → W p l e R s m args below meth c H1 locs1 cells slots Q (F0 m (pc + 3) ls rest)) :
    W p l e R s m args below meth c H locs cells slots Q (F0 m pc ls st0) := by
  refine va_callv (va_runV (As := As) (rest := rest) S hM (cwV As.length S.2.2.2.2 hg rfl rfl rfl hd hR) ⟨cP_blind, va_recv hK (va_P_at hP isC hC) (ci := ci) (q0 := k0) hc hrec, cP_pre hK hZ hP hD hS isC hC (va_nd_sub hn)⟩ rfl rfl hls hst (lv_room hrest) hdg hroom) hS (fun q _ h => wIn_A hD isC hC q h) (wIn_A hD isC hC) (fun u t H1 locs1 ht hvm hw hB hz1 hk1 hS1 => ?_)
  obtain ⟨hP1, he⟩ := hB
  rw [ht] at hP1
  obtain ⟨hP2, hD2⟩ := my_join hP hD isC isR hC hRr hn hk1 hP1 he
  exact kk u H1 locs1 hw hP2 hD2 hS1
theorem call_Vl {post : Int64 → va_W → Prop} (S : CallFix p m c cc nL s args bw own) (hM : Ml l y (Cond.code y cb maxL (some rt) :: bw) fr lo D ty (.ref b :: As) wc post) (hg : GoodIn bw (wsV own index C y (Cond.code y cb maxL (some rt) :: bw)))
    (hd : y.cls = C ∧ y.cls ≠ "java/lang/invoke/MethodHandle" ∧ y.cls ≠ "java/lang/invoke/VarHandle" ∧ (parseMethodDescriptor y.desc).map (fun d => d.parameters.length) = some As.length) (hR : fr + 1 ≤ R.frames ∧ 8 + (maxL + 11) + lo ≤ R.locals) (hroom : cells ≤ R.cells ∧ slots ≤ R.slots)
    (hP : va_P D vwCl ws H) (hD : va_D A0 ws) (hK : va_K D vwCl ty s) (hS : va_S A0 s.heap H locs) (hZ : zOK s)
    (isC isR : List Nat) (hC : isC.map (fun i => ws[i]?) = wc.map some) (hRr : isR.map (fun i => ws[i]?) = wr.map some) (hn : va_nd (isR ++ isC) = true)
    (k0 : Nat) (hrec : wc[k0]? = some (b, .inr (ci, fs))) (hc : vwCl[ci]? = some (C, T, N)) (hls : ls.size = nL) (hst : st0 = As.reverse ++ .ref b :: rest) (hrest : (rest.map fun v => v.category).sum ≤ 8) (hdg : decode cc pc = .ok (.invokevirtual index, 3))
    (kk : ∀ (r : Int64) (w1 : va_W) (H1 : Heap) (locs1 : List Loc), post r w1 → va_P D vwCl (wr ++ w1) H1 → va_D A0 (wr ++ w1) → va_S A0 s.heap H1 locs1 → W p l e R s m args below meth c H1 locs1 cells slots Q (F0 m (pc + 3) ls (.long r :: rest))) :
    W p l e R s m args below meth c H locs cells slots Q (F0 m pc ls st0) := by
  refine va_calll (va_runV (As := As) (rest := rest) S hM (cwV As.length S.2.2.2.2 hg rfl rfl rfl hd hR) ⟨cP_blind, va_recv hK (va_P_at hP isC hC) (ci := ci) (q0 := k0) hc hrec, cP_pre hK hZ hP hD hS isC hC (va_nd_sub hn)⟩ rfl rfl hls hst (lv_room hrest) hdg hroom) hS (fun q _ h => wIn_A hD isC hC q h) (wIn_A hD isC hC) (fun r u t H1 locs1 ht hvm hw hB hz1 hk1 hS1 => ?_)
  obtain ⟨hP1, he⟩ := hB
  rw [ht] at hP1
  obtain ⟨hP2, hD2⟩ := my_join hP hD isC isR hC hRr hn hk1 hP1 he
  exact kk r u H1 locs1 hw hP2 hD2 hS1
theorem call_Vd {post : UInt64 → va_W → Prop} (S : CallFix p m c cc nL s args bw own) (hM : Md l y (Cond.code y cb maxL (some rt) :: bw) fr lo D ty (.ref b :: As) wc post) (hg : GoodIn bw (wsV own index C y (Cond.code y cb maxL (some rt) :: bw)))
    (hd : y.cls = C ∧ y.cls ≠ "java/lang/invoke/MethodHandle" ∧ y.cls ≠ "java/lang/invoke/VarHandle" ∧ (parseMethodDescriptor y.desc).map (fun d => d.parameters.length) = some As.length) (hR : fr + 1 ≤ R.frames ∧ 8 + (maxL + 11) + lo ≤ R.locals) (hroom : cells ≤ R.cells ∧ slots ≤ R.slots)
    (hP : va_P D vwCl ws H) (hD : va_D A0 ws) (hK : va_K D vwCl ty s) (hS : va_S A0 s.heap H locs) (hZ : zOK s)
    (isC isR : List Nat) (hC : isC.map (fun i => ws[i]?) = wc.map some) (hRr : isR.map (fun i => ws[i]?) = wr.map some) (hn : va_nd (isR ++ isC) = true)
    (k0 : Nat) (hrec : wc[k0]? = some (b, .inr (ci, fs))) (hc : vwCl[ci]? = some (C, T, N)) (hls : ls.size = nL) (hst : st0 = As.reverse ++ .ref b :: rest) (hrest : (rest.map fun v => v.category).sum ≤ 8) (hdg : decode cc pc = .ok (.invokevirtual index, 3))
    (kk : ∀ (r : UInt64) (w1 : va_W) (H1 : Heap) (locs1 : List Loc), post r w1 → va_P D vwCl (wr ++ w1) H1 → va_D A0 (wr ++ w1) → va_S A0 s.heap H1 locs1 → W p l e R s m args below meth c H1 locs1 cells slots Q (F0 m (pc + 3) ls (.double r :: rest))) :
    W p l e R s m args below meth c H locs cells slots Q (F0 m pc ls st0) := by
  refine va_calld (va_runV (As := As) (rest := rest) S hM (cwV As.length S.2.2.2.2 hg rfl rfl rfl hd hR) ⟨cP_blind, va_recv hK (va_P_at hP isC hC) (ci := ci) (q0 := k0) hc hrec, cP_pre hK hZ hP hD hS isC hC (va_nd_sub hn)⟩ rfl rfl hls hst (lv_room hrest) hdg hroom) hS (fun q _ h => wIn_A hD isC hC q h) (wIn_A hD isC hC) (fun r u t H1 locs1 ht hvm hw hB hz1 hk1 hS1 => ?_)
  obtain ⟨hP1, he⟩ := hB
  rw [ht] at hP1
  obtain ⟨hP2, hD2⟩ := my_join hP hD isC isR hC hRr hn hk1 hP1 he
  exact kk r u H1 locs1 hw hP2 hD2 hS1
theorem call_Si {post : Int32 → va_W → Prop} (S : CallFix p m c cc nL s args bw own) (hM : Mi l y (Cond.code y cb maxL (some rt) :: bw) fr lo D ty As wc post) (hg : GoodIn bw (va_wsS own index y (Cond.code y cb maxL (some rt) :: bw)))
    (hd : y.cls ≠ "java/lang/invoke/MethodHandle" ∧ y.cls ≠ "java/lang/invoke/VarHandle" ∧ (parseMethodDescriptor y.desc).map (fun d => d.parameters.length) = some As.length) (hR : fr + 1 ≤ R.frames ∧ 8 + (maxL + 11) + lo ≤ R.locals) (hroom : cells ≤ R.cells ∧ slots ≤ R.slots)
    (hP : va_P D vwCl ws H) (hD : va_D A0 ws) (hK : va_K D vwCl ty s) (hS : va_S A0 s.heap H locs) (hZ : zOK s)
    (isC isR : List Nat) (hC : isC.map (fun i => ws[i]?) = wc.map some) (hRr : isR.map (fun i => ws[i]?) = wr.map some) (hn : va_nd (isR ++ isC) = true)
    (hls : ls.size = nL) (hst : st0 = As.reverse ++ rest) (hrest : (rest.map fun v => v.category).sum ≤ 8) (hdg : decode cc pc = .ok (.invokestatic index, 3))
    (kk : ∀ (r : Int32) (w1 : va_W) (H1 : Heap) (locs1 : List Loc), post r w1 → va_P D vwCl (wr ++ w1) H1 → va_D A0 (wr ++ w1) → va_S A0 s.heap H1 locs1 → W p l e R s m args below meth c H1 locs1 cells slots Q (F0 m (pc + 3) ls (.int r :: rest))) :
    W p l e R s m args below meth c H locs cells slots Q (F0 m pc ls st0) := by
  refine va_calli (va_runS (As := As) (rest := rest) S hM (va_cwS As.length S.2.2.2.2 hg rfl rfl rfl hd hR) ⟨cP_blind, cP_pre hK hZ hP hD hS isC hC (va_nd_sub hn)⟩ rfl rfl hls hst (lv_room hrest) hdg hroom) hS (fun q _ h => wIn_A hD isC hC q h) (wIn_A hD isC hC) (fun r u t H1 locs1 ht hvm hw hB hz1 hk1 hS1 => ?_)
  obtain ⟨hP1, he⟩ := hB
  rw [ht] at hP1
  obtain ⟨hP2, hD2⟩ := my_join hP hD isC isR hC hRr hn hk1 hP1 he
  exact kk r u H1 locs1 hw hP2 hD2 hS1
theorem call_Sl {post : Int64 → va_W → Prop} (S : CallFix p m c cc nL s args bw own) (hM : Ml l y (Cond.code y cb maxL (some rt) :: bw) fr lo D ty As wc post) (hg : GoodIn bw (va_wsS own index y (Cond.code y cb maxL (some rt) :: bw)))
    (hd : y.cls ≠ "java/lang/invoke/MethodHandle" ∧ y.cls ≠ "java/lang/invoke/VarHandle" ∧ (parseMethodDescriptor y.desc).map (fun d => d.parameters.length) = some As.length) (hR : fr + 1 ≤ R.frames ∧ 8 + (maxL + 11) + lo ≤ R.locals) (hroom : cells ≤ R.cells ∧ slots ≤ R.slots)
    (hP : va_P D vwCl ws H) (hD : va_D A0 ws) (hK : va_K D vwCl ty s) (hS : va_S A0 s.heap H locs) (hZ : zOK s)
    (isC isR : List Nat) (hC : isC.map (fun i => ws[i]?) = wc.map some) (hRr : isR.map (fun i => ws[i]?) = wr.map some) (hn : va_nd (isR ++ isC) = true)
    (hls : ls.size = nL) (hst : st0 = As.reverse ++ rest) (hrest : (rest.map fun v => v.category).sum ≤ 8) (hdg : decode cc pc = .ok (.invokestatic index, 3))
    (kk : ∀ (r : Int64) (w1 : va_W) (H1 : Heap) (locs1 : List Loc), post r w1 → va_P D vwCl (wr ++ w1) H1 → va_D A0 (wr ++ w1) → va_S A0 s.heap H1 locs1 → W p l e R s m args below meth c H1 locs1 cells slots Q (F0 m (pc + 3) ls (.long r :: rest))) :
    W p l e R s m args below meth c H locs cells slots Q (F0 m pc ls st0) := by
  refine va_calll (va_runS (As := As) (rest := rest) S hM (va_cwS As.length S.2.2.2.2 hg rfl rfl rfl hd hR) ⟨cP_blind, cP_pre hK hZ hP hD hS isC hC (va_nd_sub hn)⟩ rfl rfl hls hst (lv_room hrest) hdg hroom) hS (fun q _ h => wIn_A hD isC hC q h) (wIn_A hD isC hC) (fun r u t H1 locs1 ht hvm hw hB hz1 hk1 hS1 => ?_)
  obtain ⟨hP1, he⟩ := hB
  rw [ht] at hP1
  obtain ⟨hP2, hD2⟩ := my_join hP hD isC isR hC hRr hn hk1 hP1 he
  exact kk r u H1 locs1 hw hP2 hD2 hS1
theorem call_Sv {post : va_W → Prop} (S : CallFix p m c cc nL s args bw own) (hM : Mv l y (Cond.code y cb maxL none :: bw) fr lo D ty As wc post) (hg : GoodIn bw (va_wsS own index y (Cond.code y cb maxL none :: bw)))
    (hd : y.cls ≠ "java/lang/invoke/MethodHandle" ∧ y.cls ≠ "java/lang/invoke/VarHandle" ∧ (parseMethodDescriptor y.desc).map (fun d => d.parameters.length) = some As.length) (hR : fr + 1 ≤ R.frames ∧ 8 + (maxL + 11) + lo ≤ R.locals) (hroom : cells ≤ R.cells ∧ slots ≤ R.slots)
    (hP : va_P D vwCl ws H) (hD : va_D A0 ws) (hK : va_K D vwCl ty s) (hS : va_S A0 s.heap H locs) (hZ : zOK s)
    (isC isR : List Nat) (hC : isC.map (fun i => ws[i]?) = wc.map some) (hRr : isR.map (fun i => ws[i]?) = wr.map some) (hn : va_nd (isR ++ isC) = true)
    (hls : ls.size = nL) (hst : st0 = As.reverse ++ rest) (hrest : (rest.map fun v => v.category).sum ≤ 8) (hdg : decode cc pc = .ok (.invokestatic index, 3))
    (kk : ∀ (w1 : va_W) (H1 : Heap) (locs1 : List Loc), post w1 → va_P D vwCl (wr ++ w1) H1 → va_D A0 (wr ++ w1) → va_S A0 s.heap H1 locs1 → W p l e R s m args below meth c H1 locs1 cells slots Q (F0 m (pc + 3) ls rest)) :
    W p l e R s m args below meth c H locs cells slots Q (F0 m pc ls st0) := by
  refine va_callv (va_runS (As := As) (rest := rest) S hM (va_cwS As.length S.2.2.2.2 hg rfl rfl rfl hd hR) ⟨cP_blind, cP_pre hK hZ hP hD hS isC hC (va_nd_sub hn)⟩ rfl rfl hls hst (lv_room hrest) hdg hroom) hS (fun q _ h => wIn_A hD isC hC q h) (wIn_A hD isC hC) (fun u t H1 locs1 ht hvm hw hB hz1 hk1 hS1 => ?_)
  obtain ⟨hP1, he⟩ := hB
  rw [ht] at hP1
  obtain ⟨hP2, hD2⟩ := my_join hP hD isC isR hC hRr hn hk1 hP1 he
  exact kk u H1 locs1 hw hP2 hD2 hS1
theorem call_Vp {post : Int32 → Prop} (S : CallFix p m c cc nL s args bw own) (hM : Mp l y (Cond.code y cb maxL (some rt) :: bw) fr lo D ty (.ref b :: As) wc post) (hg : GoodIn bw (wsV own index C y (Cond.code y cb maxL (some rt) :: bw)))
    (hd : y.cls = C ∧ y.cls ≠ "java/lang/invoke/MethodHandle" ∧ y.cls ≠ "java/lang/invoke/VarHandle" ∧ (parseMethodDescriptor y.desc).map (fun d => d.parameters.length) = some As.length) (hR : fr + 1 ≤ R.frames ∧ 8 + (maxL + 11) + lo ≤ R.locals) (hroom : cells ≤ R.cells ∧ slots ≤ R.slots)
    (hP : va_P D vwCl ws H) (hD : va_D A0 ws) (hK : va_K D vwCl ty s) (hS : va_S A0 s.heap H locs) (hZ : zOK s)
    (isC : List Nat) (hC : isC.map (fun i => ws[i]?) = wc.map some) (hn : va_nd isC = true)
    (k0 : Nat) (hrec : wc[k0]? = some (b, .inr (ci, fs))) (hc : vwCl[ci]? = some (C, T, N)) (hls : ls.size = nL) (hst : st0 = As.reverse ++ .ref b :: rest) (hrest : (rest.map fun v => v.category).sum ≤ 8) (hdg : decode cc pc = .ok (.invokevirtual index, 3))
    (kk : ∀ (r : Int32) (H1 : Heap) (locs1 : List Loc), post r → va_P D vwCl ws H1 → va_S A0 s.heap H1 locs1 → W p l e R s m args below meth c H1 locs1 cells slots Q (F0 m (pc + 3) ls (.int r :: rest))) :
    W p l e R s m args below meth c H locs cells slots Q (F0 m pc ls st0) := by
  refine va_calli (va_runV (As := As) (rest := rest) S hM (cwV As.length S.2.2.2.2 hg rfl rfl rfl hd hR) ⟨cP_blind, va_recv hK (va_P_at hP isC hC) (ci := ci) (q0 := k0) hc hrec, cP_pre hK hZ hP hD hS isC hC hn⟩ rfl rfl hls hst (lv_room hrest) hdg hroom) hS (fun q _ h => wIn_A hD isC hC q h) (wIn_A hD isC hC) (fun r u t H1 locs1 ht hvm hw hB hz1 hk1 hS1 => ?_)
  obtain ⟨hP1, he⟩ := hB
  obtain ⟨rfl, hw⟩ := hw
  rw [ht] at hP1
  exact kk r H1 locs1 hw (my_same hP hD isC hC hk1 hP1) hS1
theorem call_Sp {post : Int32 → Prop} (S : CallFix p m c cc nL s args bw own) (hM : Mp l y (Cond.code y cb maxL (some rt) :: bw) fr lo D ty As wc post) (hg : GoodIn bw (va_wsS own index y (Cond.code y cb maxL (some rt) :: bw)))
    (hd : y.cls ≠ "java/lang/invoke/MethodHandle" ∧ y.cls ≠ "java/lang/invoke/VarHandle" ∧ (parseMethodDescriptor y.desc).map (fun d => d.parameters.length) = some As.length) (hR : fr + 1 ≤ R.frames ∧ 8 + (maxL + 11) + lo ≤ R.locals) (hroom : cells ≤ R.cells ∧ slots ≤ R.slots)
    (hP : va_P D vwCl ws H) (hD : va_D A0 ws) (hK : va_K D vwCl ty s) (hS : va_S A0 s.heap H locs) (hZ : zOK s)
    (isC : List Nat) (hC : isC.map (fun i => ws[i]?) = wc.map some) (hn : va_nd isC = true)
    (hls : ls.size = nL) (hst : st0 = As.reverse ++ rest) (hrest : (rest.map fun v => v.category).sum ≤ 8) (hdg : decode cc pc = .ok (.invokestatic index, 3))
    (kk : ∀ (r : Int32) (H1 : Heap) (locs1 : List Loc), post r → va_P D vwCl ws H1 → va_S A0 s.heap H1 locs1 → W p l e R s m args below meth c H1 locs1 cells slots Q (F0 m (pc + 3) ls (.int r :: rest))) :
    W p l e R s m args below meth c H locs cells slots Q (F0 m pc ls st0) := by
  refine va_calli (va_runS (As := As) (rest := rest) S hM (va_cwS As.length S.2.2.2.2 hg rfl rfl rfl hd hR) ⟨cP_blind, cP_pre hK hZ hP hD hS isC hC hn⟩ rfl rfl hls hst (lv_room hrest) hdg hroom) hS (fun q _ h => wIn_A hD isC hC q h) (wIn_A hD isC hC) (fun r u t H1 locs1 ht hvm hw hB hz1 hk1 hS1 => ?_)
  obtain ⟨hP1, he⟩ := hB
  obtain ⟨rfl, hw⟩ := hw
  rw [ht] at hP1
  exact kk r H1 locs1 hw (my_same hP hD isC hC hk1 hP1) hS1
end CC
section CO
variable {l : Launch} {y : MethodName} {cc : ByteArray} {n fr lo : Nat} {rt : FieldType} {D : va_G} {ty : List (ClassId × FieldType)} {av : List Value} {w : va_W}
theorem va_D_self {A : Nat → Prop} {w : va_W} (h : va_D A w) : va_D (wIn w) w := h.weaken (fun _ _ hk _ => wIn_of hk)
theorem Mi_of {post : Int32 → va_W → Prop} (hy : plainName y.cls = true) (hn : (lg_sl av).length ≤ n)
    (body : ∀ (p : Program) (e : Env) (s : State) (m : MethodId) (args : Array Value) (below : List Frame) (meth : Method) (c : Code) (Q : State → Prop) (ls : Array Slot), CallFix p m c cc n s args bw y.cls → va_P D vwCl w s.heap → va_K D vwCl ty s → va_D (wIn w) w → zOK s → lv_has ls n (lv_args 0 av) →
      (∀ (v : Int32) (u : va_W) (H : Heap) (locs : List Loc) (ls' : Array Slot) (pc : Nat), decode cc pc = .ok (.ireturn, 1) → narrow rt (.int v) = .int v → post v u → (u.map (·.1)).Perm (w.map (·.1)) → va_P D vwCl u H → va_S (wIn w) s.heap H locs → W p l e (rmB fr lo) s m args below meth c H locs 0 0 Q (F0 m pc ls' [.int v])) →
      W p l e (rmB fr lo) s m args below meth c s.heap [] 0 0 Q (F0 m 0 ls [])) : Mi l y (Cond.code y cc n (some rt) :: bw) fr lo D ty av w post := by
  refine Met.ofW (cc := cc) (maxL := n) (ret := some rt) hy rfl ?_
  intro p e s m args below meth c s₁ B hml hv
  obtain ⟨rfl, hP, hK, hD0, hZ⟩ := hv
  have hts := atoms_spec (ws := Cond.code y cc n (some rt) :: bw) B.pre
  rw [lg_entry_eq]
  refine body p e s m _ below meth c _ _ ⟨B.exec, B.bytes, hml, findClass_of_methodNamed B.named, fun w h => hts w (List.mem_cons_of_mem _ h)⟩ hP hK (va_D_self hD0) hZ (lv_entry av (n := n) hn) ?_
  intro v u H locs ls' pc hdg hnr hpost hu hPu hS
  exact W.zret (v := v) B.exec B.bytes B.returns hnr (fun t ht hW => ⟨⟨v, u, rfl, hpost, by rw [ht]; exact hPu, hu⟩, hS.F ht⟩) hS.2.2 hdg B.notSynchronized
theorem Ml_of {post : Int64 → va_W → Prop} (hy : plainName y.cls = true) (hn : (lg_sl av).length ≤ n)
    (body : ∀ (p : Program) (e : Env) (s : State) (m : MethodId) (args : Array Value) (below : List Frame) (meth : Method) (c : Code) (Q : State → Prop) (ls : Array Slot), CallFix p m c cc n s args bw y.cls → va_P D vwCl w s.heap → va_K D vwCl ty s → va_D (wIn w) w → zOK s → lv_has ls n (lv_args 0 av) →
      (∀ (v : Int64) (u : va_W) (H : Heap) (locs : List Loc) (ls' : Array Slot) (pc : Nat), decode cc pc = .ok (.lreturn, 1) → post v u → (u.map (·.1)).Perm (w.map (·.1)) → va_P D vwCl u H → va_S (wIn w) s.heap H locs → W p l e (rmB fr lo) s m args below meth c H locs 0 0 Q (F0 m pc ls' [.long v])) →
      W p l e (rmB fr lo) s m args below meth c s.heap [] 0 0 Q (F0 m 0 ls [])) : Ml l y (Cond.code y cc n (some .long) :: bw) fr lo D ty av w post := by
  refine Met.ofW (cc := cc) (maxL := n) (ret := some .long) hy rfl ?_
  intro p e s m args below meth c s₁ B hml hv
  obtain ⟨rfl, hP, hK, hD0, hZ⟩ := hv
  have hts := atoms_spec (ws := Cond.code y cc n (some .long) :: bw) B.pre
  rw [lg_entry_eq]
  refine body p e s m _ below meth c _ _ ⟨B.exec, B.bytes, hml, findClass_of_methodNamed B.named, fun w h => hts w (List.mem_cons_of_mem _ h)⟩ hP hK (va_D_self hD0) hZ (lv_entry av (n := n) hn) ?_
  intro v u H locs ls' pc hdg hpost hu hPu hS
  exact W.lret (v := v) B.exec B.bytes B.returns (fun t ht hW => ⟨⟨v, u, rfl, hpost, by rw [ht]; exact hPu, hu⟩, hS.F ht⟩) hS.2.2 hdg B.notSynchronized
theorem Md_of {post : UInt64 → va_W → Prop} (hy : plainName y.cls = true) (hn : (lg_sl av).length ≤ n)
    (body : ∀ (p : Program) (e : Env) (s : State) (m : MethodId) (args : Array Value) (below : List Frame) (meth : Method) (c : Code) (Q : State → Prop) (ls : Array Slot), CallFix p m c cc n s args bw y.cls → va_P D vwCl w s.heap → va_K D vwCl ty s → va_D (wIn w) w → zOK s → lv_has ls n (lv_args 0 av) →
      (∀ (v : UInt64) (u : va_W) (H : Heap) (locs : List Loc) (ls' : Array Slot) (pc : Nat), decode cc pc = .ok (.dreturn, 1) → post v u → (u.map (·.1)).Perm (w.map (·.1)) → va_P D vwCl u H → va_S (wIn w) s.heap H locs → W p l e (rmB fr lo) s m args below meth c H locs 0 0 Q (F0 m pc ls' [.double v])) →
      W p l e (rmB fr lo) s m args below meth c s.heap [] 0 0 Q (F0 m 0 ls [])) : Md l y (Cond.code y cc n (some .double) :: bw) fr lo D ty av w post := by
  refine Met.ofW (cc := cc) (maxL := n) (ret := some .double) hy rfl ?_
  intro p e s m args below meth c s₁ B hml hv
  obtain ⟨rfl, hP, hK, hD0, hZ⟩ := hv
  have hts := atoms_spec (ws := Cond.code y cc n (some .double) :: bw) B.pre
  rw [lg_entry_eq]
  refine body p e s m _ below meth c _ _ ⟨B.exec, B.bytes, hml, findClass_of_methodNamed B.named, fun w h => hts w (List.mem_cons_of_mem _ h)⟩ hP hK (va_D_self hD0) hZ (lv_entry av (n := n) hn) ?_
  intro v u H locs ls' pc hdg hpost hu hPu hS
  exact W.dret (v := v) B.exec B.bytes B.returns (fun t ht hW => ⟨⟨v, u, rfl, hpost, by rw [ht]; exact hPu, hu⟩, hS.F ht⟩) hS.2.2 hdg B.notSynchronized
theorem Mv_of {post : va_W → Prop} (hy : plainName y.cls = true) (hn : (lg_sl av).length ≤ n)
    (body : ∀ (p : Program) (e : Env) (s : State) (m : MethodId) (args : Array Value) (below : List Frame) (meth : Method) (c : Code) (Q : State → Prop) (ls : Array Slot), CallFix p m c cc n s args bw y.cls → va_P D vwCl w s.heap → va_K D vwCl ty s → va_D (wIn w) w → zOK s → lv_has ls n (lv_args 0 av) →
      (∀ (u : va_W) (H : Heap) (locs : List Loc) (ls' : Array Slot) (pc : Nat), decode cc pc = .ok (.return_, 1) → post u → (u.map (·.1)).Perm (w.map (·.1)) → va_P D vwCl u H → va_S (wIn w) s.heap H locs → W p l e (rmB fr lo) s m args below meth c H locs 0 0 Q (F0 m pc ls' [])) →
      W p l e (rmB fr lo) s m args below meth c s.heap [] 0 0 Q (F0 m 0 ls [])) : Mv l y (Cond.code y cc n none :: bw) fr lo D ty av w post := by
  refine Met.ofW (cc := cc) (maxL := n) (ret := none) hy rfl ?_
  intro p e s m args below meth c s₁ B hml hv
  obtain ⟨rfl, hP, hK, hD0, hZ⟩ := hv
  have hts := atoms_spec (ws := Cond.code y cc n none :: bw) B.pre
  rw [lg_entry_eq]
  refine body p e s m _ below meth c _ _ ⟨B.exec, B.bytes, hml, findClass_of_methodNamed B.named, fun w h => hts w (List.mem_cons_of_mem _ h)⟩ hP hK (va_D_self hD0) hZ (lv_entry av (n := n) hn) ?_
  intro u H locs ls' pc hdg hpost hu hPu hS
  exact W.vret B.exec B.bytes B.returns (fun t ht hW => ⟨⟨u, rfl, hpost, by rw [ht]; exact hPu, hu⟩, hS.F ht⟩) hS.2.2 hdg B.notSynchronized
end CO
