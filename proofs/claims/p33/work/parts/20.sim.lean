/-! worlds with rows: blocks of cells in a number that is no numeral -/
def rB (f : Nat → va_E) (ad : Nat → Nat) (m : Nat) : va_W := (List.range m).map (fun w => (ad w, f w))
theorem rB_get {f : Nat → va_E} {ad : Nat → Nat} {m w : Nat} (h : w < m) : (rB f ad m)[w]? = some (ad w, f w) := by
  rw [rB, List.getElem?_map, List.getElem?_range h]; rfl
theorem rB_mem {f : Nat → va_E} {ad : Nat → Nat} {m w : Nat} (h : w < m) : (ad w, f w) ∈ rB f ad m := List.mem_map.mpr ⟨w, List.mem_range.mpr h, rfl⟩
theorem rB_len (f : Nat → va_E) (ad : Nat → Nat) (m : Nat) : (rB f ad m).length = m := by simp [rB]
theorem rB_fst (f : Nat → va_E) (ad : Nat → Nat) (m : Nat) : (rB f ad m).map (·.1) = (List.range m).map ad := by
  rw [rB, List.map_map]; rfl
theorem rB_congr {f g : Nat → va_E} {ad : Nat → Nat} {m : Nat} (h : ∀ w, w < m → f w = g w) : rB f ad m = rB g ad m := by
  refine List.map_congr_left (fun w hw => ?_)
  rw [h w (List.mem_range.mp hw)]
theorem rB_set {f : Nat → va_E} {ad : Nat → Nat} {m w : Nat} {e : va_E} (h : w < m) : (rB f ad m).set w (ad w, e) = rB (upN f w e) ad m := by
  apply List.ext_getElem?
  intro j
  by_cases hj : j = w
  · subst hj
    rw [List.getElem?_set_self (by rw [rB_len]; exact h), rB_get h, upN_s]
  · rw [List.getElem?_set_ne (Ne.symm hj)]
    by_cases hl : j < m
    · rw [rB_get hl, rB_get hl, upN_n _ _ hj]
    · rw [List.getElem?_eq_none (by rw [rB_len]; omega), List.getElem?_eq_none (by rw [rB_len]; omega)]
theorem rB_pl (e : va_E) (f : Nat → va_E) (r : Nat → Nat) (N : Nat) : va_pl ([] ++ (List.range N).map r) (vr_up f ((List.range N).map r) e) = rB (fun _ => e) r N := by
  simp only [va_pl, List.nil_append, List.map_map, rB]
  refine List.map_congr_left (fun w hw => ?_)
  simp only [Function.comp]
  rw [vr_up_in (List.mem_map.mpr ⟨w, hw, rfl⟩)]
abbrev eZ (cZ : ClassId) (n : Nat) (f : Nat → Bool) : va_E := .inl (cZ, n, .inl (fun k => bI (f k)))
abbrev eI (cI : ClassId) (n : Nat) (f : Nat → Nat) : va_E := .inl (cI, n, .inl (fun k => nI (f k)))
abbrev eQ (cA : ClassId) (n : Nat) (ad : Nat → Nat) : va_E := .inl (cA, n, .inr (.inr (.inr (.inr (fun i => if i < n then some (ad i) else none)))))
abbrev sO (b0 n tn sl : Nat) (bg : Bool) (b1 b2 b3 b4 : Nat) : Nat × va_E := (b0, .inr (2, [.int (nI n), .int (nI tn), .int (nI sl), .int (bI bg), .ref b1, .ref b2, .ref b3, .ref b4]))
/-- the law's own model: the object, hats, who sees whom, the ways, which are open -/
abbrev sW (cI cZ cS cW : ClassId) (b0 b1 b2 b3 b4 n m tn sl : Nat) (bg : Bool) (ht rs : Nat → Nat) (sn : Nat → Nat → Bool) (rw : Nat → Nat) (wy : Nat → Nat → Nat) (o : Nat → Bool) : va_W :=
  [(b0, .inr (2, [.int (nI n), .int (nI tn), .int (nI sl), .int (bI bg), .ref b1, .ref b2, .ref b3, .ref b4])), (b1, .inl (cI, n, .inl (fun k => nI (ht k)))), (b2, eQ cS n rs), (b3, eQ cW m rw), (b4, .inl (cZ, m, .inl (fun k => bI (o k))))] ++ (rB (fun p => eZ cZ n (sn p)) rs n ++ rB (fun w => eI cI n (wy w)) rw m)
theorem eZ_up {cZ : ClassId} {n : Nat} {sn : Nat → Nat → Bool} {p k : Nat} {v : Bool} : upN (fun p => eZ cZ n (sn p)) p (eZ cZ n (upN (sn p) k v)) = fun q => eZ cZ n (upN sn p (upN (sn p) k v) q) := by
  funext q
  by_cases h : q = p
  · subst h; simp [upN_s]
  · simp [upN_n _ _ h]
theorem eI_up {cI : ClassId} {n : Nat} {wy : Nat → Nat → Nat} {p k : Nat} {v : Nat} : upN (fun p => eI cI n (wy p)) p (eI cI n (upN (wy p) k v)) = fun q => eI cI n (upN wy p (upN (wy p) k v) q) := by
  funext q
  by_cases h : q = p
  · subst h; simp [upN_s]
  · simp [upN_n _ _ h]
theorem va_P_iff {D : va_G} {cl : List vw_C} {ws : va_W} {H : Heap} : va_P D cl ws H ↔ ∀ q ∈ ws, va_at D cl q H := by
  constructor
  · intro h q hq
    obtain ⟨k, hk⟩ := List.getElem?_of_mem hq
    exact h k q hk
  · intro h k q hk
    exact h q (List.mem_of_getElem? hk)
theorem va_P.one {D : va_G} {cl : List vw_C} {ws : va_W} {H : Heap} (h : va_P D cl ws H) {q : Nat × va_E} (hq : q ∈ ws) : va_P D cl [q] H :=
  va_P_iff.mpr (fun x hx => by rw [List.mem_singleton.mp hx]; exact va_P_iff.mp h q hq)
theorem va_P.sl {D : va_G} {cl : List vw_C} {ws u : va_W} {H : Heap} (h : va_P D cl ws H) (hs : u.Sublist ws) : va_P D cl u H := va_P_iff.mpr (fun q hq => va_P_iff.mp h q (hs.subset hq))
theorem va_D.sl {A : Nat → Prop} {ws u : va_W} (h : va_D A ws) (hs : u.Sublist ws) : va_D A u := by
  rw [va_D_iff] at h ⊢
  exact ⟨(hs.map _).nodup h.1, fun a ha => h.2 a ((hs.map _).subset ha)⟩
theorem va_P.pm {D : va_G} {cl : List vw_C} {ws u : va_W} {H : Heap} (h : va_P D cl ws H) (hs : u.Perm ws) : va_P D cl u H := va_P_iff.mpr (fun q hq => va_P_iff.mp h q (hs.mem_iff.mp hq))
theorem va_D.pm {A : Nat → Prop} {ws u : va_W} (h : va_D A ws) (hs : u.Perm ws) : va_D A u := va_D_same h (hs.map _)
/-- behind a call over the last part of the world -/
theorem j_part {A0 : Nat → Prop} {D : va_G} {wr wc w1 : va_W} {H H1 : Heap} (hP : va_P D vwCl (wr ++ wc) H) (hD : va_D A0 (wr ++ wc)) (B : Nat → Prop) (hB : ∀ q, B q → A0 q) (hBw : ∀ q, q < H.size → B q → wIn wc q) (hk : ∀ q : Nat, q < H.size → ¬ B q → H1[q]? = H[q]?) (hP1 : va_P D vwCl w1 H1) (hD1 : va_D B w1) : va_P D vwCl (wr ++ w1) H1 ∧ va_D A0 (wr ++ w1) := by
  have hwr : ∀ x ∈ wr, x.1 < H.size ∧ ¬ wIn wc x.1 := by
    intro x hx
    refine ⟨(va_P_iff.mp hP x (List.mem_append_left _ hx)).lt, fun hq => ?_⟩
    have hn := (va_D_iff.mp hD).1
    rw [List.map_append] at hn
    exact (List.nodup_append.mp hn).2.2 x.1 (List.mem_map.mpr ⟨x, hx, rfl⟩) x.1 hq rfl
  refine ⟨va_P_iff.mpr (fun x hx => ?_), va_D.app (hD.sl (List.sublist_append_left wr wc)) (hD1.weaken (fun _ q _ h => hB _ h)) (fun i j p q hi hj he => ?_)⟩
  · rcases List.mem_append.mp hx with h | h
    · obtain ⟨h1, h2⟩ := hwr x h
      exact (va_P_iff.mp hP x (List.mem_append_left _ h)).kept (hk x.1 h1 (fun hb => h2 (hBw _ h1 hb)))
    · exact va_P_iff.mp hP1 x h
  · obtain ⟨h1, h2⟩ := hwr p (List.mem_of_getElem? hi)
    have hb : B q.1 := hD1.2 j q hj
    rw [← he] at hb
    exact h2 (hBw _ h1 hb)
theorem va_A_lt {wc : va_W} {sz q : Nat} (h : va_A wc sz q) (hq : q < sz) : wIn wc q := by
  rcases h with ⟨k, e, hk⟩ | h
  · exact wIn_of hk
  · omega
theorem my_sameS {A0 : Nat → Prop} {D : va_G} {ws wc : va_W} {H H1 : Heap} (hP : va_P D vwCl ws H) (hD : va_D A0 ws) (hs : wc.Sublist ws) (hk : ∀ q : Nat, q < H.size → ¬ wIn wc q → H1[q]? = H[q]?) (hP1 : va_P D vwCl wc H1) : va_P D vwCl ws H1 := by
  refine va_P_iff.mpr (fun q hq => ?_)
  by_cases hw : wIn wc q.1
  · obtain ⟨x, hx, he⟩ := List.mem_map.mp hw
    obtain ⟨i, hi⟩ := List.getElem?_of_mem (hs.subset hx)
    obtain ⟨j, hj⟩ := List.getElem?_of_mem hq
    have := hD.1 i j x q hi hj he
    subst this
    rw [hi] at hj
    cases hj
    exact va_P_iff.mp hP1 _ hx
  · exact (va_P_iff.mp hP q hq).kept (hk q.1 (va_P_iff.mp hP q hq).lt hw)
theorem wIn_sub {A0 : Nat → Prop} {ws wc : va_W} (hD : va_D A0 ws) (hs : wc.Sublist ws) : ∀ q, wIn wc q → A0 q := by
  intro q hq
  obtain ⟨x, hx, rfl⟩ := List.mem_map.mp hq
  obtain ⟨k, hk⟩ := List.getElem?_of_mem (hs.subset hx)
  exact hD.2 k x hk
/-! methods that make cells -/
abbrev rmG (f lo mc ms : Nat) : Room := { frames := f, cells := mc, slots := ms, locals := lo }
def cPn (sz : Nat) (D : va_G) (ty : List (ClassId × FieldType)) (av : List Value) (w : va_W) : Array Value → State → Prop := va_Pc av (fun U => U.heap.size = sz ∧ va_P D vwCl w U.heap ∧ va_K D vwCl ty U ∧ va_D (fun _ => True) w ∧ zOK U)
theorem cPn_blind {sz : Nat} {D : va_G} {ty : List (ClassId × FieldType)} {av : List Value} {w : va_W} : FrameBlind (cPn sz D ty av w) := fun a U g mk q => by
  obtain ⟨q0, qs, qP, qK, qD, qZ⟩ := q
  exact ⟨q0, qs, qP, va_K.moved (u := U) (U := U.calling g mk a) (Vm.Alike.refl U.vm) qK, qD, zOK.warm (s := U) (U := U.calling g mk a) (State.WarmedH.refl U) qZ⟩
def gB (D : va_G) (w : va_W) (sz : Nat) : va_W → State → Prop := fun u t => va_P D vwCl u t.heap ∧ va_D (va_A w sz) u
abbrev Gv (l : Launch) (y : MethodName) (ws : List Cond) (fr lo mc ms sz : Nat) (D : va_G) (ty : List (ClassId × FieldType)) (av : List Value) (w : va_W) (post : va_W → Prop) : Prop := Met l y ws (rmG fr lo mc ms) (cPn sz D ty av w) (va_Qv post (gB D w sz) (va_A w sz)) mc ms (va_A w sz)
abbrev Gi (l : Launch) (y : MethodName) (ws : List Cond) (fr lo mc ms sz : Nat) (D : va_G) (ty : List (ClassId × FieldType)) (av : List Value) (w : va_W) (post : Int32 → va_W → Prop) : Prop := Met l y ws (rmG fr lo mc ms) (cPn sz D ty av w) (va_Qi post (gB D w sz) (va_A w sz)) mc ms (va_A w sz)
theorem q_oi_X0 : Cond.methodLink RX0 3 Lib.objectInit ∈ bw := by decide +kernel
theorem q_oi_X1 : Cond.methodLink RX1 1 Lib.objectInit ∈ bw := by decide +kernel
theorem q_oi_X2 : Cond.methodLink RX2 1 Lib.objectInit ∈ bw := by decide +kernel
theorem q_oi_im : Cond.instanceMethod Lib.objectInit ∈ bw := by decide +kernel
theorem q_oi_c : Cond.code Lib.objectInit ⟨#[0xb1]⟩ 1 none ∈ bw := by decide +kernel
section
variable {p : Program} {l : Launch} {e : Env} {R : Room} {s : State} {m : MethodId} {args : Array Value} {below : List Frame} {meth : Method} {c : Code} {H : Heap} {locs : List Loc} {cells slots : Nat} {Q : State → Prop}
variable {pc : Nat} {ls : Array Slot} {rest st0 : List Value} {cc : ByteArray} {D : va_G} {cl : List vw_C} {A : Nat → Prop} {a : Nat} {tys : List (ClassId × FieldType)} {ws : va_W} {H0 : Heap}
theorem ra_of {U : State} {cA : ClassId} {ty : FieldType} (hp : ty = .int ∨ ty = .boolean ∨ ty = .array .int ∨ ty = .array .boolean) (h : va_RA U cA ty) : U.vm.findClass ("[" ++ ty.toString) = some cA := by
  rcases hp with rfl | rfl | rfl | rfl <;> exact h
/-- a new row, put behind the part P of the world -/
theorem my_newa (hexec : p.tables.exec = Jvm.exec) (hb : c.code = cc) {atype : ArrayType} (harr : (Cond.arrayClass (newarray.typeOf atype)).before args s = true) {ty : FieldType} (hty : newarray.typeOf atype = ty) (hK : va_K D cl tys s) (t0 : Nat) {cI : ClassId} (ht0 : tys[t0]? = some (cI, ty)) (P T : va_W) (hP : va_P D cl (P ++ T) H) (hD : va_D A (P ++ T)) (hS : va_S A H0 H locs) (hA : ∀ q, H0.size ≤ q → A q)
    {n : Int32} {N' : Nat} {a0 : vp_A} (ha : ∀ cA : ClassId, vp_cell cA a0 = arrV cA N' (fun _ => defaultValue ty)) (hn : ¬ n < 0) (hN : n.toNatClampNeg = N') (hbytes : N' * componentBytes ty ≤ 536870912) (hcells : cells + 1 ≤ R.cells) (hslots : slots + N' ≤ R.slots) (hdg : decode cc pc = .ok (.newarray atype, 2)) (hprim : ty = .int ∨ ty = .boolean ∨ ty = .array .int ∨ ty = .array .boolean)
    (kk : ∀ (q : Nat) (H1 : Heap), va_P D cl (P ++ (q, .inl (cI, a0)) :: T) H1 → va_D A (P ++ (q, .inl (cI, a0)) :: T) → va_S A H0 H1 locs →
      W p l e R s m args below meth c H1 locs (cells + 1) (slots + N') Q (F0 m (pc + 2) ls (.ref q :: rest))) : W p l e R s m args below meth c H locs cells slots Q (F0 m pc ls (.int n :: rest)) := by
  refine va_newa hexec hb harr hty hK hP hD hS hA ha hn hN hbytes hcells hslots hdg (fun q cA H1 hK1 hP1 hD1 hS1 => ?_)
  have e1 := ra_of hprim (hK.2 t0 _ ht0).2
  have hk1 : (tys ++ [(cA, ty)])[tys.length]? = some (cA, ty) := by simp
  have e2 := ra_of hprim (hK1.2 tys.length _ hk1).2
  have : cA = cI := Option.some.inj (e2.symm.trans e1)
  subst this
  have hp : (P ++ (q, .inl (cA, a0)) :: T).Perm ((P ++ T) ++ [(q, .inl (cA, a0))]) := by
    rw [List.append_assoc]
    exact (List.perm_append_comm (l₁ := [(q, .inl (cA, a0))]) (l₂ := T)).append_left P
  exact kk q H1 (hP1.pm hp) (hD1.pm hp) hS1
/-- a row of rows: new T[n][k] -/
theorem my_mna {X T : va_W} (hexec : p.tables.exec = Jvm.exec) (hb : c.code = cc) {own : String} {index : Nat} {ty : FieldType} (t0 t1 : Nat) {cA cy : ClassId} (ht0 : tys[t0]? = some (cA, .array ty)) (ht1 : tys[t1]? = some (cy, ty)) (hprim : ty = .int ∨ ty = .boolean) (hown : s.vm.findClass own = some m.cls) (hclink : (Cond.classLink own index ("[" ++ (FieldType.array ty).toString)).before args s = true) (hover : va_AOA ty s) (harr : (Cond.arrayClass ty).before args s = true)
    (hK : va_K D cl tys s) (hP : va_P D cl (X ++ T) H) (hD : va_D A (X ++ T)) (hS : va_S A H0 H locs) (hA : ∀ q, H0.size ≤ q → A q) {n k : Int32} {N' K' : Nat} {z : vp_A} (hn : ¬ n < 0) (hk : ¬ k < 0) (hN : n.toNatClampNeg = N') (hM : k.toNatClampNeg = K')
    (hb1 : N' ≤ 1000) (hb2 : K' ≤ 1000) (hcells : cells + (1 + N') ≤ R.cells) (hslots : slots + (N' + N' * K') ≤ R.slots) (hz : ∀ c : ClassId, vp_cell c z = arrV c K' (fun _ => defaultValue ty)) (hdg : decode cc pc = .ok (.multianewarray index 2, 4))
    (kk : ∀ (q : Nat) (r : Nat → Nat) (H1 : Heap), va_P D cl ((X ++ [(q, eQ cA N' r)]) ++ (T ++ rB (fun _ => .inl (cy, z)) r N')) H1 → va_D A ((X ++ [(q, eQ cA N' r)]) ++ (T ++ rB (fun _ => .inl (cy, z)) r N')) → va_S A H0 H1 locs →
      W p l e R s m args below meth c H1 locs (cells + 1 + N') (slots + N' + N' * K') Q (F0 m (pc + 4) ls (.ref q :: rest))) : W p l e R s m args below meth c H locs cells slots Q (F0 m pc ls (.int k :: .int n :: rest)) := by
  have hcy : s.vm.findClass (FieldType.array ty).toString = some cy := by
    have h := (hK.2 t1 _ ht1).2
    rcases hprim with rfl | rfl <;> exact h
  have hcb : componentBytes ty ≤ 8 := by cases ty <;> simp [componentBytes]
  refine va_mna (X := X ++ T) (L := []) (f := fun _ => .inl (cy, z)) (z := z) hexec hb hown hclink hover harr hcy hK (by rw [va_pl, List.map_nil, List.append_nil]; exact hP) (by rw [va_pl, List.map_nil, List.append_nil]; exact hD) hS hA hn hk hN hM (by omega) (Nat.le_trans (Nat.mul_le_mul hb2 hcb) (by omega)) (by omega) (by rcases hprim with rfl | rfl <;> rfl) (by rcases hprim with rfl | rfl <;> rfl) hcells hslots (fun c => by rw [hz]; exact arrV_new _ _ _) hdg (fun q r cA2 H1 _ _ hK1 hP1 hD1 hS1 => ?_)
  have e1 : s.vm.findClass ("[" ++ (FieldType.array ty).toString) = some cA := by
    have h := (hK.2 t0 _ ht0).2
    rcases hprim with rfl | rfl <;> exact h
  have hk1 : (tys ++ [(cA2, .array ty)])[tys.length]? = some (cA2, .array ty) := by simp
  have e2 : s.vm.findClass ("[" ++ (FieldType.array ty).toString) = some cA2 := by
    have h := (hK1.2 tys.length _ hk1).2
    rcases hprim with rfl | rfl <;> exact h
  have : cA2 = cA := Option.some.inj (e2.symm.trans e1)
  subst this
  rw [rB_pl] at hP1 hD1
  have hp : ((X ++ [(q, eQ cA2 N' r)]) ++ (T ++ rB (fun _ => .inl (cy, z)) r N')).Perm (((X ++ T) ++ [(q, eQ cA2 N' r)]) ++ rB (fun _ => .inl (cy, z)) r N') := by
    rw [← List.append_assoc]
    refine List.Perm.append_right _ ?_
    rw [List.append_assoc, List.append_assoc]
    exact (List.perm_append_comm (l₁ := [(q, eQ cA2 N' r)]) (l₂ := T)).append_left X
  exact kk q r H1 (hP1.pm hp) (hD1.pm hp) hS1
/-- an element of a row of rows -/
theorem aa_ld (hexec : p.tables.exec = Jvm.exec) (hb : c.code = cc) (hK : va_K D cl tys s) (hP : va_P D cl ws H) (q0 t0 : Nat) {cA : ClassId} {ty : FieldType} {n : Nat} {ad : Nat → Nat} (ha : ws[q0]? = some (a, eQ cA n ad)) (ht : tys[t0]? = some (cA, .array ty)) {j : Nat} (hj : j < n) (hn : n < 2 ^ 31) (hdg : decode cc pc = .ok (.aaload, 1))
    (kk : W p l e R s m args below meth c H locs cells slots Q (F0 m (pc + 1) ls (.ref (ad j) :: rest))) : W p l e R s m args below meth c H locs cells slots Q (F0 m pc ls (.int (nI j) :: .ref a :: rest)) := by
  have hlt : (nI j).toNatClampNeg < n := by rw [nI_clamp (by omega)]; exact hj
  exact W.aald (v := .ref (ad j)) (ty := .array ty) hexec hb (hP q0 _ ha) ((hK.2 t0 _ ht).1 n (fun j => va_rf (if j < n then some (ad j) else none))) rfl (fun q => by cases q) (by show ¬ ((nI j) < 0 ∨ (arrV _ _ _).slots.size ≤ _); rw [arrV_size]; exact vp_in_nI hj hn) (by show (arrV _ _ _).slots[_]? = _; rw [arrV_read _ _ hlt, nI_clamp (by omega)]; simp [va_rf, hj]) rfl rfl hdg kk
/-- an int row of the last block is written -/
theorem ri_st {X T : va_W} (hexec : p.tables.exec = Jvm.exec) (hb : c.code = cc) (hK : va_K D cl tys s) {cI : ClassId} {n m2 : Nat} {wy : Nat → Nat → Nat} {ad : Nat → Nat} (hP : va_P D cl (X ++ (T ++ rB (fun w => eI cI n (wy w)) ad m2)) H) (hD : va_D A (X ++ (T ++ rB (fun w => eI cI n (wy w)) ad m2))) (hS : va_S A H0 H locs) (t0 : Nat) (ht : tys[t0]? = some (cI, .int)) {w j v : Nat} (hw : w < m2) (hj : j < n) (hn : n < 2 ^ 31) (hdg : decode cc pc = .ok (.iastore, 1))
    (kk : ∀ (H1 : Heap) (locs1 : List Loc), va_P D cl (X ++ (T ++ rB (fun u => eI cI n (upN wy w (upN (wy w) j v) u)) ad m2)) H1 → va_D A (X ++ (T ++ rB (fun u => eI cI n (upN wy w (upN (wy w) j v) u)) ad m2)) → va_S A H0 H1 locs1 → W p l e R s m args below meth c H1 locs1 cells slots Q (F0 m (pc + 1) ls rest)) : W p l e R s m args below meth c H locs cells slots Q (F0 m pc ls (.int (nI v) :: .int (nI j) :: .ref (ad w) :: rest)) := by
  have hg : (X ++ (T ++ rB (fun w => eI cI n (wy w)) ad m2))[X.length + (T.length + w)]? = some (ad w, eI cI n (wy w)) := by
    rw [List.getElem?_append_right (by omega), Nat.add_sub_cancel_left, List.getElem?_append_right (by omega), Nat.add_sub_cancel_left, rB_get hw]
  refine ia_st hexec hb hK hP hD hS (X.length + (T.length + w)) t0 hg ht hj hn hdg (fun H1 locs1 hP1 hD1 hS1 => ?_)
  have e : (X ++ (T ++ rB (fun w => eI cI n (wy w)) ad m2)).set (X.length + (T.length + w)) (ad w, .inl (cI, n, .inl (fun k => nI (upN (wy w) j v k)))) = X ++ (T ++ rB (fun u => eI cI n (upN wy w (upN (wy w) j v) u)) ad m2) := by
    rw [List.set_append_right _ _ (by omega), Nat.add_sub_cancel_left, List.set_append_right _ _ (by omega), Nat.add_sub_cancel_left, rB_set hw, ← eI_up]
  rw [e] at hP1 hD1
  exact kk H1 locs1 hP1 hD1 hS1
/-- a truth row of the block behind T is written -/
theorem rz_st {X T B : va_W} (hexec : p.tables.exec = Jvm.exec) (hb : c.code = cc) (hK : va_K D cl tys s) {cZ : ClassId} {n m2 : Nat} {sn : Nat → Nat → Bool} {ad : Nat → Nat} (hP : va_P D cl (X ++ (T ++ (rB (fun w => eZ cZ n (sn w)) ad m2 ++ B))) H) (hD : va_D A (X ++ (T ++ (rB (fun w => eZ cZ n (sn w)) ad m2 ++ B)))) (hS : va_S A H0 H locs) (t0 : Nat) (ht : tys[t0]? = some (cZ, .boolean)) {w j : Nat} {v : Bool} (hw : w < m2) (hj : j < n) (hn : n < 2 ^ 31) (hdg : decode cc pc = .ok (.bastore, 1))
    (kk : ∀ (H1 : Heap) (locs1 : List Loc), va_P D cl (X ++ (T ++ (rB (fun u => eZ cZ n (upN sn w (upN (sn w) j v) u)) ad m2 ++ B))) H1 → va_D A (X ++ (T ++ (rB (fun u => eZ cZ n (upN sn w (upN (sn w) j v) u)) ad m2 ++ B))) → va_S A H0 H1 locs1 → W p l e R s m args below meth c H1 locs1 cells slots Q (F0 m (pc + 1) ls rest)) : W p l e R s m args below meth c H locs cells slots Q (F0 m pc ls (.int (bI v) :: .int (nI j) :: .ref (ad w) :: rest)) := by
  have hg : (X ++ (T ++ (rB (fun w => eZ cZ n (sn w)) ad m2 ++ B)))[X.length + (T.length + w)]? = some (ad w, eZ cZ n (sn w)) := by
    rw [List.getElem?_append_right (by omega), Nat.add_sub_cancel_left, List.getElem?_append_right (by omega), Nat.add_sub_cancel_left, List.getElem?_append_left (by rw [rB_len]; exact hw), rB_get hw]
  refine za_st hexec hb hK hP hD hS (X.length + (T.length + w)) t0 hg ht hj hn hdg (fun H1 locs1 hP1 hD1 hS1 => ?_)
  have e : (X ++ (T ++ (rB (fun w => eZ cZ n (sn w)) ad m2 ++ B))).set (X.length + (T.length + w)) (ad w, .inl (cZ, n, .inl (fun k => bI (upN (sn w) j v k)))) = X ++ (T ++ (rB (fun u => eZ cZ n (upN sn w (upN (sn w) j v) u)) ad m2 ++ B)) := by
    rw [List.set_append_right _ _ (by omega), Nat.add_sub_cancel_left, List.set_append_right _ _ (by omega), Nat.add_sub_cancel_left, List.set_append_left _ _ (by rw [rB_len]; exact hw), rB_set hw, ← eZ_up]
  rw [e] at hP1 hD1
  exact kk H1 locs1 hP1 hD1 hS1
theorem tern_eq (hexec : p.tables.exec = Jvm.exec) (hb : c.code = cc) {b : Bool} {off off2 : Int} (d0 : decode cc pc = .ok (.ifCond .eq off, 3)) (d1 : decode cc (pc + 3) = .ok (.iconst 1, 1)) (d2 : decode cc (pc + 4) = .ok (.goto off2, 3)) (d3 : decode cc (pc + 7) = .ok (.iconst 0, 1)) (h1 : (pc : Int) + off = ((pc + 7 : Nat) : Int)) (h2 : ((pc + 4 : Nat) : Int) + off2 = ((pc + 8 : Nat) : Int))
    (k : W p l e R s m args below meth c H locs cells slots Q (F0 m (pc + 8) ls (.int (bI b) :: rest))) : W p l e R s m args below meth c H locs cells slots Q (F0 m pc ls (.int (bI b) :: rest)) := by
  refine ifB_eq (tgt := pc + 7) hexec hb d0 h1 (fun hc => ?_) (fun hc => ?_)
  · subst hc
    exact lv_iconst (v := bI false) hexec hb d3 (by decide) k
  · subst hc
    exact lv_iconst (v := bI true) hexec hb d1 (by decide) (lv_goto (tgt := pc + 8) hexec hb d2 h2 k)
/-- c ? 1 : 0 as a number -/
theorem tern_n (hexec : p.tables.exec = Jvm.exec) (hb : c.code = cc) {b : Bool} {off off2 : Int} (d0 : decode cc pc = .ok (.ifCond .eq off, 3)) (d1 : decode cc (pc + 3) = .ok (.iconst 1, 1)) (d2 : decode cc (pc + 4) = .ok (.goto off2, 3)) (d3 : decode cc (pc + 7) = .ok (.iconst 0, 1)) (h1 : (pc : Int) + off = ((pc + 7 : Nat) : Int)) (h2 : ((pc + 4 : Nat) : Int) + off2 = ((pc + 8 : Nat) : Int))
    (k : W p l e R s m args below meth c H locs cells slots Q (F0 m (pc + 8) ls (.int (nI (if b = true then 1 else 0)) :: rest))) : W p l e R s m args below meth c H locs cells slots Q (F0 m pc ls (.int (bI b) :: rest)) :=
  tern_eq hexec hb d0 d1 d2 d3 h1 h2 (by rw [bI_n]; exact k)
variable {y : MethodName} {cb : ByteArray} {nL maxL index fr lo mc ms : Nat} {rt : FieldType} {own C : String} {ty : List (ClassId × FieldType)} {A0 : Nat → Prop} {b : Addr} {As : List Value} {wc wr : va_W} {k0 ci N : Nat} {fs : List Value} {T : u_T}
theorem cP_preS {av : List Value} (hK : va_K D vwCl ty s) (hZ : zOK s) (hP : va_P D vwCl wc H) (hD : va_D A0 wc) : ∀ U : State, U.heap = H → s.WarmedH U.vm → cP D ty av wc av.toArray U := fun U hU hW =>
  ⟨rfl, by rw [hU]; exact hP, va_K.moved hW.alike hK, hD.weaken (fun _ _ _ _ => trivial), zOK.warm hW hZ⟩
theorem cPn_preS {av : List Value} (hK : va_K D vwCl ty s) (hZ : zOK s) (hP : va_P D vwCl wc H) (hD : va_D A0 wc) : ∀ U : State, U.heap = H → s.WarmedH U.vm → cPn H.size D ty av wc av.toArray U := fun U hU hW =>
  ⟨rfl, by rw [hU], by rw [hU]; exact hP, va_K.moved hW.alike hK, hD.weaken (fun _ _ _ _ => trivial), zOK.warm hW hZ⟩
/-- a call that only reads, over a part of the world -/
theorem call_VpS {post : Int32 → Prop} (S : CallFix p m c cc nL s args bw own) (hM : Mp l y (Cond.code y cb maxL (some rt) :: bw) fr lo D ty (.ref b :: As) wc post) (hg : GoodIn bw (wsV own index C y (Cond.code y cb maxL (some rt) :: bw)))
    (hd : y.cls = C ∧ y.cls ≠ "java/lang/invoke/MethodHandle" ∧ y.cls ≠ "java/lang/invoke/VarHandle" ∧ (parseMethodDescriptor y.desc).map (fun d => d.parameters.length) = some As.length) (hR : fr + 1 ≤ R.frames ∧ 8 + (maxL + 11) + lo ≤ R.locals) (hroom : cells ≤ R.cells ∧ slots ≤ R.slots)
    (hP : va_P D vwCl ws H) (hD : va_D A0 ws) (hK : va_K D vwCl ty s) (hS : va_S A0 s.heap H locs) (hZ : zOK s) (hsub : wc.Sublist ws)
    (k0 : Nat) (hrec : wc[k0]? = some (b, .inr (ci, fs))) (hc : vwCl[ci]? = some (C, T, N)) (hls : ls.size = nL) (hst : st0 = As.reverse ++ .ref b :: rest) (hrest : (rest.map fun v => v.category).sum ≤ 8) (hdg : decode cc pc = .ok (.invokevirtual index, 3))
    (kk : ∀ (r : Int32) (H1 : Heap) (locs1 : List Loc), post r → va_P D vwCl ws H1 → va_S A0 s.heap H1 locs1 → W p l e R s m args below meth c H1 locs1 cells slots Q (F0 m (pc + 3) ls (.int r :: rest))) :
    W p l e R s m args below meth c H locs cells slots Q (F0 m pc ls st0) := by
  refine va_calli (va_runV (As := As) (rest := rest) S hM (cwV As.length S.2.2.2.2 hg rfl rfl rfl hd hR) ⟨cP_blind, va_recv hK (hP.sl hsub) (ci := ci) (q0 := k0) hc hrec, cP_preS hK hZ (hP.sl hsub) (hD.sl hsub)⟩ rfl rfl hls hst (lv_room hrest) hdg hroom) hS (fun q _ h => wIn_sub hD hsub q h) (wIn_sub hD hsub) (fun r u t H1 locs1 ht hvm hw hB hz1 hk1 hS1 => ?_)
  obtain ⟨hP1, he⟩ := hB
  obtain ⟨rfl, hw⟩ := hw
  rw [ht] at hP1
  exact kk r H1 locs1 hw (my_sameS hP hD hsub hk1 hP1) hS1
/-- a double is read -/
theorem call_VdS {post : UInt64 → va_W → Prop} (S : CallFix p m c cc nL s args bw own) (hM : Md l y (Cond.code y cb maxL (some rt) :: bw) fr lo D ty (.ref b :: As) wc post) (hg : GoodIn bw (wsV own index C y (Cond.code y cb maxL (some rt) :: bw)))
    (hd : y.cls = C ∧ y.cls ≠ "java/lang/invoke/MethodHandle" ∧ y.cls ≠ "java/lang/invoke/VarHandle" ∧ (parseMethodDescriptor y.desc).map (fun d => d.parameters.length) = some As.length) (hR : fr + 1 ≤ R.frames ∧ 8 + (maxL + 11) + lo ≤ R.locals) (hroom : cells ≤ R.cells ∧ slots ≤ R.slots)
    (hP : va_P D vwCl ws H) (hD : va_D A0 ws) (hK : va_K D vwCl ty s) (hS : va_S A0 s.heap H locs) (hZ : zOK s) (hsub : wc.Sublist ws) (hsame : ∀ r u, post r u → u = wc)
    (k0 : Nat) (hrec : wc[k0]? = some (b, .inr (ci, fs))) (hc : vwCl[ci]? = some (C, T, N)) (hls : ls.size = nL) (hst : st0 = As.reverse ++ .ref b :: rest) (hrest : (rest.map fun v => v.category).sum ≤ 8) (hdg : decode cc pc = .ok (.invokevirtual index, 3))
    (kk : ∀ (r : UInt64) (H1 : Heap) (locs1 : List Loc), post r wc → va_P D vwCl ws H1 → va_S A0 s.heap H1 locs1 → W p l e R s m args below meth c H1 locs1 cells slots Q (F0 m (pc + 3) ls (.double r :: rest))) :
    W p l e R s m args below meth c H locs cells slots Q (F0 m pc ls st0) := by
  refine va_calld (va_runV (As := As) (rest := rest) S hM (cwV As.length S.2.2.2.2 hg rfl rfl rfl hd hR) ⟨cP_blind, va_recv hK (hP.sl hsub) (ci := ci) (q0 := k0) hc hrec, cP_preS hK hZ (hP.sl hsub) (hD.sl hsub)⟩ rfl rfl hls hst (lv_room hrest) hdg hroom) hS (fun q _ h => wIn_sub hD hsub q h) (wIn_sub hD hsub) (fun r u t H1 locs1 ht hvm hw hB hz1 hk1 hS1 => ?_)
  obtain ⟨hP1, he⟩ := hB
  have := hsame r u hw
  subst this
  rw [ht] at hP1
  exact kk r H1 locs1 hw (my_sameS hP hD hsub hk1 hP1) hS1
/-- a move of the game, whose cells come first in the world -/
theorem call_ViF {post : Int32 → va_W → Prop} (S : CallFix p m c cc nL s args bw own) (hM : Mi l y (Cond.code y cb maxL (some rt) :: bw) fr lo D ty (.ref b :: As) wc post) (hg : GoodIn bw (wsV own index C y (Cond.code y cb maxL (some rt) :: bw)))
    (hd : y.cls = C ∧ y.cls ≠ "java/lang/invoke/MethodHandle" ∧ y.cls ≠ "java/lang/invoke/VarHandle" ∧ (parseMethodDescriptor y.desc).map (fun d => d.parameters.length) = some As.length) (hR : fr + 1 ≤ R.frames ∧ 8 + (maxL + 11) + lo ≤ R.locals) (hroom : cells ≤ R.cells ∧ slots ≤ R.slots)
    (hP : va_P D vwCl (wc ++ wr) H) (hD : va_D A0 (wc ++ wr)) (hK : va_K D vwCl ty s) (hS : va_S A0 s.heap H locs) (hZ : zOK s)
    (k0 : Nat) (hrec : wc[k0]? = some (b, .inr (ci, fs))) (hc : vwCl[ci]? = some (C, T, N)) (hls : ls.size = nL) (hst : st0 = As.reverse ++ .ref b :: rest) (hrest : (rest.map fun v => v.category).sum ≤ 8) (hdg : decode cc pc = .ok (.invokevirtual index, 3))
    (kk : ∀ (r : Int32) (w1 : va_W) (H1 : Heap) (locs1 : List Loc), post r w1 → va_P D vwCl (w1 ++ wr) H1 → va_D A0 (w1 ++ wr) → va_S A0 s.heap H1 locs1 → W p l e R s m args below meth c H1 locs1 cells slots Q (F0 m (pc + 3) ls (.int r :: rest))) :
    W p l e R s m args below meth c H locs cells slots Q (F0 m pc ls st0) := by
  have hsub : wc.Sublist (wc ++ wr) := List.sublist_append_left wc wr
  refine va_calli (va_runV (As := As) (rest := rest) S hM (cwV As.length S.2.2.2.2 hg rfl rfl rfl hd hR) ⟨cP_blind, va_recv hK (hP.sl hsub) (ci := ci) (q0 := k0) hc hrec, cP_preS hK hZ (hP.sl hsub) (hD.sl hsub)⟩ rfl rfl hls hst (lv_room hrest) hdg hroom) hS (fun q _ h => wIn_sub hD hsub q h) (wIn_sub hD hsub) (fun r u t H1 locs1 ht hvm hw hB hz1 hk1 hS1 => ?_)
  obtain ⟨hP1, he⟩ := hB
  rw [ht] at hP1
  have hw1 : va_D (wIn wc) u := va_D_same (va_D_self (hD.sl hsub)) he
  obtain ⟨hP2, hD2⟩ := j_part (hP.pm List.perm_append_comm) (hD.pm List.perm_append_comm) (wIn wc) (wIn_sub hD hsub) (fun q _ h => h) hk1 hP1 hw1
  exact kk r u H1 locs1 hw (hP2.pm List.perm_append_comm) (hD2.pm List.perm_append_comm) hS1
/-- a call that makes cells, over the last part of the world -/
theorem g_fin {w1 : va_W} {H1 : Heap} (hP : va_P D vwCl (wr ++ wc) H) (hD : va_D A0 (wr ++ wc)) (hS : va_S A0 s.heap H locs) (hA : ∀ q, s.heap.size ≤ q → A0 q) (hk : ∀ q : Nat, q < H.size → ¬ va_A wc H.size q → H1[q]? = H[q]?) (hP1 : va_P D vwCl w1 H1) (hD1 : va_D (va_A wc H.size) w1) : va_P D vwCl (wr ++ w1) H1 ∧ va_D A0 (wr ++ w1) := by
  refine j_part hP hD (va_A wc H.size) (fun q h => ?_) (fun q h1 h2 => va_A_lt h2 h1) hk hP1 hD1
  rcases Nat.lt_or_ge q H.size with h1 | h1
  · exact wIn_sub hD (List.sublist_append_right wr wc) q (va_A_lt h h1)
  · exact hA q (Nat.le_trans hS.1 h1)
theorem g_free (hD : va_D A0 (wr ++ wc)) (hS : va_S A0 s.heap H locs) (hA : ∀ q, s.heap.size ≤ q → A0 q) : ∀ q, va_A wc H.size q → A0 q := by
  intro q h
  rcases Nat.lt_or_ge q H.size with h1 | h1
  · exact wIn_sub hD (List.sublist_append_right wr wc) q (va_A_lt h h1)
  · exact hA q (Nat.le_trans hS.1 h1)
theorem call_VgI {post : Int32 → va_W → Prop} (S : CallFix p m c cc nL s args bw own) (hM : Gi l y (Cond.code y cb maxL (some rt) :: bw) fr lo mc ms H.size D ty (.ref b :: As) wc post) (hg : GoodIn bw (wsV own index C y (Cond.code y cb maxL (some rt) :: bw)))
    (hd : y.cls = C ∧ y.cls ≠ "java/lang/invoke/MethodHandle" ∧ y.cls ≠ "java/lang/invoke/VarHandle" ∧ (parseMethodDescriptor y.desc).map (fun d => d.parameters.length) = some As.length) (hR : fr + 1 ≤ R.frames ∧ 8 + (maxL + 11) + lo ≤ R.locals) (hroom : cells + mc ≤ R.cells ∧ slots + ms ≤ R.slots)
    (hP : va_P D vwCl (wr ++ wc) H) (hD : va_D A0 (wr ++ wc)) (hK : va_K D vwCl ty s) (hS : va_S A0 s.heap H locs) (hA : ∀ q, s.heap.size ≤ q → A0 q) (hZ : zOK s)
    (k0 : Nat) (hrec : wc[k0]? = some (b, .inr (ci, fs))) (hc : vwCl[ci]? = some (C, T, N)) (hls : ls.size = nL) (hst : st0 = As.reverse ++ .ref b :: rest) (hrest : (rest.map fun v => v.category).sum ≤ 8) (hdg : decode cc pc = .ok (.invokevirtual index, 3))
    (kk : ∀ (r : Int32) (w1 : va_W) (H1 : Heap) (locs1 : List Loc), post r w1 → va_P D vwCl (wr ++ w1) H1 → va_D A0 (wr ++ w1) → va_S A0 s.heap H1 locs1 → W p l e R s m args below meth c H1 locs1 (cells + mc) (slots + ms) Q (F0 m (pc + 3) ls (.int r :: rest))) :
    W p l e R s m args below meth c H locs cells slots Q (F0 m pc ls st0) := by
  have hsub : wc.Sublist (wr ++ wc) := List.sublist_append_right wr wc
  refine va_calli (va_runV (As := As) (rest := rest) S hM (cwV As.length S.2.2.2.2 hg rfl rfl rfl hd hR) ⟨cPn_blind, va_recv hK (hP.sl hsub) (ci := ci) (q0 := k0) hc hrec, cPn_preS hK hZ (hP.sl hsub) (hD.sl hsub)⟩ rfl rfl hls hst (lv_room hrest) hdg hroom) hS (fun q _ h => g_free hD hS hA q h) (g_free hD hS hA) (fun r u t H1 locs1 ht hvm hw hB hz1 hk1 hS1 => ?_)
  obtain ⟨hP1, hD1⟩ := hB
  rw [ht] at hP1
  obtain ⟨hP2, hD2⟩ := g_fin hP hD hS hA hk1 hP1 hD1
  exact kk r u H1 locs1 hw hP2 hD2 hS1
theorem call_VgV {post : va_W → Prop} (S : CallFix p m c cc nL s args bw own) (hM : Gv l y (Cond.code y cb maxL none :: bw) fr lo mc ms H.size D ty (.ref b :: As) wc post) (hg : GoodIn bw (wsV own index C y (Cond.code y cb maxL none :: bw)))
    (hd : y.cls = C ∧ y.cls ≠ "java/lang/invoke/MethodHandle" ∧ y.cls ≠ "java/lang/invoke/VarHandle" ∧ (parseMethodDescriptor y.desc).map (fun d => d.parameters.length) = some As.length) (hR : fr + 1 ≤ R.frames ∧ 8 + (maxL + 11) + lo ≤ R.locals) (hroom : cells + mc ≤ R.cells ∧ slots + ms ≤ R.slots)
    (hP : va_P D vwCl (wr ++ wc) H) (hD : va_D A0 (wr ++ wc)) (hK : va_K D vwCl ty s) (hS : va_S A0 s.heap H locs) (hA : ∀ q, s.heap.size ≤ q → A0 q) (hZ : zOK s)
    (k0 : Nat) (hrec : wc[k0]? = some (b, .inr (ci, fs))) (hc : vwCl[ci]? = some (C, T, N)) (hls : ls.size = nL) (hst : st0 = As.reverse ++ .ref b :: rest) (hrest : (rest.map fun v => v.category).sum ≤ 8) (hdg : decode cc pc = .ok (.invokevirtual index, 3))
    (kk : ∀ (w1 : va_W) (H1 : Heap) (locs1 : List Loc), post w1 → va_P D vwCl (wr ++ w1) H1 → va_D A0 (wr ++ w1) → va_S A0 s.heap H1 locs1 → W p l e R s m args below meth c H1 locs1 (cells + mc) (slots + ms) Q (F0 m (pc + 3) ls rest)) :
    W p l e R s m args below meth c H locs cells slots Q (F0 m pc ls st0) := by
  have hsub : wc.Sublist (wr ++ wc) := List.sublist_append_right wr wc
  refine va_callv (va_runV (As := As) (rest := rest) S hM (cwV As.length S.2.2.2.2 hg rfl rfl rfl hd hR) ⟨cPn_blind, va_recv hK (hP.sl hsub) (ci := ci) (q0 := k0) hc hrec, cPn_preS hK hZ (hP.sl hsub) (hD.sl hsub)⟩ rfl rfl hls hst (lv_room hrest) hdg hroom) hS (fun q _ h => g_free hD hS hA q h) (g_free hD hS hA) (fun u t H1 locs1 ht hvm hw hB hz1 hk1 hS1 => ?_)
  obtain ⟨hP1, hD1⟩ := hB
  rw [ht] at hP1
  obtain ⟨hP2, hD2⟩ := g_fin hP hD hS hA hk1 hP1 hD1
  exact kk u H1 locs1 hw hP2 hD2 hS1
/-- a static one -/
theorem call_SgI {post : Int32 → va_W → Prop} (S : CallFix p m c cc nL s args bw own) (hM : Gi l y (Cond.code y cb maxL (some rt) :: bw) fr lo mc ms H.size D ty As wc post) (hg : GoodIn bw (va_wsS own index y (Cond.code y cb maxL (some rt) :: bw)))
    (hd : y.cls ≠ "java/lang/invoke/MethodHandle" ∧ y.cls ≠ "java/lang/invoke/VarHandle" ∧ (parseMethodDescriptor y.desc).map (fun d => d.parameters.length) = some As.length) (hR : fr + 1 ≤ R.frames ∧ 8 + (maxL + 11) + lo ≤ R.locals) (hroom : cells + mc ≤ R.cells ∧ slots + ms ≤ R.slots)
    (hP : va_P D vwCl (wr ++ wc) H) (hD : va_D A0 (wr ++ wc)) (hK : va_K D vwCl ty s) (hS : va_S A0 s.heap H locs) (hA : ∀ q, s.heap.size ≤ q → A0 q) (hZ : zOK s)
    (hls : ls.size = nL) (hst : st0 = As.reverse ++ rest) (hrest : (rest.map fun v => v.category).sum ≤ 8) (hdg : decode cc pc = .ok (.invokestatic index, 3))
    (kk : ∀ (r : Int32) (w1 : va_W) (H1 : Heap) (locs1 : List Loc), post r w1 → va_P D vwCl (wr ++ w1) H1 → va_D A0 (wr ++ w1) → va_S A0 s.heap H1 locs1 → W p l e R s m args below meth c H1 locs1 (cells + mc) (slots + ms) Q (F0 m (pc + 3) ls (.int r :: rest))) :
    W p l e R s m args below meth c H locs cells slots Q (F0 m pc ls st0) := by
  have hsub : wc.Sublist (wr ++ wc) := List.sublist_append_right wr wc
  refine va_calli (va_runS (As := As) (rest := rest) S hM (va_cwS As.length S.2.2.2.2 hg rfl rfl rfl hd hR) ⟨cPn_blind, cPn_preS hK hZ (hP.sl hsub) (hD.sl hsub)⟩ rfl rfl hls hst (lv_room hrest) hdg hroom) hS (fun q _ h => g_free hD hS hA q h) (g_free hD hS hA) (fun r u t H1 locs1 ht hvm hw hB hz1 hk1 hS1 => ?_)
  obtain ⟨hP1, hD1⟩ := hB
  rw [ht] at hP1
  obtain ⟨hP2, hD2⟩ := g_fin hP hD hS hA hk1 hP1 hD1
  exact kk r u H1 locs1 hw hP2 hD2 hS1
/-- a nest mate's constructor -/
theorem call_GN {post : va_W → Prop} (S : CallFix p m c cc nL s args bw own) (hM : Gv l y (Cond.code y cb maxL none :: bw) fr lo mc ms H.size D ty (.ref b :: As) wc post) {host : String} (hgd : GoodIn bw (Cond.code y cb maxL none :: bw)) (hlk : va_Nw (.methodLinkNest own index y host) s) (hini : (Cond.initialized y.cls) ∈ bw) (him : Cond.instanceMethod y ∈ bw) (hy : y.name = "<init>")
    (hd : y.cls ≠ "java/lang/invoke/MethodHandle" ∧ y.cls ≠ "java/lang/invoke/VarHandle" ∧ (parseMethodDescriptor y.desc).map (fun d => d.parameters.length) = some As.length) (hR : fr + 1 ≤ R.frames ∧ 8 + (maxL + 11) + lo ≤ R.locals) (hroom : cells + mc ≤ R.cells ∧ slots + ms ≤ R.slots)
    (hP : va_P D vwCl (wr ++ wc) H) (hD : va_D A0 (wr ++ wc)) (hK : va_K D vwCl ty s) (hS : va_S A0 s.heap H locs) (hA : ∀ q, s.heap.size ≤ q → A0 q) (hZ : zOK s)
    (hls : ls.size = nL) (hst : st0 = As.reverse ++ .ref b :: rest) (hrest : (rest.map fun v => v.category).sum ≤ 8) (hdg : decode cc pc = .ok (.invokespecial index, 3))
    (kk : ∀ (w1 : va_W) (H1 : Heap) (locs1 : List Loc), post w1 → va_P D vwCl (wr ++ w1) H1 → va_D A0 (wr ++ w1) → va_S A0 s.heap H1 locs1 → W p l e R s m args below meth c H1 locs1 (cells + mc) (slots + ms) Q (F0 m (pc + 3) ls rest)) :
    W p l e R s m args below meth c H locs cells slots Q (F0 m pc ls st0) := by
  have hsub : wc.Sublist (wr ++ wc) := List.sublist_append_right wr wc
  refine va_callv (va_runIN (As := As) (rest := rest) (host := host) S hM ⟨va_cnB As.length S.2.2.2.2 hgd rfl rfl rfl hlk (S.2.2.2.2 _ hini) hd hR, hy, S.2.2.2.2 _ him⟩ ⟨cPn_blind, cPn_preS hK hZ (hP.sl hsub) (hD.sl hsub)⟩ rfl rfl hls hst (lv_room hrest) hdg hroom) hS (fun q _ h => g_free hD hS hA q h) (g_free hD hS hA) (fun u t H1 locs1 ht hvm hw hB hz1 hk1 hS1 => ?_)
  obtain ⟨hP1, hD1⟩ := hB
  rw [ht] at hP1
  obtain ⟨hP2, hD2⟩ := g_fin hP hD hS hA hk1 hP1 hD1
  exact kk u H1 locs1 hw hP2 hD2 hS1
/-- a constructor -/
theorem call_GI {post : va_W → Prop} (S : CallFix p m c cc nL s args bw own) (hM : Gv l y (Cond.code y cb maxL none :: bw) fr lo mc ms H.size D ty (.ref b :: As) wc post) (hgd : GoodIn bw (Cond.code y cb maxL none :: bw)) (hlk : Cond.methodLink own index y ∈ bw) (hini : (Cond.initialized y.cls) ∈ bw) (him : Cond.instanceMethod y ∈ bw) (hy : y.name = "<init>")
    (hd : y.cls ≠ "java/lang/invoke/MethodHandle" ∧ y.cls ≠ "java/lang/invoke/VarHandle" ∧ (parseMethodDescriptor y.desc).map (fun d => d.parameters.length) = some As.length) (hR : fr + 1 ≤ R.frames ∧ 8 + (maxL + 11) + lo ≤ R.locals) (hroom : cells + mc ≤ R.cells ∧ slots + ms ≤ R.slots)
    (hP : va_P D vwCl (wr ++ wc) H) (hD : va_D A0 (wr ++ wc)) (hK : va_K D vwCl ty s) (hS : va_S A0 s.heap H locs) (hA : ∀ q, s.heap.size ≤ q → A0 q) (hZ : zOK s)
    (hls : ls.size = nL) (hst : st0 = As.reverse ++ .ref b :: rest) (hrest : (rest.map fun v => v.category).sum ≤ 8) (hdg : decode cc pc = .ok (.invokespecial index, 3))
    (kk : ∀ (w1 : va_W) (H1 : Heap) (locs1 : List Loc), post w1 → va_P D vwCl (wr ++ w1) H1 → va_D A0 (wr ++ w1) → va_S A0 s.heap H1 locs1 → W p l e R s m args below meth c H1 locs1 (cells + mc) (slots + ms) Q (F0 m (pc + 3) ls rest)) :
    W p l e R s m args below meth c H locs cells slots Q (F0 m pc ls st0) := by
  have hsub : wc.Sublist (wr ++ wc) := List.sublist_append_right wr wc
  refine va_callv (va_runI (As := As) (rest := rest) S hM (cwI As.length S.2.2.2.2 hgd rfl rfl rfl (S.2.2.2.2 _ hini) (S.2.2.2.2 _ hlk) (S.2.2.2.2 _ him) hy hd hR) ⟨cPn_blind, cPn_preS hK hZ (hP.sl hsub) (hD.sl hsub)⟩ rfl rfl hls hst (lv_room hrest) hdg hroom) hS (fun q _ h => g_free hD hS hA q h) (g_free hD hS hA) (fun u t H1 locs1 ht hvm hw hB hz1 hk1 hS1 => ?_)
  obtain ⟨hP1, hD1⟩ := hB
  rw [ht] at hP1
  obtain ⟨hP2, hD2⟩ := g_fin hP hD hS hA hk1 hP1 hD1
  exact kk u H1 locs1 hw hP2 hD2 hS1
end
section
variable {l : Launch} {y : MethodName} {cc : ByteArray} {n fr lo mc ms sz : Nat} {rt : FieldType} {D : va_G} {ty : List (ClassId × FieldType)} {av : List Value} {w : va_W}
theorem Gv_of {post : va_W → Prop} (hy : plainName y.cls = true) (hn : (lg_sl av).length ≤ n)
    (body : ∀ (p : Program) (e : Env) (s : State) (m : MethodId) (args : Array Value) (below : List Frame) (meth : Method) (c : Code) (Q : State → Prop) (ls : Array Slot) (A : Nat → Prop), CallFix p m c cc n s args bw y.cls → va_P D vwCl w s.heap → va_K D vwCl ty s → va_D A w → (∀ q, s.heap.size ≤ q → A q) → zOK s → lv_has ls n (lv_args 0 av) → meth.name = y.name →
      (∀ (u : va_W) (H : Heap) (locs : List Loc) (ls' : Array Slot) (pc : Nat), decode cc pc = .ok (.return_, 1) → post u → va_P D vwCl u H → va_D A u → va_S A s.heap H locs → W p l e (rmG fr lo mc ms) s m args below meth c H locs mc ms Q (F0 m pc ls' [])) →
      W p l e (rmG fr lo mc ms) s m args below meth c s.heap [] 0 0 Q (F0 m 0 ls [])) : Gv l y (Cond.code y cc n none :: bw) fr lo mc ms sz D ty av w post := by
  refine Met.ofW (cc := cc) (maxL := n) (ret := none) hy rfl ?_
  intro p e s m args below meth c s₁ B hml hv
  obtain ⟨rfl, hsz, hP, hK, hD0, hZ⟩ := hv
  subst hsz
  have hts := atoms_spec (ws := Cond.code y cc n none :: bw) B.pre
  rw [lg_entry_eq]
  refine body p e s m _ below meth c _ _ (va_A w s.heap.size) ⟨B.exec, B.bytes, hml, findClass_of_methodNamed B.named, fun w h => hts w (List.mem_cons_of_mem _ h)⟩ hP hK (hD0.self (sz := s.heap.size)) (fun q h => Or.inr h) hZ (lv_entry av (n := n) hn) (name_of_methodNamed B.named B.method).1 ?_
  intro u H locs ls' pc hdg hpost hPu hDu hS
  exact W.vret B.exec B.bytes B.returns (fun t ht hW => ⟨⟨u, rfl, hpost, by rw [ht]; exact hPu, hDu⟩, hS.F ht⟩) hS.2.2 hdg B.notSynchronized
theorem Gi_of {post : Int32 → va_W → Prop} (hy : plainName y.cls = true) (hn : (lg_sl av).length ≤ n)
    (body : ∀ (p : Program) (e : Env) (s : State) (m : MethodId) (args : Array Value) (below : List Frame) (meth : Method) (c : Code) (Q : State → Prop) (ls : Array Slot) (A : Nat → Prop), CallFix p m c cc n s args bw y.cls → va_P D vwCl w s.heap → va_K D vwCl ty s → va_D A w → (∀ q, s.heap.size ≤ q → A q) → zOK s → lv_has ls n (lv_args 0 av) → meth.name = y.name →
      (∀ (v : Int32) (u : va_W) (H : Heap) (locs : List Loc) (ls' : Array Slot) (pc : Nat), decode cc pc = .ok (.ireturn, 1) → narrow rt (.int v) = .int v → post v u → va_P D vwCl u H → va_D A u → va_S A s.heap H locs → W p l e (rmG fr lo mc ms) s m args below meth c H locs mc ms Q (F0 m pc ls' [.int v])) →
      W p l e (rmG fr lo mc ms) s m args below meth c s.heap [] 0 0 Q (F0 m 0 ls [])) : Gi l y (Cond.code y cc n (some rt) :: bw) fr lo mc ms sz D ty av w post := by
  refine Met.ofW (cc := cc) (maxL := n) (ret := some rt) hy rfl ?_
  intro p e s m args below meth c s₁ B hml hv
  obtain ⟨rfl, hsz, hP, hK, hD0, hZ⟩ := hv
  subst hsz
  have hts := atoms_spec (ws := Cond.code y cc n (some rt) :: bw) B.pre
  rw [lg_entry_eq]
  refine body p e s m _ below meth c _ _ (va_A w s.heap.size) ⟨B.exec, B.bytes, hml, findClass_of_methodNamed B.named, fun w h => hts w (List.mem_cons_of_mem _ h)⟩ hP hK (hD0.self (sz := s.heap.size)) (fun q h => Or.inr h) hZ (lv_entry av (n := n) hn) (name_of_methodNamed B.named B.method).1 ?_
  intro v u H locs ls' pc hdg hnr hpost hPu hDu hS
  exact W.zret (v := v) B.exec B.bytes B.returns hnr (fun t ht hW => ⟨⟨v, u, rfl, hpost, by rw [ht]; exact hPu, hDu⟩, hS.F ht⟩) hS.2.2 hdg B.notSynchronized
end
