/-! rows of the walk in whole numbers (nI) and truth values (bI) -/
abbrev tyL (cI cZ cS cW : ClassId) : List (ClassId × FieldType) := [(cI, .int), (cZ, .boolean), (cS, .array .boolean), (cW, .array .int)]
def bI (b : Bool) : Int32 := if b then 1 else 0
def upN {α : Type} (f : Nat → α) (k : Nat) (v : α) : Nat → α := fun j => if j = k then v else f j
theorem upN_s {α : Type} (f : Nat → α) (k : Nat) (v : α) : upN f k v k = v := by simp [upN]
theorem upN_n {α : Type} (f : Nat → α) {k j : Nat} (v : α) (h : j ≠ k) : upN f k v j = f j := by simp [upN, h]
theorem nI_and (a b : Nat) : nI a &&& nI b = nI (a &&& b) := by
  apply Int32.toBitVec_inj.1
  show BitVec.ofNat 32 a &&& BitVec.ofNat 32 b = BitVec.ofNat 32 (a &&& b)
  apply BitVec.eq_of_getLsbD_eq
  intro i hi
  simp [hi]
theorem nI_or (a b : Nat) : nI a ||| nI b = nI (a ||| b) := by
  apply Int32.toBitVec_inj.1
  show BitVec.ofNat 32 a ||| BitVec.ofNat 32 b = BitVec.ofNat 32 (a ||| b)
  apply BitVec.eq_of_getLsbD_eq
  intro i hi
  simp [hi]
theorem nI_xor (a b : Nat) : nI a ^^^ nI b = nI (a ^^^ b) := by
  apply Int32.toBitVec_inj.1
  show BitVec.ofNat 32 a ^^^ BitVec.ofNat 32 b = BitVec.ofNat 32 (a ^^^ b)
  apply BitVec.eq_of_getLsbD_eq
  intro i hi
  simp [hi]
theorem nI_cnt : ∀ k, k < 32 → ((nI k &&& 31).toBitVec.smod 32).toNat = k := by decide +kernel
theorem nI_shl (a : Nat) {k : Nat} (hk : k < 32) : nI a <<< (nI k &&& 31) = nI (a * 2 ^ k) := by
  apply Int32.toBitVec_inj.mp
  apply BitVec.eq_of_toNat_eq
  rw [pk_shl _ _ k (nI_cnt k hk)]
  show (a % 2 ^ 32) * 2 ^ k % 2 ^ 32 = (a * 2 ^ k) % 2 ^ 32
  rw [Nat.mod_mul_mod]
theorem nI_shr {a k : Nat} (ha : a < 2 ^ 31) (hk : k < 32) : nI a >>> (nI k &&& 31) = nI (a / 2 ^ k) := pk_shrN ha _ k (nI_cnt k hk)
theorem bI_n (b : Bool) : bI b = nI (if b then 1 else 0) := by cases b <;> rfl
theorem bI_nar (b : Bool) : narrow .boolean (.int (bI b)) = .int (bI b) := by cases b <;> rfl
theorem nI_nar1 : narrow .boolean (.int (nI 1)) = .int (nI 1) := rfl
theorem nI_nar0 : narrow .boolean (.int (nI 0)) = .int (nI 0) := rfl
theorem bI_inj {a b : Bool} : bI a = bI b ↔ a = b := by cases a <;> cases b <;> decide
theorem bI_0 {b : Bool} : bI b = 0 ↔ b = false := by cases b <;> decide
theorem upd_nI {f : Nat → Nat} {j v : Nat} (hj : j < 2 ^ 31) : upd (fun k => nI (f k)) (nI j).toNatClampNeg (nI v) = fun k => nI (upN f j v k) := by
  rw [nI_clamp hj]
  funext k
  by_cases h : k = j <;> simp [upd, upN, h]
theorem upd_bI {f : Nat → Bool} {j : Nat} {v : Bool} (hj : j < 2 ^ 31) : upd (fun k => bI (f k)) (nI j).toNatClampNeg (bI v) = fun k => bI (upN f j v k) := by
  rw [nI_clamp hj]
  funext k
  by_cases h : k = j <;> simp [upd, upN, h]
theorem nI_le0 {x : Nat} (h : x < 2 ^ 31) : nI x ≤ 0 ↔ x = 0 := by
  rw [← nI_0, nI_leI h (by omega)]; omega
theorem nI_gt0 {x : Nat} (h : x < 2 ^ 31) : 0 < nI x ↔ 0 < x := by
  rw [← nI_0, nI_ltI (by omega) h]
theorem nI_eq0 {x : Nat} (h : x < 2 ^ 31) : nI x = 0 ↔ x = 0 := by
  rw [← nI_0, nI_eq h (by omega)]
theorem nI_lt0 {x : Nat} (h : x < 2 ^ 31) : nI x < 0 ↔ False := ⟨fun h2 => nI_pos h h2, False.elim⟩
section RW
variable {p : Program} {l : Launch} {e : Env} {R : Room} {s : State} {m : MethodId} {args : Array Value} {below : List Frame} {meth : Method} {c : Code} {H : Heap} {locs : List Loc} {cells slots : Nat} {Q : State → Prop}
variable {pc : Nat} {ls : Array Slot} {rest : List Value} {cc : ByteArray} {D : va_G} {cl : List vw_C} {A : Nat → Prop} {a : Nat} {tys : List (ClassId × FieldType)} {ws : va_W} {H0 : Heap}
theorem ia_ld (hexec : p.tables.exec = Jvm.exec) (hb : c.code = cc) (hK : va_K D cl tys s) (hP : va_P D cl ws H) (q0 t0 : Nat) {cA : ClassId} {n : Nat} {f : Nat → Nat} (ha : ws[q0]? = some (a, .inl (cA, n, .inl (fun k => nI (f k))))) (ht : tys[t0]? = some (cA, .int)) {j : Nat} (hj : j < n) (hn : n < 2 ^ 31) (hdg : decode cc pc = .ok (.iaload, 1))
    (kk : W p l e R s m args below meth c H locs cells slots Q (F0 m (pc + 1) ls (.int (nI (f j)) :: rest))) : W p l e R s m args below meth c H locs cells slots Q (F0 m pc ls (.int (nI j) :: .ref a :: rest)) := by
  refine va_iald hexec hb hK hP q0 t0 ha ht (vp_in_nI hj hn) hdg ?_
  rw [nI_clamp (by omega)]
  exact kk
theorem za_ld (hexec : p.tables.exec = Jvm.exec) (hb : c.code = cc) (hK : va_K D cl tys s) (hP : va_P D cl ws H) (q0 t0 : Nat) {cA : ClassId} {n : Nat} {f : Nat → Bool} (ha : ws[q0]? = some (a, .inl (cA, n, .inl (fun k => bI (f k))))) (ht : tys[t0]? = some (cA, .boolean)) {j : Nat} (hj : j < n) (hn : n < 2 ^ 31) (hdg : decode cc pc = .ok (.baload, 1))
    (kk : W p l e R s m args below meth c H locs cells slots Q (F0 m (pc + 1) ls (.int (bI (f j)) :: rest))) : W p l e R s m args below meth c H locs cells slots Q (F0 m pc ls (.int (nI j) :: .ref a :: rest)) := by
  refine va_zald hexec hb hK hP q0 t0 ha ht (vp_in_nI hj hn) hdg ?_
  rw [nI_clamp (by omega)]
  exact kk
theorem ia_st (hexec : p.tables.exec = Jvm.exec) (hb : c.code = cc) (hK : va_K D cl tys s) (hP : va_P D cl ws H) (hD : va_D A ws) (hS : va_S A H0 H locs) (q0 t0 : Nat) {cA : ClassId} {n : Nat} {f : Nat → Nat} (ha : ws[q0]? = some (a, .inl (cA, n, .inl (fun k => nI (f k))))) (ht : tys[t0]? = some (cA, .int)) {j v : Nat} (hj : j < n) (hn : n < 2 ^ 31) (hdg : decode cc pc = .ok (.iastore, 1))
    (kk : ∀ (H1 : Heap) (locs1 : List Loc), va_P D cl (ws.set q0 (a, .inl (cA, n, .inl (fun k => nI (upN f j v k))))) H1 → va_D A (ws.set q0 (a, .inl (cA, n, .inl (fun k => nI (upN f j v k))))) → va_S A H0 H1 locs1 → W p l e R s m args below meth c H1 locs1 cells slots Q (F0 m (pc + 1) ls rest)) : W p l e R s m args below meth c H locs cells slots Q (F0 m pc ls (.int (nI v) :: .int (nI j) :: .ref a :: rest)) := by
  refine va_iast hexec hb hK hP hD hS q0 t0 ha ht (vp_in_nI hj hn) hdg ?_
  rw [upd_nI (by omega)]
  exact kk
theorem za_st (hexec : p.tables.exec = Jvm.exec) (hb : c.code = cc) (hK : va_K D cl tys s) (hP : va_P D cl ws H) (hD : va_D A ws) (hS : va_S A H0 H locs) (q0 t0 : Nat) {cA : ClassId} {n : Nat} {f : Nat → Bool} (ha : ws[q0]? = some (a, .inl (cA, n, .inl (fun k => bI (f k))))) (ht : tys[t0]? = some (cA, .boolean)) {j : Nat} {v : Bool} (hj : j < n) (hn : n < 2 ^ 31) (hdg : decode cc pc = .ok (.bastore, 1))
    (kk : ∀ (H1 : Heap) (locs1 : List Loc), va_P D cl (ws.set q0 (a, .inl (cA, n, .inl (fun k => bI (upN f j v k))))) H1 → va_D A (ws.set q0 (a, .inl (cA, n, .inl (fun k => bI (upN f j v k))))) → va_S A H0 H1 locs1 → W p l e R s m args below meth c H1 locs1 cells slots Q (F0 m (pc + 1) ls rest)) : W p l e R s m args below meth c H locs cells slots Q (F0 m pc ls (.int (bI v) :: .int (nI j) :: .ref a :: rest)) := by
  refine va_zast hexec hb hK hP hD hS q0 t0 ha ht (vp_in_nI hj hn) hdg ?_
  rw [show vp_nar .boolean (bI v) = bI v by cases v <;> rfl, upd_bI (by omega)]
  exact kk
theorem icN_lt (hexec : p.tables.exec = Jvm.exec) (hb : c.code = cc) {u v : Nat} {off : Int} {tgt : Nat} (hdg : decode cc pc = .ok (.if_icmp .lt off, 3)) (ht : (pc : Int) + off = (tgt : Int)) (hu : u < 2 ^ 31) (hv : v < 2 ^ 31)
    (kt : u < v → W p l e R s m args below meth c H locs cells slots Q (F0 m tgt ls rest)) (kf : v ≤ u → W p l e R s m args below meth c H locs cells slots Q (F0 m (pc + 3) ls rest)) : W p l e R s m args below meth c H locs cells slots Q (F0 m pc ls (.int (nI v) :: .int (nI u) :: rest)) :=
  lv_icmp_lt hexec hb hdg ht (fun h => kt ((nI_ltI hu hv).mp h)) (fun h => kf (Nat.not_lt.mp (fun q => h ((nI_ltI hu hv).mpr q))))
theorem icN_ge (hexec : p.tables.exec = Jvm.exec) (hb : c.code = cc) {u v : Nat} {off : Int} {tgt : Nat} (hdg : decode cc pc = .ok (.if_icmp .ge off, 3)) (ht : (pc : Int) + off = (tgt : Int)) (hu : u < 2 ^ 31) (hv : v < 2 ^ 31)
    (kt : v ≤ u → W p l e R s m args below meth c H locs cells slots Q (F0 m tgt ls rest)) (kf : u < v → W p l e R s m args below meth c H locs cells slots Q (F0 m (pc + 3) ls rest)) : W p l e R s m args below meth c H locs cells slots Q (F0 m pc ls (.int (nI v) :: .int (nI u) :: rest)) :=
  lv_icmp_ge hexec hb hdg ht (fun h => kt ((nI_leI hv hu).mp h)) (fun h => kf (Nat.not_le.mp (fun q => h ((nI_leI hv hu).mpr q))))
theorem icN_gt (hexec : p.tables.exec = Jvm.exec) (hb : c.code = cc) {u v : Nat} {off : Int} {tgt : Nat} (hdg : decode cc pc = .ok (.if_icmp .gt off, 3)) (ht : (pc : Int) + off = (tgt : Int)) (hu : u < 2 ^ 31) (hv : v < 2 ^ 31)
    (kt : v < u → W p l e R s m args below meth c H locs cells slots Q (F0 m tgt ls rest)) (kf : u ≤ v → W p l e R s m args below meth c H locs cells slots Q (F0 m (pc + 3) ls rest)) : W p l e R s m args below meth c H locs cells slots Q (F0 m pc ls (.int (nI v) :: .int (nI u) :: rest)) :=
  lv_icmp_gt hexec hb hdg ht (fun h => kt ((nI_ltI hv hu).mp h)) (fun h => kf (Nat.not_lt.mp (fun q => h ((nI_ltI hv hu).mpr q))))
theorem icN_le (hexec : p.tables.exec = Jvm.exec) (hb : c.code = cc) {u v : Nat} {off : Int} {tgt : Nat} (hdg : decode cc pc = .ok (.if_icmp .le off, 3)) (ht : (pc : Int) + off = (tgt : Int)) (hu : u < 2 ^ 31) (hv : v < 2 ^ 31)
    (kt : u ≤ v → W p l e R s m args below meth c H locs cells slots Q (F0 m tgt ls rest)) (kf : v < u → W p l e R s m args below meth c H locs cells slots Q (F0 m (pc + 3) ls rest)) : W p l e R s m args below meth c H locs cells slots Q (F0 m pc ls (.int (nI v) :: .int (nI u) :: rest)) :=
  lv_icmp_le hexec hb hdg ht (fun h => kt ((nI_leI hu hv).mp h)) (fun h => kf (Nat.not_le.mp (fun q => h ((nI_leI hu hv).mpr q))))
theorem icN_eq (hexec : p.tables.exec = Jvm.exec) (hb : c.code = cc) {u v : Nat} {off : Int} {tgt : Nat} (hdg : decode cc pc = .ok (.if_icmp .eq off, 3)) (ht : (pc : Int) + off = (tgt : Int)) (hu : u < 2 ^ 31) (hv : v < 2 ^ 31)
    (kt : u = v → W p l e R s m args below meth c H locs cells slots Q (F0 m tgt ls rest)) (kf : u ≠ v → W p l e R s m args below meth c H locs cells slots Q (F0 m (pc + 3) ls rest)) : W p l e R s m args below meth c H locs cells slots Q (F0 m pc ls (.int (nI v) :: .int (nI u) :: rest)) :=
  lv_icmp_eq hexec hb hdg ht (fun h => kt ((nI_eq hu hv).mp h)) (fun h => kf (fun q => h ((nI_eq hu hv).mpr q)))
theorem icN_ne (hexec : p.tables.exec = Jvm.exec) (hb : c.code = cc) {u v : Nat} {off : Int} {tgt : Nat} (hdg : decode cc pc = .ok (.if_icmp .ne off, 3)) (ht : (pc : Int) + off = (tgt : Int)) (hu : u < 2 ^ 31) (hv : v < 2 ^ 31)
    (kt : u ≠ v → W p l e R s m args below meth c H locs cells slots Q (F0 m tgt ls rest)) (kf : u = v → W p l e R s m args below meth c H locs cells slots Q (F0 m (pc + 3) ls rest)) : W p l e R s m args below meth c H locs cells slots Q (F0 m pc ls (.int (nI v) :: .int (nI u) :: rest)) :=
  lv_icmp_ne hexec hb hdg ht (fun h => kt (fun q => h ((nI_eq hu hv).mpr q))) (fun h => kf ((nI_eq hu hv).mp h))
theorem ifN_eq (hexec : p.tables.exec = Jvm.exec) (hb : c.code = cc) {u : Nat} {off : Int} {tgt : Nat} (hdg : decode cc pc = .ok (.ifCond .eq off, 3)) (ht : (pc : Int) + off = (tgt : Int)) (hu : u < 2 ^ 31)
    (kt : u = 0 → W p l e R s m args below meth c H locs cells slots Q (F0 m tgt ls rest)) (kf : u ≠ 0 → W p l e R s m args below meth c H locs cells slots Q (F0 m (pc + 3) ls rest)) : W p l e R s m args below meth c H locs cells slots Q (F0 m pc ls (.int (nI u) :: rest)) :=
  lv_if_eq hexec hb hdg ht (fun h => kt ((nI_eq0 hu).mp h)) (fun h => kf (fun q => h ((nI_eq0 hu).mpr q)))
theorem ifN_ne (hexec : p.tables.exec = Jvm.exec) (hb : c.code = cc) {u : Nat} {off : Int} {tgt : Nat} (hdg : decode cc pc = .ok (.ifCond .ne off, 3)) (ht : (pc : Int) + off = (tgt : Int)) (hu : u < 2 ^ 31)
    (kt : u ≠ 0 → W p l e R s m args below meth c H locs cells slots Q (F0 m tgt ls rest)) (kf : u = 0 → W p l e R s m args below meth c H locs cells slots Q (F0 m (pc + 3) ls rest)) : W p l e R s m args below meth c H locs cells slots Q (F0 m pc ls (.int (nI u) :: rest)) :=
  lv_if_ne hexec hb hdg ht (fun h => kt (fun q => h ((nI_eq0 hu).mpr q))) (fun h => kf ((nI_eq0 hu).mp h))
theorem ifN_lt (hexec : p.tables.exec = Jvm.exec) (hb : c.code = cc) {u : Nat} {off : Int} {tgt : Nat} (hdg : decode cc pc = .ok (.ifCond .lt off, 3)) (ht : (pc : Int) + off = (tgt : Int)) (hu : u < 2 ^ 31)
    (kt : False → W p l e R s m args below meth c H locs cells slots Q (F0 m tgt ls rest)) (kf : True → W p l e R s m args below meth c H locs cells slots Q (F0 m (pc + 3) ls rest)) : W p l e R s m args below meth c H locs cells slots Q (F0 m pc ls (.int (nI u) :: rest)) :=
  lv_if_lt hexec hb hdg ht (fun h => kt ((nI_lt0 hu).mp h)) (fun h => kf trivial)
theorem ifN_ge (hexec : p.tables.exec = Jvm.exec) (hb : c.code = cc) {u : Nat} {off : Int} {tgt : Nat} (hdg : decode cc pc = .ok (.ifCond .ge off, 3)) (ht : (pc : Int) + off = (tgt : Int)) (hu : u < 2 ^ 31)
    (kt : True → W p l e R s m args below meth c H locs cells slots Q (F0 m tgt ls rest)) (kf : False → W p l e R s m args below meth c H locs cells slots Q (F0 m (pc + 3) ls rest)) : W p l e R s m args below meth c H locs cells slots Q (F0 m pc ls (.int (nI u) :: rest)) :=
  lv_if_ge hexec hb hdg ht (fun h => kt trivial) (fun h => kf (h (nI_pos' hu)))
theorem ifN_le (hexec : p.tables.exec = Jvm.exec) (hb : c.code = cc) {u : Nat} {off : Int} {tgt : Nat} (hdg : decode cc pc = .ok (.ifCond .le off, 3)) (ht : (pc : Int) + off = (tgt : Int)) (hu : u < 2 ^ 31)
    (kt : u = 0 → W p l e R s m args below meth c H locs cells slots Q (F0 m tgt ls rest)) (kf : 0 < u → W p l e R s m args below meth c H locs cells slots Q (F0 m (pc + 3) ls rest)) : W p l e R s m args below meth c H locs cells slots Q (F0 m pc ls (.int (nI u) :: rest)) :=
  lv_if_le hexec hb hdg ht (fun h => kt ((nI_le0 hu).mp h)) (fun h => kf (Nat.pos_of_ne_zero (fun q => h ((nI_le0 hu).mpr q))))
theorem ifN_gt (hexec : p.tables.exec = Jvm.exec) (hb : c.code = cc) {u : Nat} {off : Int} {tgt : Nat} (hdg : decode cc pc = .ok (.ifCond .gt off, 3)) (ht : (pc : Int) + off = (tgt : Int)) (hu : u < 2 ^ 31)
    (kt : 0 < u → W p l e R s m args below meth c H locs cells slots Q (F0 m tgt ls rest)) (kf : u = 0 → W p l e R s m args below meth c H locs cells slots Q (F0 m (pc + 3) ls rest)) : W p l e R s m args below meth c H locs cells slots Q (F0 m pc ls (.int (nI u) :: rest)) :=
  lv_if_gt hexec hb hdg ht (fun h => kt ((nI_gt0 hu).mp h)) (fun h => kf (Nat.le_zero.mp (Nat.not_lt.mp (fun q => h ((nI_gt0 hu).mpr q)))))
theorem ifB_eq (hexec : p.tables.exec = Jvm.exec) (hb : c.code = cc) {v : Bool} {off : Int} {tgt : Nat} (hdg : decode cc pc = .ok (.ifCond .eq off, 3)) (ht : (pc : Int) + off = (tgt : Int))
    (kt : v = false → W p l e R s m args below meth c H locs cells slots Q (F0 m tgt ls rest)) (kf : v = true → W p l e R s m args below meth c H locs cells slots Q (F0 m (pc + 3) ls rest)) : W p l e R s m args below meth c H locs cells slots Q (F0 m pc ls (.int (bI v) :: rest)) :=
  lv_if_eq hexec hb hdg ht (fun h => kt (bI_0.mp h)) (fun h => kf (by cases hv : v with | true => rfl | false => exact absurd (bI_0.mpr hv) h))
theorem ifB_ne (hexec : p.tables.exec = Jvm.exec) (hb : c.code = cc) {v : Bool} {off : Int} {tgt : Nat} (hdg : decode cc pc = .ok (.ifCond .ne off, 3)) (ht : (pc : Int) + off = (tgt : Int))
    (kt : v = true → W p l e R s m args below meth c H locs cells slots Q (F0 m tgt ls rest)) (kf : v = false → W p l e R s m args below meth c H locs cells slots Q (F0 m (pc + 3) ls rest)) : W p l e R s m args below meth c H locs cells slots Q (F0 m pc ls (.int (bI v) :: rest)) :=
  lv_if_ne hexec hb hdg ht (fun h => kt (by cases hv : v with | true => rfl | false => exact absurd (bI_0.mpr hv) h)) (fun h => kf (bI_0.mp h))
theorem icB_eq (hexec : p.tables.exec = Jvm.exec) (hb : c.code = cc) {u v : Bool} {off : Int} {tgt : Nat} (hdg : decode cc pc = .ok (.if_icmp .eq off, 3)) (ht : (pc : Int) + off = (tgt : Int))
    (kt : u = v → W p l e R s m args below meth c H locs cells slots Q (F0 m tgt ls rest)) (kf : u ≠ v → W p l e R s m args below meth c H locs cells slots Q (F0 m (pc + 3) ls rest)) : W p l e R s m args below meth c H locs cells slots Q (F0 m pc ls (.int (bI v) :: .int (bI u) :: rest)) :=
  lv_icmp_eq hexec hb hdg ht (fun h => kt (bI_inj.mp h)) (fun h => kf (fun q => h (bI_inj.mpr q)))
theorem icB_ne (hexec : p.tables.exec = Jvm.exec) (hb : c.code = cc) {u v : Bool} {off : Int} {tgt : Nat} (hdg : decode cc pc = .ok (.if_icmp .ne off, 3)) (ht : (pc : Int) + off = (tgt : Int))
    (kt : u ≠ v → W p l e R s m args below meth c H locs cells slots Q (F0 m tgt ls rest)) (kf : u = v → W p l e R s m args below meth c H locs cells slots Q (F0 m (pc + 3) ls rest)) : W p l e R s m args below meth c H locs cells slots Q (F0 m pc ls (.int (bI v) :: .int (bI u) :: rest)) :=
  lv_icmp_ne hexec hb hdg ht (fun h => kt (fun q => h (bI_inj.mpr q))) (fun h => kf (bI_inj.mp h))
end RW
theorem hd_X0_add : yX0_add.cls = RX0 ∧ yX0_add.cls ≠ "java/lang/invoke/MethodHandle" ∧ yX0_add.cls ≠ "java/lang/invoke/VarHandle" ∧ (parseMethodDescriptor yX0_add.desc).map (fun d => d.parameters.length) = some 1 := by decide +kernel
theorem hd_X1_takeTurn : yX1_takeTurn.cls = RX1 ∧ yX1_takeTurn.cls ≠ "java/lang/invoke/MethodHandle" ∧ yX1_takeTurn.cls ≠ "java/lang/invoke/VarHandle" ∧ (parseMethodDescriptor yX1_takeTurn.desc).map (fun d => d.parameters.length) = some 0 := by decide +kernel
theorem hd_X1_requireSomePlayer : yX1_requireSomePlayer.cls = RX1 ∧ yX1_requireSomePlayer.cls ≠ "java/lang/invoke/MethodHandle" ∧ yX1_requireSomePlayer.cls ≠ "java/lang/invoke/VarHandle" ∧ (parseMethodDescriptor yX1_requireSomePlayer.desc).map (fun d => d.parameters.length) = some 0 := by decide +kernel
theorem hd_X1_passTurn : yX1_passTurn.cls = RX1 ∧ yX1_passTurn.cls ≠ "java/lang/invoke/MethodHandle" ∧ yX1_passTurn.cls ≠ "java/lang/invoke/VarHandle" ∧ (parseMethodDescriptor yX1_passTurn.desc).map (fun d => d.parameters.length) = some 2 := by decide +kernel
theorem hd_X1_isCertainBy : yX1_isCertainBy.cls = RX1 ∧ yX1_isCertainBy.cls ≠ "java/lang/invoke/MethodHandle" ∧ yX1_isCertainBy.cls ≠ "java/lang/invoke/VarHandle" ∧ (parseMethodDescriptor yX1_isCertainBy.desc).map (fun d => d.parameters.length) = some 2 := by decide +kernel
theorem hd_X1_possibleColours : yX1_possibleColours.cls = RX1 ∧ yX1_possibleColours.cls ≠ "java/lang/invoke/MethodHandle" ∧ yX1_possibleColours.cls ≠ "java/lang/invoke/VarHandle" ∧ (parseMethodDescriptor yX1_possibleColours.desc).map (fun d => d.parameters.length) = some 3 := by decide +kernel
theorem hd_X1_seenHatsOf : yX1_seenHatsOf.cls = RX1 ∧ yX1_seenHatsOf.cls ≠ "java/lang/invoke/MethodHandle" ∧ yX1_seenHatsOf.cls ≠ "java/lang/invoke/VarHandle" ∧ (parseMethodDescriptor yX1_seenHatsOf.desc).map (fun d => d.parameters.length) = some 1 := by decide +kernel
theorem hd_X0_count : yX0_count.cls = RX0 ∧ yX0_count.cls ≠ "java/lang/invoke/MethodHandle" ∧ yX0_count.cls ≠ "java/lang/invoke/VarHandle" ∧ (parseMethodDescriptor yX0_count.desc).map (fun d => d.parameters.length) = some 0 := by decide +kernel
theorem hd_X0_at : yX0_at.cls = RX0 ∧ yX0_at.cls ≠ "java/lang/invoke/MethodHandle" ∧ yX0_at.cls ≠ "java/lang/invoke/VarHandle" ∧ (parseMethodDescriptor yX0_at.desc).map (fun d => d.parameters.length) = some 1 := by decide +kernel
theorem hd_X1_agreesWithNow : yX1_agreesWithNow.cls = RX1 ∧ yX1_agreesWithNow.cls ≠ "java/lang/invoke/MethodHandle" ∧ yX1_agreesWithNow.cls ≠ "java/lang/invoke/VarHandle" ∧ (parseMethodDescriptor yX1_agreesWithNow.desc).map (fun d => d.parameters.length) = some 2 := by decide +kernel
theorem hd_X1_colourIn : yX1_colourIn.cls ≠ "java/lang/invoke/MethodHandle" ∧ yX1_colourIn.cls ≠ "java/lang/invoke/VarHandle" ∧ (parseMethodDescriptor yX1_colourIn.desc).map (fun d => d.parameters.length) = some 2 := by decide +kernel
theorem hd_X1_isOneColour : yX1_isOneColour.cls ≠ "java/lang/invoke/MethodHandle" ∧ yX1_isOneColour.cls ≠ "java/lang/invoke/VarHandle" ∧ (parseMethodDescriptor yX1_isOneColour.desc).map (fun d => d.parameters.length) = some 1 := by decide +kernel
theorem hd_J6_bitCount_0f7a4 : yJ6_bitCount_0f7a4.cls ≠ "java/lang/invoke/MethodHandle" ∧ yJ6_bitCount_0f7a4.cls ≠ "java/lang/invoke/VarHandle" ∧ (parseMethodDescriptor yJ6_bitCount_0f7a4.desc).map (fun d => d.parameters.length) = some 1 := by decide +kernel
theorem hd_X1_keepByCertainty : yX1_keepByCertainty.cls = RX1 ∧ yX1_keepByCertainty.cls ≠ "java/lang/invoke/MethodHandle" ∧ yX1_keepByCertainty.cls ≠ "java/lang/invoke/VarHandle" ∧ (parseMethodDescriptor yX1_keepByCertainty.desc).map (fun d => d.parameters.length) = some 3 := by decide +kernel
theorem hd_X1_noteOwnColours : yX1_noteOwnColours.cls = RX1 ∧ yX1_noteOwnColours.cls ≠ "java/lang/invoke/MethodHandle" ∧ yX1_noteOwnColours.cls ≠ "java/lang/invoke/VarHandle" ∧ (parseMethodDescriptor yX1_noteOwnColours.desc).map (fun d => d.parameters.length) = some 2 := by decide +kernel
theorem hd_X1_viewOf : yX1_viewOf.cls = RX1 ∧ yX1_viewOf.cls ≠ "java/lang/invoke/MethodHandle" ∧ yX1_viewOf.cls ≠ "java/lang/invoke/VarHandle" ∧ (parseMethodDescriptor yX1_viewOf.desc).map (fun d => d.parameters.length) = some 2 := by decide +kernel
theorem hd_X1_setOwnColours : yX1_setOwnColours.cls = RX1 ∧ yX1_setOwnColours.cls ≠ "java/lang/invoke/MethodHandle" ∧ yX1_setOwnColours.cls ≠ "java/lang/invoke/VarHandle" ∧ (parseMethodDescriptor yX1_setOwnColours.desc).map (fun d => d.parameters.length) = some 2 := by decide +kernel
theorem hd_X1_ownColours : yX1_ownColours.cls = RX1 ∧ yX1_ownColours.cls ≠ "java/lang/invoke/MethodHandle" ∧ yX1_ownColours.cls ≠ "java/lang/invoke/VarHandle" ∧ (parseMethodDescriptor yX1_ownColours.desc).map (fun d => d.parameters.length) = some 1 := by decide +kernel
theorem hd_X0_clear : yX0_clear.cls = RX0 ∧ yX0_clear.cls ≠ "java/lang/invoke/MethodHandle" ∧ yX0_clear.cls ≠ "java/lang/invoke/VarHandle" ∧ (parseMethodDescriptor yX0_clear.desc).map (fun d => d.parameters.length) = some 0 := by decide +kernel
theorem hd_X1_wouldBeCertain : yX1_wouldBeCertain.cls = RX1 ∧ yX1_wouldBeCertain.cls ≠ "java/lang/invoke/MethodHandle" ∧ yX1_wouldBeCertain.cls ≠ "java/lang/invoke/VarHandle" ∧ (parseMethodDescriptor yX1_wouldBeCertain.desc).map (fun d => d.parameters.length) = some 2 := by decide +kernel
theorem hd_X1_keepWithHat : yX1_keepWithHat.cls ≠ "java/lang/invoke/MethodHandle" ∧ yX1_keepWithHat.cls ≠ "java/lang/invoke/VarHandle" ∧ (parseMethodDescriptor yX1_keepWithHat.desc).map (fun d => d.parameters.length) = some 3 := by decide +kernel
theorem hd_X1_playerAfter : yX1_playerAfter.cls = RX1 ∧ yX1_playerAfter.cls ≠ "java/lang/invoke/MethodHandle" ∧ yX1_playerAfter.cls ≠ "java/lang/invoke/VarHandle" ∧ (parseMethodDescriptor yX1_playerAfter.desc).map (fun d => d.parameters.length) = some 1 := by decide +kernel
theorem hd_X1_players : yX1_players.cls = RX1 ∧ yX1_players.cls ≠ "java/lang/invoke/MethodHandle" ∧ yX1_players.cls ≠ "java/lang/invoke/VarHandle" ∧ (parseMethodDescriptor yX1_players.desc).map (fun d => d.parameters.length) = some 0 := by decide +kernel
theorem hd_X1_turnsTaken : yX1_turnsTaken.cls = RX1 ∧ yX1_turnsTaken.cls ≠ "java/lang/invoke/MethodHandle" ∧ yX1_turnsTaken.cls ≠ "java/lang/invoke/VarHandle" ∧ (parseMethodDescriptor yX1_turnsTaken.desc).map (fun d => d.parameters.length) = some 0 := by decide +kernel
theorem hd_X1_silentTurns : yX1_silentTurns.cls = RX1 ∧ yX1_silentTurns.cls ≠ "java/lang/invoke/MethodHandle" ∧ yX1_silentTurns.cls ≠ "java/lang/invoke/VarHandle" ∧ (parseMethodDescriptor yX1_silentTurns.desc).map (fun d => d.parameters.length) = some 0 := by decide +kernel
theorem hd_X1_playerInTurn : yX1_playerInTurn.cls = RX1 ∧ yX1_playerInTurn.cls ≠ "java/lang/invoke/MethodHandle" ∧ yX1_playerInTurn.cls ≠ "java/lang/invoke/VarHandle" ∧ (parseMethodDescriptor yX1_playerInTurn.desc).map (fun d => d.parameters.length) = some 0 := by decide +kernel
theorem hd_X1_hatOf : yX1_hatOf.cls = RX1 ∧ yX1_hatOf.cls ≠ "java/lang/invoke/MethodHandle" ∧ yX1_hatOf.cls ≠ "java/lang/invoke/VarHandle" ∧ (parseMethodDescriptor yX1_hatOf.desc).map (fun d => d.parameters.length) = some 1 := by decide +kernel
theorem hd_X1_requirePlayer : yX1_requirePlayer.cls = RX1 ∧ yX1_requirePlayer.cls ≠ "java/lang/invoke/MethodHandle" ∧ yX1_requirePlayer.cls ≠ "java/lang/invoke/VarHandle" ∧ (parseMethodDescriptor yX1_requirePlayer.desc).map (fun d => d.parameters.length) = some 1 := by decide +kernel
theorem hd_X1_sees : yX1_sees.cls = RX1 ∧ yX1_sees.cls ≠ "java/lang/invoke/MethodHandle" ∧ yX1_sees.cls ≠ "java/lang/invoke/VarHandle" ∧ (parseMethodDescriptor yX1_sees.desc).map (fun d => d.parameters.length) = some 2 := by decide +kernel
theorem hd_X1_seesHat : yX1_seesHat.cls = RX1 ∧ yX1_seesHat.cls ≠ "java/lang/invoke/MethodHandle" ∧ yX1_seesHat.cls ≠ "java/lang/invoke/VarHandle" ∧ (parseMethodDescriptor yX1_seesHat.desc).map (fun d => d.parameters.length) = some 2 := by decide +kernel
theorem hd_X1_hatMask : yX1_hatMask.cls ≠ "java/lang/invoke/MethodHandle" ∧ yX1_hatMask.cls ≠ "java/lang/invoke/VarHandle" ∧ (parseMethodDescriptor yX1_hatMask.desc).map (fun d => d.parameters.length) = some 1 := by decide +kernel
theorem hd_X1_shiftOf : yX1_shiftOf.cls ≠ "java/lang/invoke/MethodHandle" ∧ yX1_shiftOf.cls ≠ "java/lang/invoke/VarHandle" ∧ (parseMethodDescriptor yX1_shiftOf.desc).map (fun d => d.parameters.length) = some 1 := by decide +kernel
theorem hd_X1_hatsOf : yX1_hatsOf.cls = RX1 ∧ yX1_hatsOf.cls ≠ "java/lang/invoke/MethodHandle" ∧ yX1_hatsOf.cls ≠ "java/lang/invoke/VarHandle" ∧ (parseMethodDescriptor yX1_hatsOf.desc).map (fun d => d.parameters.length) = some 1 := by decide +kernel
theorem hd_X1_requireColour : yX1_requireColour.cls ≠ "java/lang/invoke/MethodHandle" ∧ yX1_requireColour.cls ≠ "java/lang/invoke/VarHandle" ∧ (parseMethodDescriptor yX1_requireColour.desc).map (fun d => d.parameters.length) = some 1 := by decide +kernel
theorem hd_X1_hatsIn : yX1_hatsIn.cls = RX1 ∧ yX1_hatsIn.cls ≠ "java/lang/invoke/MethodHandle" ∧ yX1_hatsIn.cls ≠ "java/lang/invoke/VarHandle" ∧ (parseMethodDescriptor yX1_hatsIn.desc).map (fun d => d.parameters.length) = some 2 := by decide +kernel
theorem hd_X1_openWays : yX1_openWays.cls = RX1 ∧ yX1_openWays.cls ≠ "java/lang/invoke/MethodHandle" ∧ yX1_openWays.cls ≠ "java/lang/invoke/VarHandle" ∧ (parseMethodDescriptor yX1_openWays.desc).map (fun d => d.parameters.length) = some 0 := by decide +kernel
theorem hd_X1_openWaysWith : yX1_openWaysWith.cls = RX1 ∧ yX1_openWaysWith.cls ≠ "java/lang/invoke/MethodHandle" ∧ yX1_openWaysWith.cls ≠ "java/lang/invoke/VarHandle" ∧ (parseMethodDescriptor yX1_openWaysWith.desc).map (fun d => d.parameters.length) = some 2 := by decide +kernel
theorem hd_X1_countWithHat : yX1_countWithHat.cls = RX1 ∧ yX1_countWithHat.cls ≠ "java/lang/invoke/MethodHandle" ∧ yX1_countWithHat.cls ≠ "java/lang/invoke/VarHandle" ∧ (parseMethodDescriptor yX1_countWithHat.desc).map (fun d => d.parameters.length) = some 2 := by decide +kernel
theorem hd_X1_isKnownToAll : yX1_isKnownToAll.cls = RX1 ∧ yX1_isKnownToAll.cls ≠ "java/lang/invoke/MethodHandle" ∧ yX1_isKnownToAll.cls ≠ "java/lang/invoke/VarHandle" ∧ (parseMethodDescriptor yX1_isKnownToAll.desc).map (fun d => d.parameters.length) = some 1 := by decide +kernel
theorem hd_X1_possibleWays : yX1_possibleWays.cls = RX1 ∧ yX1_possibleWays.cls ≠ "java/lang/invoke/MethodHandle" ∧ yX1_possibleWays.cls ≠ "java/lang/invoke/VarHandle" ∧ (parseMethodDescriptor yX1_possibleWays.desc).map (fun d => d.parameters.length) = some 1 := by decide +kernel
theorem hd_X1_countPossible : yX1_countPossible.cls = RX1 ∧ yX1_countPossible.cls ≠ "java/lang/invoke/MethodHandle" ∧ yX1_countPossible.cls ≠ "java/lang/invoke/VarHandle" ∧ (parseMethodDescriptor yX1_countPossible.desc).map (fun d => d.parameters.length) = some 1 := by decide +kernel
theorem hd_X1_holdsPossible : yX1_holdsPossible.cls = RX1 ∧ yX1_holdsPossible.cls ≠ "java/lang/invoke/MethodHandle" ∧ yX1_holdsPossible.cls ≠ "java/lang/invoke/VarHandle" ∧ (parseMethodDescriptor yX1_holdsPossible.desc).map (fun d => d.parameters.length) = some 3 := by decide +kernel
theorem hd_X1_isCertain : yX1_isCertain.cls = RX1 ∧ yX1_isCertain.cls ≠ "java/lang/invoke/MethodHandle" ∧ yX1_isCertain.cls ≠ "java/lang/invoke/VarHandle" ∧ (parseMethodDescriptor yX1_isCertain.desc).map (fun d => d.parameters.length) = some 1 := by decide +kernel
theorem hd_X1_knowsHatOf : yX1_knowsHatOf.cls = RX1 ∧ yX1_knowsHatOf.cls ≠ "java/lang/invoke/MethodHandle" ∧ yX1_knowsHatOf.cls ≠ "java/lang/invoke/VarHandle" ∧ (parseMethodDescriptor yX1_knowsHatOf.desc).map (fun d => d.parameters.length) = some 2 := by decide +kernel
theorem hd_X1_knowsCertain : yX1_knowsCertain.cls = RX1 ∧ yX1_knowsCertain.cls ≠ "java/lang/invoke/MethodHandle" ∧ yX1_knowsCertain.cls ≠ "java/lang/invoke/VarHandle" ∧ (parseMethodDescriptor yX1_knowsCertain.desc).map (fun d => d.parameters.length) = some 2 := by decide +kernel
theorem hd_X1_certainPlayers : yX1_certainPlayers.cls = RX1 ∧ yX1_certainPlayers.cls ≠ "java/lang/invoke/MethodHandle" ∧ yX1_certainPlayers.cls ≠ "java/lang/invoke/VarHandle" ∧ (parseMethodDescriptor yX1_certainPlayers.desc).map (fun d => d.parameters.length) = some 0 := by decide +kernel
theorem hd_X1_countCertain : yX1_countCertain.cls = RX1 ∧ yX1_countCertain.cls ≠ "java/lang/invoke/MethodHandle" ∧ yX1_countCertain.cls ≠ "java/lang/invoke/VarHandle" ∧ (parseMethodDescriptor yX1_countCertain.desc).map (fun d => d.parameters.length) = some 1 := by decide +kernel
theorem hd_X1_certainIfTold : yX1_certainIfTold.cls = RX1 ∧ yX1_certainIfTold.cls ≠ "java/lang/invoke/MethodHandle" ∧ yX1_certainIfTold.cls ≠ "java/lang/invoke/VarHandle" ∧ (parseMethodDescriptor yX1_certainIfTold.desc).map (fun d => d.parameters.length) = some 1 := by decide +kernel
theorem hd_X0_copyFrom : yX0_copyFrom.cls = RX0 ∧ yX0_copyFrom.cls ≠ "java/lang/invoke/MethodHandle" ∧ yX0_copyFrom.cls ≠ "java/lang/invoke/VarHandle" ∧ (parseMethodDescriptor yX0_copyFrom.desc).map (fun d => d.parameters.length) = some 1 := by decide +kernel
theorem hd_X2_turn : yX2_turn.cls = RX2 ∧ yX2_turn.cls ≠ "java/lang/invoke/MethodHandle" ∧ yX2_turn.cls ≠ "java/lang/invoke/VarHandle" ∧ (parseMethodDescriptor yX2_turn.desc).map (fun d => d.parameters.length) = some 0 := by decide +kernel
theorem hd_X2_isSure : yX2_isSure.cls = RX2 ∧ yX2_isSure.cls ≠ "java/lang/invoke/MethodHandle" ∧ yX2_isSure.cls ≠ "java/lang/invoke/VarHandle" ∧ (parseMethodDescriptor yX2_isSure.desc).map (fun d => d.parameters.length) = some 3 := by decide +kernel
theorem hd_X2_agree : yX2_agree.cls = RX2 ∧ yX2_agree.cls ≠ "java/lang/invoke/MethodHandle" ∧ yX2_agree.cls ≠ "java/lang/invoke/VarHandle" ∧ (parseMethodDescriptor yX2_agree.desc).map (fun d => d.parameters.length) = some 3 := by decide +kernel
theorem hd_X2_isSame : yX2_isSame.cls = RX2 ∧ yX2_isSame.cls ≠ "java/lang/invoke/MethodHandle" ∧ yX2_isSame.cls ≠ "java/lang/invoke/VarHandle" ∧ (parseMethodDescriptor yX2_isSame.desc).map (fun d => d.parameters.length) = some 1 := by decide +kernel
theorem hd_X2_many : yX2_many.cls = RX2 ∧ yX2_many.cls ≠ "java/lang/invoke/MethodHandle" ∧ yX2_many.cls ≠ "java/lang/invoke/VarHandle" ∧ (parseMethodDescriptor yX2_many.desc).map (fun d => d.parameters.length) = some 0 := by decide +kernel
theorem hd_X2_certain : yX2_certain.cls = RX2 ∧ yX2_certain.cls ≠ "java/lang/invoke/MethodHandle" ∧ yX2_certain.cls ≠ "java/lang/invoke/VarHandle" ∧ (parseMethodDescriptor yX2_certain.desc).map (fun d => d.parameters.length) = some 0 := by decide +kernel
theorem hd_X2_have : yX2_have.cls = RX2 ∧ yX2_have.cls ≠ "java/lang/invoke/MethodHandle" ∧ yX2_have.cls ≠ "java/lang/invoke/VarHandle" ∧ (parseMethodDescriptor yX2_have.desc).map (fun d => d.parameters.length) = some 2 := by decide +kernel
theorem hd_X1_meanPossible : yX1_meanPossible.cls = RX1 ∧ yX1_meanPossible.cls ≠ "java/lang/invoke/MethodHandle" ∧ yX1_meanPossible.cls ≠ "java/lang/invoke/VarHandle" ∧ (parseMethodDescriptor yX1_meanPossible.desc).map (fun d => d.parameters.length) = some 0 := by decide +kernel
theorem hd_L_cell : yL_cell.cls ≠ "java/lang/invoke/MethodHandle" ∧ yL_cell.cls ≠ "java/lang/invoke/VarHandle" ∧ (parseMethodDescriptor yL_cell.desc).map (fun d => d.parameters.length) = some 2 := by decide +kernel
theorem hd_L_act : yL_act.cls ≠ "java/lang/invoke/MethodHandle" ∧ yL_act.cls ≠ "java/lang/invoke/VarHandle" ∧ (parseMethodDescriptor yL_act.desc).map (fun d => d.parameters.length) = some 3 := by decide +kernel
theorem hd_L_below : yL_below.cls ≠ "java/lang/invoke/MethodHandle" ∧ yL_below.cls ≠ "java/lang/invoke/VarHandle" ∧ (parseMethodDescriptor yL_below.desc).map (fun d => d.parameters.length) = some 2 := by decide +kernel
theorem hd_X2_add : yX2_add.cls = RX2 ∧ yX2_add.cls ≠ "java/lang/invoke/MethodHandle" ∧ yX2_add.cls ≠ "java/lang/invoke/VarHandle" ∧ (parseMethodDescriptor yX2_add.desc).map (fun d => d.parameters.length) = some 1 := by decide +kernel
theorem hd_X2_all : yX2_all.cls = RX2 ∧ yX2_all.cls ≠ "java/lang/invoke/MethodHandle" ∧ yX2_all.cls ≠ "java/lang/invoke/VarHandle" ∧ (parseMethodDescriptor yX2_all.desc).map (fun d => d.parameters.length) = some 0 := by decide +kernel
theorem hd_X1_addPlayer : yX1_addPlayer.cls = RX1 ∧ yX1_addPlayer.cls ≠ "java/lang/invoke/MethodHandle" ∧ yX1_addPlayer.cls ≠ "java/lang/invoke/VarHandle" ∧ (parseMethodDescriptor yX1_addPlayer.desc).map (fun d => d.parameters.length) = some 1 := by decide +kernel
theorem hd_X1_lookAtEachOther : yX1_lookAtEachOther.cls = RX1 ∧ yX1_lookAtEachOther.cls ≠ "java/lang/invoke/MethodHandle" ∧ yX1_lookAtEachOther.cls ≠ "java/lang/invoke/VarHandle" ∧ (parseMethodDescriptor yX1_lookAtEachOther.desc).map (fun d => d.parameters.length) = some 1 := by decide +kernel
theorem hd_X1_setSeenHatsOf : yX1_setSeenHatsOf.cls = RX1 ∧ yX1_setSeenHatsOf.cls ≠ "java/lang/invoke/MethodHandle" ∧ yX1_setSeenHatsOf.cls ≠ "java/lang/invoke/VarHandle" ∧ (parseMethodDescriptor yX1_setSeenHatsOf.desc).map (fun d => d.parameters.length) = some 2 := by decide +kernel
theorem hd_X1_openColoursOf : yX1_openColoursOf.cls = RX1 ∧ yX1_openColoursOf.cls ≠ "java/lang/invoke/MethodHandle" ∧ yX1_openColoursOf.cls ≠ "java/lang/invoke/VarHandle" ∧ (parseMethodDescriptor yX1_openColoursOf.desc).map (fun d => d.parameters.length) = some 1 := by decide +kernel
theorem hd_J9_max_7cf53 : yJ9_max_7cf53.cls ≠ "java/lang/invoke/MethodHandle" ∧ yJ9_max_7cf53.cls ≠ "java/lang/invoke/VarHandle" ∧ (parseMethodDescriptor yJ9_max_7cf53.desc).map (fun d => d.parameters.length) = some 2 := by decide +kernel
theorem hd_X1_turnAway : yX1_turnAway.cls = RX1 ∧ yX1_turnAway.cls ≠ "java/lang/invoke/MethodHandle" ∧ yX1_turnAway.cls ≠ "java/lang/invoke/VarHandle" ∧ (parseMethodDescriptor yX1_turnAway.desc).map (fun d => d.parameters.length) = some 2 := by decide +kernel
theorem hd_X1_requireTwoPlayers : yX1_requireTwoPlayers.cls = RX1 ∧ yX1_requireTwoPlayers.cls ≠ "java/lang/invoke/MethodHandle" ∧ yX1_requireTwoPlayers.cls ≠ "java/lang/invoke/VarHandle" ∧ (parseMethodDescriptor yX1_requireTwoPlayers.desc).map (fun d => d.parameters.length) = some 2 := by decide +kernel
theorem hd_X2_borrow : yX2_borrow.cls = RX2 ∧ yX2_borrow.cls ≠ "java/lang/invoke/MethodHandle" ∧ yX2_borrow.cls ≠ "java/lang/invoke/VarHandle" ∧ (parseMethodDescriptor yX2_borrow.desc).map (fun d => d.parameters.length) = some 2 := by decide +kernel
theorem hd_X1_borrow : yX1_borrow.cls = RX1 ∧ yX1_borrow.cls ≠ "java/lang/invoke/MethodHandle" ∧ yX1_borrow.cls ≠ "java/lang/invoke/VarHandle" ∧ (parseMethodDescriptor yX1_borrow.desc).map (fun d => d.parameters.length) = some 2 := by decide +kernel
theorem hd_X1_exchanged : yX1_exchanged.cls ≠ "java/lang/invoke/MethodHandle" ∧ yX1_exchanged.cls ≠ "java/lang/invoke/VarHandle" ∧ (parseMethodDescriptor yX1_exchanged.desc).map (fun d => d.parameters.length) = some 3 := by decide +kernel
theorem hd_X0_put : yX0_put.cls = RX0 ∧ yX0_put.cls ≠ "java/lang/invoke/MethodHandle" ∧ yX0_put.cls ≠ "java/lang/invoke/VarHandle" ∧ (parseMethodDescriptor yX0_put.desc).map (fun d => d.parameters.length) = some 2 := by decide +kernel
theorem hd_X1_sayAtLeast : yX1_sayAtLeast.cls = RX1 ∧ yX1_sayAtLeast.cls ≠ "java/lang/invoke/MethodHandle" ∧ yX1_sayAtLeast.cls ≠ "java/lang/invoke/VarHandle" ∧ (parseMethodDescriptor yX1_sayAtLeast.desc).map (fun d => d.parameters.length) = some 2 := by decide +kernel
theorem hd_X1_requireMany : yX1_requireMany.cls ≠ "java/lang/invoke/MethodHandle" ∧ yX1_requireMany.cls ≠ "java/lang/invoke/VarHandle" ∧ (parseMethodDescriptor yX1_requireMany.desc).map (fun d => d.parameters.length) = some 1 := by decide +kernel
theorem hd_X1_sayBetween : yX1_sayBetween.cls = RX1 ∧ yX1_sayBetween.cls ≠ "java/lang/invoke/MethodHandle" ∧ yX1_sayBetween.cls ≠ "java/lang/invoke/VarHandle" ∧ (parseMethodDescriptor yX1_sayBetween.desc).map (fun d => d.parameters.length) = some 3 := by decide +kernel
theorem hd_X1_keepWithHats : yX1_keepWithHats.cls = RX1 ∧ yX1_keepWithHats.cls ≠ "java/lang/invoke/MethodHandle" ∧ yX1_keepWithHats.cls ≠ "java/lang/invoke/VarHandle" ∧ (parseMethodDescriptor yX1_keepWithHats.desc).map (fun d => d.parameters.length) = some 4 := by decide +kernel
theorem hd_X2_say : yX2_say.cls = RX2 ∧ yX2_say.cls ≠ "java/lang/invoke/MethodHandle" ∧ yX2_say.cls ≠ "java/lang/invoke/VarHandle" ∧ (parseMethodDescriptor yX2_say.desc).map (fun d => d.parameters.length) = some 3 := by decide +kernel
theorem hd_X1_sayAtMost : yX1_sayAtMost.cls = RX1 ∧ yX1_sayAtMost.cls ≠ "java/lang/invoke/MethodHandle" ∧ yX1_sayAtMost.cls ≠ "java/lang/invoke/VarHandle" ∧ (parseMethodDescriptor yX1_sayAtMost.desc).map (fun d => d.parameters.length) = some 2 := by decide +kernel
theorem hd_X1_begin : yX1_begin.cls = RX1 ∧ yX1_begin.cls ≠ "java/lang/invoke/MethodHandle" ∧ yX1_begin.cls ≠ "java/lang/invoke/VarHandle" ∧ (parseMethodDescriptor yX1_begin.desc).map (fun d => d.parameters.length) = some 0 := by decide +kernel
theorem hd_L_build : yL_build.cls ≠ "java/lang/invoke/MethodHandle" ∧ yL_build.cls ≠ "java/lang/invoke/VarHandle" ∧ (parseMethodDescriptor yL_build.desc).map (fun d => d.parameters.length) = some 2 := by decide +kernel
