/-! what the model's methods answer, in whole numbers -/
abbrev mW (cI cZ : ClassId) (m0 m1 m2 m3 m4 m5 m6 th n : Nat) (bg : Bool) (tn sl : Nat) (ht sn : Nat → Nat) (o nx kp : Nat → Bool) (ow : Nat → Nat) : va_W := [(m0, .inr (2, [.int (nI th), .int (nI n), .int (bI bg), .ref m1, .ref m2, .ref m3, .ref m4, .ref m5, .ref m6, .int (nI tn), .int (nI sl)])), (m1, .inl (cI, 5, .inl (fun k => nI (ht k)))), (m2, .inl (cI, 5, .inl (fun k => nI (sn k)))), (m3, .inl (cZ, 243, .inl (fun k => bI (o k)))), (m4, .inl (cZ, 243, .inl (fun k => bI (nx k)))), (m5, .inl (cZ, 243, .inl (fun k => bI (kp k)))), (m6, .inl (cI, 243, .inl (fun k => nI (ow k))))]
theorem mW_swap (a b c d e f g : Nat) : List.Perm [a, b, c, e, d, f, g] [a, b, c, d, e, f, g] := (((List.Perm.swap d e [f, g]).cons c).cons b).cons a
theorem va_P_arr {D : va_G} {cl : List vw_C} {ws : va_W} {H : Heap} (hP : va_P D cl ws H) (q0 : Nat) {a : Nat} {cA : ClassId} {n : Nat} {f g : Nat → Int32} (h0 : ws[q0]? = some (a, .inl (cA, n, .inl f))) (h : ∀ j, j < n → f j = g j) : va_P D cl (ws.set q0 (a, .inl (cA, n, .inl g))) H := by
  have e : vp_cell cA (n, .inl f) = vp_cell cA (n, .inl g) := by
    rw [vp_cell_i, vp_cell_i]
    simp only [arrV]
    congr 1
    exact congrArg Array.ofFn (funext fun j => by rw [h j.val j.isLt])
  intro k q hk
  by_cases hkq : k = q0
  · subst hkq
    rw [List.getElem?_set_self (List.getElem?_eq_some_iff.mp h0).1] at hk
    cases hk
    have := hP _ _ h0
    show H[a]? = some (vp_cell cA (n, .inl g))
    rw [← e]; exact this
  · rw [List.getElem?_set_ne (Ne.symm hkq)] at hk
    exact hP k q hk
def mix {α : Type} (f g : Nat → α) (i : Nat) : Nat → α := fun j => if j < i then f j else g j
theorem mix_0 {α : Type} (f g : Nat → α) : mix f g 0 = g := by funext j; simp [mix]
theorem mix_s {α : Type} {f g : Nat → α} {i : Nat} {v : α} (h : v = f i) : upN (mix f g i) i v = mix f g (i + 1) := by
  funext j
  by_cases hj : j = i
  · subst hj; simp [upN, mix, h]
  · by_cases h2 : j < i
    · simp [upN, mix, hj, h2, show j < i + 1 by omega]
    · simp [upN, mix, hj, h2, show ¬ j < i + 1 by omega]
theorem mix_lt {α : Type} {f g : Nat → α} {i j : Nat} (h : j < i) : mix f g i j = f j := by simp [mix, h]
theorem mix_ge {α : Type} {f g : Nat → α} {i j : Nat} (h : i ≤ j) : mix f g i j = g j := by simp [mix, Nat.not_lt.mpr h]
theorem p3_243 : ∀ n, n ≤ 5 → 3 ^ n ≤ 243 := by decide
theorem p3_in : ∀ n, n < 6 → 3 ^ n < 2 ^ 31 := by decide
theorem p3_0 (n : Nat) : 0 < 3 ^ n := Nat.pow_pos (by omega)
theorem p3_ne {n : Nat} (h : n < 6) : ¬ nI (3 ^ n) = 0 := nI_ne0 (p3_0 n) (p3_in n h)
def dg3 (w p : Nat) : Nat := w / 3 ^ p % 3
theorem dg3_lt (w p : Nat) : dg3 w p < 3 := Nat.mod_lt _ (by omega)
def realN (ht : Nat → Nat) : Nat → Nat
  | 0 => 0
  | p + 1 => realN ht p + ht p * 3 ^ p
theorem realN_lt {ht : Nat → Nat} : ∀ (n : Nat), (∀ p, p < n → ht p < 3) → realN ht n < 3 ^ n
  | 0, _ => by simp [realN]
  | n + 1, h => by
    have h1 := realN_lt n (fun p hp => h p (by omega))
    have h2 : ht n * 3 ^ n ≤ 2 * 3 ^ n := Nat.mul_le_mul_right _ (by have := h n (by omega); omega)
    simp only [realN, Nat.pow_succ]; omega
def seeM (sn : Nat → Nat) (p k q : Nat) : Bool := (sn p / 2 ^ k &&& 1) == 1 && !(k == q)
def viewN (sn : Nat → Nat) (p w : Nat) : Nat → Nat
  | 0 => 0
  | k + 1 => if seeM sn p k p then viewN sn p w k + dg3 w k * 3 ^ k else viewN sn p w k
theorem viewN_lt (sn : Nat → Nat) (p w : Nat) : ∀ n, viewN sn p w n < 3 ^ n
  | 0 => by simp [viewN]
  | n + 1 => by
    have h1 := viewN_lt sn p w n
    have h2 : dg3 w n * 3 ^ n ≤ 2 * 3 ^ n := Nat.mul_le_mul_right _ (by have := dg3_lt w n; omega)
    simp only [viewN, Nat.pow_succ]
    split <;> omega
/-- the colours of q in the marked ways below i of which p's view is v -/
def colG (sn : Nat → Nat) (p q : Nat) (o : Nat → Bool) (n v : Nat) : Nat → Nat
  | 0 => 0
  | w + 1 => if (o w && viewN sn p w n == v) = true then colG sn p q o n v w ||| (1 * 2 ^ dg3 w q) else colG sn p q o n v w
theorem bit3_lt (w q : Nat) : 1 * 2 ^ dg3 w q < 8 := by
  have h : ∀ k, k < 3 → 1 * 2 ^ k < 8 := by decide
  exact h _ (dg3_lt w q)
theorem colG_lt (sn : Nat → Nat) (p q : Nat) (o : Nat → Bool) (n v : Nat) : ∀ i, colG sn p q o n v i < 8
  | 0 => by simp [colG]
  | w + 1 => by
    have h1 := colG_lt sn p q o n v w
    simp only [colG]
    split
    · exact Nat.or_lt_two_pow (n := 3) h1 (bit3_lt w q)
    · exact h1
def isO (b : Nat) : Bool := b == 1 || b == 2 || b == 4
def cntP (P : Nat → Bool) : Nat → Nat
  | 0 => 0
  | w + 1 => cntP P w + if P w = true then 1 else 0
theorem cntP_le (P : Nat → Bool) : ∀ i, cntP P i ≤ i
  | 0 => Nat.le_refl 0
  | w + 1 => by
    have := cntP_le P w
    simp only [cntP]; split <;> omega
theorem cntP_t {P : Nat → Bool} {i a : Nat} (h : P i = true) (ha : a = cntP P i) : a + 1 = cntP P (i + 1) := by simp [cntP, h, ha]
theorem cntP_f {P : Nat → Bool} {i a : Nat} (h : P i = false) (ha : a = cntP P i) : a + 0 = cntP P (i + 1) := by simp [cntP, h, ha]
theorem cntP_f' {P : Nat → Bool} {i a : Nat} (h : P i = false) (ha : a = cntP P i) : a = cntP P (i + 1) := by simp [cntP, h, ha]
def certM (sn ht : Nat → Nat) (o : Nat → Bool) (n p : Nat) : Bool := isO (colG sn p p o n (viewN sn p (realN ht n) n) (3 ^ n))
def mayM (sn : Nat → Nat) (o : Nat → Bool) (n p w : Nat) : Bool := isO (colG sn p p o n (viewN sn p w n) (3 ^ n))
def turnM (sn : Nat → Nat) (o : Nat → Bool) (n p now : Nat) : Nat → Bool := fun w => (o w && mayM sn o n p w == mayM sn o n p now) && (!mayM sn o n p now || dg3 w p == dg3 now p)
def lookF (sn : Nat → Nat) (p : Nat) (o : Nat → Bool) (n : Nat) (ow : Nat → Nat) (i : Nat) : Nat → Nat := mix (fun v => colG sn p p o n v i) ow (3 ^ n)
theorem look_t {sn : Nat → Nat} {p : Nat} {o : Nat → Bool} {n : Nat} {ow : Nat → Nat} {i : Nat} (h : o i = true) : upN (lookF sn p o n ow i) (viewN sn p i n) (lookF sn p o n ow i (viewN sn p i n) ||| (1 * 2 ^ dg3 i p)) = lookF sn p o n ow (i + 1) := by
  funext v
  by_cases hv : v = viewN sn p i n
  · subst hv
    rw [upN_s]
    simp [lookF, mix, viewN_lt, colG, h]
  · rw [upN_n _ _ hv]
    by_cases h2 : v < 3 ^ n
    · simp [lookF, mix, h2, colG, h, Ne.symm hv]
    · simp [lookF, mix, h2]
theorem look_f {sn : Nat → Nat} {p : Nat} {o : Nat → Bool} {n : Nat} {ow : Nat → Nat} {i : Nat} (h : o i = false) : lookF sn p o n ow i = lookF sn p o n ow (i + 1) := by
  funext v
  by_cases h2 : v < 3 ^ n <;> simp [lookF, mix, h2, colG, h]
theorem look_0 (sn : Nat → Nat) (p : Nat) (o : Nat → Bool) (n : Nat) (ow : Nat → Nat) : mix (fun _ => 0) ow (3 ^ n) = lookF sn p o n ow 0 := by
  funext v
  simp [lookF, mix, colG]
def haveN : Nat → Nat → Nat → Nat
  | 0, _, _ => 0
  | p + 1, w, c => haveN p w c + if dg3 w p = c then 1 else 0
theorem haveN_le : ∀ (n w c : Nat), haveN n w c ≤ n
  | 0, _, _ => Nat.le_refl 0
  | n + 1, w, c => by
    have := haveN_le n w c
    simp only [haveN]; split <;> omega
def isM (n w c many : Nat) (least : Bool) : Bool := if least = true then decide (many ≤ haveN n w c) else decide (haveN n w c ≤ many)
def manyM (sn ht : Nat → Nat) (o : Nat → Bool) (n : Nat) : Nat → Nat
  | 0 => 0
  | p + 1 => manyM sn ht o n p + if certM sn ht o n p = true then 1 else 0
theorem manyM_le (sn ht : Nat → Nat) (o : Nat → Bool) (n : Nat) : ∀ i, manyM sn ht o n i ≤ i
  | 0 => Nat.le_refl 0
  | p + 1 => by
    have := manyM_le sn ht o n p
    simp only [manyM]; split <;> omega
def sureM (sn ht : Nat → Nat) (o : Nat → Bool) (n p q : Nat) : Bool := (List.range (3 ^ n)).all (fun w => !(o w && viewN sn p w n == viewN sn p (realN ht n) n) || mayM sn o n q w)
def cpyB (f g : Nat → Bool) : Nat → Bool := fun k => if k < 243 then f k else g k
theorem cpyB_e (f g : Nat → Bool) : va_cpy (fun k => bI (f k)) (fun k => bI (g k)) 0 0 243 = fun k => bI (cpyB f g k) := by
  funext k
  by_cases h : k < 243 <;> simp [va_cpy, cpyB, h]
theorem bI_fits (b : Bool) : fits .boolean (.int (bI b)) = true := by cases b <;> decide
theorem q_cp_ml : Cond.methodLink RX2 79 arraycopyName ∈ bw := bw_of 814 (by decide +kernel) (by decide +kernel)
theorem q_cp_st : Cond.static arraycopyName ∈ bw := bw_of 815 (by decide +kernel) (by decide +kernel)
theorem q_cp_nt : Cond.native arraycopyName ∈ bw := bw_of 816 (by decide +kernel) (by decide +kernel)
section
variable {p : Program} {l : Launch} {e : Env} {R : Room} {s : State} {m : MethodId} {args : Array Value} {below : List Frame} {meth : Method} {c : Code} {H : Heap} {locs : List Loc} {cells slots : Nat} {Q : State → Prop}
variable {pc : Nat} {ls : Array Slot} {rest : List Value} {cc : ByteArray} {D : va_G} {cl : List vw_C} {A : Nat → Prop} {a : Nat} {tys : List (ClassId × FieldType)} {ws : va_W} {H0 : Heap}
theorem za_cpy (hexec : p.tables.exec = Jvm.exec) (hb : c.code = cc) (hml : c.maxLocals = ls.size) (hown : s.vm.findClass RX2 = some m.cls) (hts : ∀ w ∈ bw, w.before args s = true)
    (hK : va_K D cl tys s) (hP : va_P D cl ws H) (hD : va_D A ws) (hS : va_S A H0 H locs) (q0 q1 t0 : Nat) {a0 : Nat} {c0 : ClassId} {f g : Nat → Bool} (ha0 : ws[q0]? = some (a0, .inl (c0, 243, .inl (fun k => bI (f k))))) (ha1 : ws[q1]? = some (a, .inl (c0, 243, .inl (fun k => bI (g k))))) (ht0 : tys[t0]? = some (c0, .boolean))
    (hframes : 1 ≤ R.frames) (hlocals : (rest.map fun v => v.category).sum + (nativeFrameWords "java/lang/System" "arraycopy" 5 + 11) ≤ R.locals) (hdg : decode cc pc = .ok (.invokestatic 79, 3))
    (kk : ∀ (H1 : Heap) (locs1 : List Loc), va_P D cl (ws.set q1 (a, .inl (c0, 243, .inl (fun k => bI (cpyB f g k))))) H1 → va_D A (ws.set q1 (a, .inl (c0, 243, .inl (fun k => bI (cpyB f g k))))) → va_S A H0 H1 locs1 → W p l e R s m args below meth c H1 locs1 cells slots Q (F0 m (pc + 3) ls rest)) : W p l e R s m args below meth c H locs cells slots Q (F0 m pc ls (.int (nI 243) :: .int (nI 0) :: .ref a :: .int (nI 0) :: .ref a0 :: rest)) := by
  have c0' : (nI 0).toNatClampNeg = 0 := nI_clamp (by omega)
  have c2 : (nI 243).toNatClampNeg = 243 := nI_clamp (by omega)
  refine va_copyi hexec hb hml hown (hts _ q_cp_ml) (hts _ q_cp_nt) (hts _ q_cp_st) (hts _ q_in_J10) hK hP hD hS q0 q1 t0 t0 ha0 ha1 ht0 ht0 rfl (nI_pos (by omega)) (nI_pos (by omega)) (nI_pos (by omega)) (by rw [c0', c2]; omega) (by rw [c0', c2]; omega) (fun i _ => bI_fits _) hframes hlocals hdg ?_
  rw [c0', c2, cpyB_e]
  exact kk
end
section
variable {l : Launch} {dC : Nat → ClassId} {dI : Nat → Nat → Nat} {cI cZ cJ : ClassId}

set_option maxHeartbeats 4000000 in
set_option maxRecDepth 100000 in
theorem m_X2_thrown (m0 m1 m2 m3 m4 m5 m6 th n : Nat) (bg : Bool) (tn sl : Nat) (ht sn : Nat → Nat) (o nx kp : Nat → Bool) (ow : Nat → Nat)  : Mp l yX2_thrown ws_X2_thrown 0 0 (dC, dI) (tyL cI cZ cJ) [.ref m0] (mW cI cZ m0 m1 m2 m3 m4 m5 m6 th n bg tn sl ht sn o nx kp ow) (fun r => r = nI th) := by
  refine Mi_of (by decide +kernel) (Nat.le_of_ble_eq_true rfl) ?_
  intro pr ev sx mi ag bl me cd Q ls S hP hK hD hZ hl ret
  obtain ⟨hx, hb, hml, hown, hts⟩ := id S
  have hown : sx.vm.findClass RX2 = some mi.cls := hown
  have hS : va_S (wIn (mW cI cZ m0 m1 m2 m3 m4 m5 m6 th n bg tn sl ht sn o nx kp ow)) sx.heap sx.heap [] := va_S.rf
  have hl : lv_has ls 1 [(0, .ref m0)] := hl
  refine lv_aload_n hx hb dX2_thrown_0 rfl (lv_at hl 0 rfl) ?_
  refine va_get (D := (dC, dI)) (ci := 2) (v := .int (nI th)) (C := RX2) (T := TX2) (N := 11) hx hb hts inX2 hown hK hP 0 rfl rfl 0 (by decide) (hts _ q_fl_X2_29) (fun _ h9 => h9) rfl dX2_thrown_1 ?_
  exact ret _ (mW cI cZ m0 m1 m2 m3 m4 m5 m6 th n bg tn sl ht sn o nx kp ow) _ _ _ _ dX2_thrown_4 rfl ⟨rfl, rfl⟩ (List.Perm.refl _) hP hS

set_option maxHeartbeats 4000000 in
set_option maxRecDepth 100000 in
theorem m_X2_fail (m0 m1 m2 m3 m4 m5 m6 th n : Nat) (bg : Bool) (tn sl : Nat) (ht sn : Nat → Nat) (o nx kp : Nat → Bool) (ow : Nat → Nat) (k : Nat) : Mi l yX2_fail ws_X2_fail 0 0 (dC, dI) (tyL cI cZ cJ) [.ref m0, .int (nI k)] (mW cI cZ m0 m1 m2 m3 m4 m5 m6 th n bg tn sl ht sn o nx kp ow) (fun r u => r = nI 0 ∧ u = mW cI cZ m0 m1 m2 m3 m4 m5 m6 k n bg tn sl ht sn o nx kp ow) := by
  refine Mi_of (by decide +kernel) (Nat.le_of_ble_eq_true rfl) ?_
  intro pr ev sx mi ag bl me cd Q ls S hP hK hD hZ hl ret
  obtain ⟨hx, hb, hml, hown, hts⟩ := id S
  have hown : sx.vm.findClass RX2 = some mi.cls := hown
  have hS : va_S (wIn (mW cI cZ m0 m1 m2 m3 m4 m5 m6 th n bg tn sl ht sn o nx kp ow)) sx.heap sx.heap [] := va_S.rf
  have hl : lv_has ls 2 [(0, .ref m0), (1, .int (nI k))] := hl
  refine lv_aload_n hx hb dX2_fail_0 rfl (lv_at hl 0 rfl) ?_
  refine lv_iload_n hx hb dX2_fail_1 rfl (lv_at hl 1 rfl) ?_
  refine va_put (D := (dC, dI)) (ci := 2) (v := .int (nI k)) (ty := .int) (C := RX2) (T := TX2) (N := 11) hx hb hts inX2 tyX2 tyX2_ok nmX2 hown hK hP hD hS 0 rfl rfl 0 (by decide) (hts _ q_fl_X2_29) (fun _ h9 => h9) rfl (by decide +kernel) rfl rfl (Nat.le_of_ble_eq_true rfl) dX2_fail_2 (fun H locs hP hD hS => ?_)
  have hP : va_P (dC, dI) vwCl (mW cI cZ m0 m1 m2 m3 m4 m5 m6 k n bg tn sl ht sn o nx kp ow) H := hP
  have hD : va_D (wIn (mW cI cZ m0 m1 m2 m3 m4 m5 m6 th n bg tn sl ht sn o nx kp ow)) (mW cI cZ m0 m1 m2 m3 m4 m5 m6 k n bg tn sl ht sn o nx kp ow) := hD
  refine lv_iconst (v := nI 0) hx hb dX2_fail_5 (by decide) ?_
  exact ret _ (mW cI cZ m0 m1 m2 m3 m4 m5 m6 k n bg tn sl ht sn o nx kp ow) _ _ _ _ dX2_fail_6 rfl ⟨rfl, rfl⟩ (List.Perm.refl _) hP hS

set_option maxHeartbeats 4000000 in
set_option maxRecDepth 100000 in
theorem m_X2_told (m0 m1 m2 m3 m4 m5 m6 th n : Nat) (bg : Bool) (tn sl : Nat) (ht sn : Nat → Nat) (o nx kp : Nat → Bool) (ow : Nat → Nat) (v : Int32) : Mi l yX2_told ws_X2_told 0 0 (dC, dI) (tyL cI cZ cJ) [.ref m0, .int v] (mW cI cZ m0 m1 m2 m3 m4 m5 m6 th n bg tn sl ht sn o nx kp ow) (fun r u => r = v ∧ u = mW cI cZ m0 m1 m2 m3 m4 m5 m6 0 n bg tn sl ht sn o nx kp ow) := by
  refine Mi_of (by decide +kernel) (Nat.le_of_ble_eq_true rfl) ?_
  intro pr ev sx mi ag bl me cd Q ls S hP hK hD hZ hl ret
  obtain ⟨hx, hb, hml, hown, hts⟩ := id S
  have hown : sx.vm.findClass RX2 = some mi.cls := hown
  have hS : va_S (wIn (mW cI cZ m0 m1 m2 m3 m4 m5 m6 th n bg tn sl ht sn o nx kp ow)) sx.heap sx.heap [] := va_S.rf
  have hl : lv_has ls 2 [(0, .ref m0), (1, .int v)] := hl
  refine lv_aload_n hx hb dX2_told_0 rfl (lv_at hl 0 rfl) ?_
  refine lv_iconst (v := nI 0) hx hb dX2_told_1 (by decide) ?_
  refine va_put (D := (dC, dI)) (ci := 2) (v := .int (nI 0)) (ty := .int) (C := RX2) (T := TX2) (N := 11) hx hb hts inX2 tyX2 tyX2_ok nmX2 hown hK hP hD hS 0 rfl rfl 0 (by decide) (hts _ q_fl_X2_29) (fun _ h9 => h9) rfl (by decide +kernel) rfl rfl (Nat.le_of_ble_eq_true rfl) dX2_told_2 (fun H locs hP hD hS => ?_)
  have hP : va_P (dC, dI) vwCl (mW cI cZ m0 m1 m2 m3 m4 m5 m6 0 n bg tn sl ht sn o nx kp ow) H := hP
  have hD : va_D (wIn (mW cI cZ m0 m1 m2 m3 m4 m5 m6 th n bg tn sl ht sn o nx kp ow)) (mW cI cZ m0 m1 m2 m3 m4 m5 m6 0 n bg tn sl ht sn o nx kp ow) := hD
  refine lv_iload_n hx hb dX2_told_5 rfl (lv_at hl 1 rfl) ?_
  exact ret _ (mW cI cZ m0 m1 m2 m3 m4 m5 m6 0 n bg tn sl ht sn o nx kp ow) _ _ _ _ dX2_told_6 rfl ⟨rfl, rfl⟩ (List.Perm.refl _) hP hS

set_option maxHeartbeats 4000000 in
set_option maxRecDepth 100000 in
theorem m_X2_isIn (v a b : Int32) (t : Bool) (htt : t = true → a ≤ v ∧ v ≤ b) (hff : t = false → ¬ (a ≤ v ∧ v ≤ b)) : Mp l yX2_isIn ws_X2_isIn 0 0 (dC, dI) (tyL cI cZ cJ) [.int v, .int a, .int b] ([]) (fun r => r = bI t) := by
  refine Mi_of (by decide +kernel) (Nat.le_of_ble_eq_true rfl) ?_
  intro pr ev sx mi ag bl me cd Q ls S hP hK hD hZ hl ret
  obtain ⟨hx, hb, hml, hown, hts⟩ := id S
  have hown : sx.vm.findClass RX2 = some mi.cls := hown
  have hS : va_S (wIn ([])) sx.heap sx.heap [] := va_S.rf
  have hl : lv_has ls 3 [(0, .int v), (1, .int a), (2, .int b)] := hl
  refine lv_iload_n hx hb dX2_isIn_0 rfl (lv_at hl 0 rfl) ?_
  refine lv_iload_n hx hb dX2_isIn_1 rfl (lv_at hl 1 rfl) ?_
  refine lv_icmp_lt (tgt := 14) hx hb dX2_isIn_2 (by decide) (fun c_2 => ?_) (fun c_2 => ?_)
  · refine lv_iconst (v := nI 0) hx hb dX2_isIn_14 (by decide) ?_
    exact ret _ ([]) _ _ _ _ dX2_isIn_15 rfl ⟨rfl, bI_f (by cases ht9 : t with | false => rfl | true => exact absurd (htt ht9).1 (Int32.not_le.mpr c_2))⟩ (List.Perm.refl _) hP hS
  · refine lv_iload_n hx hb dX2_isIn_5 rfl (lv_at hl 0 rfl) ?_
    refine lv_iload_n hx hb dX2_isIn_6 rfl (lv_at hl 2 rfl) ?_
    refine lv_icmp_gt (tgt := 14) hx hb dX2_isIn_7 (by decide) (fun c_7 => ?_) (fun c_7 => ?_)
    · refine lv_iconst (v := nI 0) hx hb dX2_isIn_14 (by decide) ?_
      exact ret _ ([]) _ _ _ _ dX2_isIn_15 rfl ⟨rfl, bI_f (by cases ht9 : t with | false => rfl | true => exact absurd (htt ht9).2 (Int32.not_le.mpr c_7))⟩ (List.Perm.refl _) hP hS
    · refine lv_iconst (v := nI 1) hx hb dX2_isIn_10 (by decide) ?_
      refine lv_goto (tgt := 15) hx hb dX2_isIn_11 (by decide) ?_
      exact ret _ ([]) _ _ _ _ dX2_isIn_15 rfl ⟨rfl, bI_t (by cases ht9 : t with | true => rfl | false => exact absurd ⟨Int32.not_lt.mp c_2, Int32.not_lt.mp c_7⟩ (hff ht9))⟩ (List.Perm.refl _) hP hS

theorem isP_t {n j : Nat} (hn : n ≤ 5) (hj : j < n) : nI 0 ≤ nI j ∧ nI j ≤ nI n - nI 1 := by
  rw [pk_sub (show 1 ≤ n by omega)]
  exact ⟨(nI_leI (by omega) (by omega)).mpr (by omega), (nI_leI (by omega) (by omega)).mpr (by omega)⟩
theorem isP_f {n : Nat} {a0 : Int32} (hn : n ≤ 5) (h : ∀ j, j < n → a0 ≠ nI j) : ¬ (nI 0 ≤ a0 ∧ a0 ≤ nI n - nI 1) := by
  rintro ⟨h1, h2⟩
  have h0 : ¬ a0 < 0 := by rw [nI_0] at h1; exact Int32.not_lt.mpr h1
  obtain ⟨j, hj, rfl⟩ := nI_of h0
  have e : (nI j).toInt ≤ (nI n - nI 1).toInt := Int32.le_iff_toInt_le.mp h2
  rw [nI_toInt hj, pk_sub_toInt (by omega) (by omega)] at e
  exact h j (by omega) rfl
theorem isC_t {k c : Nat} (hk : k < 100) (hc : c < k + 1) : nI 0 ≤ nI c ∧ nI c ≤ nI k := ⟨(nI_leI (by omega) (by omega)).mpr (by omega), (nI_leI (by omega) (by omega)).mpr (by omega)⟩
theorem isC_f {k : Nat} {a0 : Int32} (hk : k < 100) (h : ∀ j, j < k + 1 → a0 ≠ nI j) : ¬ (nI 0 ≤ a0 ∧ a0 ≤ nI k) := by
  rintro ⟨h1, h2⟩
  have h0 : ¬ a0 < 0 := by rw [nI_0] at h1; exact Int32.not_lt.mpr h1
  obtain ⟨j, hj, rfl⟩ := nI_of h0
  exact h j (by have := (nI_leI hj (by omega)).mp h2; omega) rfl
set_option maxHeartbeats 4000000 in
set_option maxRecDepth 100000 in
theorem m_X2_isPlayer_t (m0 m1 m2 m3 m4 m5 m6 th n : Nat) (bg : Bool) (tn sl : Nat) (ht sn : Nat → Nat) (o nx kp : Nat → Bool) (ow : Nat → Nat) (j : Nat) (hn : n ≤ 5) (hj : j < n) : Mp l yX2_isPlayer ws_X2_isPlayer 1 22 (dC, dI) (tyL cI cZ cJ) [.ref m0, .int (nI j)] (mW cI cZ m0 m1 m2 m3 m4 m5 m6 th n bg tn sl ht sn o nx kp ow) (fun r => r = bI true) := by
  refine Mi_of (by decide +kernel) (Nat.le_of_ble_eq_true rfl) ?_
  intro pr ev sx mi ag bl me cd Q ls S hP hK hD hZ hl ret
  obtain ⟨hx, hb, hml, hown, hts⟩ := id S
  have hown : sx.vm.findClass RX2 = some mi.cls := hown
  have hS : va_S (wIn (mW cI cZ m0 m1 m2 m3 m4 m5 m6 th n bg tn sl ht sn o nx kp ow)) sx.heap sx.heap [] := va_S.rf
  have hl : lv_has ls 2 [(0, .ref m0), (1, .int (nI j))] := hl
  refine lv_iload_n hx hb dX2_isPlayer_0 rfl (lv_at hl 1 rfl) ?_
  refine lv_iconst (v := nI 0) hx hb dX2_isPlayer_1 (by decide) ?_
  refine lv_aload_n hx hb dX2_isPlayer_2 rfl (lv_at hl 0 rfl) ?_
  refine va_get (D := (dC, dI)) (ci := 2) (v := .int (nI n)) (C := RX2) (T := TX2) (N := 11) hx hb hts inX2 hown hK hP 0 rfl rfl 1 (by decide) (hts _ q_fl_X2_33) (fun _ h9 => h9) rfl dX2_isPlayer_3 ?_
  refine lv_iconst (v := nI 1) hx hb dX2_isPlayer_6 (by decide) ?_
  refine lv_isub hx hb dX2_isPlayer_7 ?_
  refine W_i (y := (nI n - nI 1)) (rfl) ?_
  refine call_Sp (As := [.int (nI j), .int (nI 0), .int (nI n - nI 1)]) (rest := []) S (m_X2_isIn (nI j) (nI 0) (nI n - nI 1) true (fun _ => isP_t hn hj) (fun q => absurd q (by decide))) g_X2_X2_isIn hd_X2_isIn ⟨Nat.le_of_ble_eq_true rfl, Nat.le_of_ble_eq_true rfl⟩ ⟨Nat.zero_le _, Nat.zero_le _⟩ hP hD hK hS hZ [] rfl (by decide) hl.1 rfl (Nat.le_of_ble_eq_true rfl) dX2_isPlayer_8 (fun r H locs hq hP hS => ?_)
  obtain rfl := hq
  exact ret _ (mW cI cZ m0 m1 m2 m3 m4 m5 m6 th n bg tn sl ht sn o nx kp ow) _ _ _ _ dX2_isPlayer_11 (bI_nar _) ⟨rfl, rfl⟩ (List.Perm.refl _) hP hS

set_option maxHeartbeats 4000000 in
set_option maxRecDepth 100000 in
theorem m_X2_isPlayer_f (m0 m1 m2 m3 m4 m5 m6 th n : Nat) (bg : Bool) (tn sl : Nat) (ht sn : Nat → Nat) (o nx kp : Nat → Bool) (ow : Nat → Nat) (a0 : Int32) (hn : n ≤ 5) (ha0 : ∀ j, j < n → a0 ≠ nI j) : Mp l yX2_isPlayer ws_X2_isPlayer 1 22 (dC, dI) (tyL cI cZ cJ) [.ref m0, .int a0] (mW cI cZ m0 m1 m2 m3 m4 m5 m6 th n bg tn sl ht sn o nx kp ow) (fun r => r = bI false) := by
  refine Mi_of (by decide +kernel) (Nat.le_of_ble_eq_true rfl) ?_
  intro pr ev sx mi ag bl me cd Q ls S hP hK hD hZ hl ret
  obtain ⟨hx, hb, hml, hown, hts⟩ := id S
  have hown : sx.vm.findClass RX2 = some mi.cls := hown
  have hS : va_S (wIn (mW cI cZ m0 m1 m2 m3 m4 m5 m6 th n bg tn sl ht sn o nx kp ow)) sx.heap sx.heap [] := va_S.rf
  have hl : lv_has ls 2 [(0, .ref m0), (1, .int a0)] := hl
  refine lv_iload_n hx hb dX2_isPlayer_0 rfl (lv_at hl 1 rfl) ?_
  refine lv_iconst (v := nI 0) hx hb dX2_isPlayer_1 (by decide) ?_
  refine lv_aload_n hx hb dX2_isPlayer_2 rfl (lv_at hl 0 rfl) ?_
  refine va_get (D := (dC, dI)) (ci := 2) (v := .int (nI n)) (C := RX2) (T := TX2) (N := 11) hx hb hts inX2 hown hK hP 0 rfl rfl 1 (by decide) (hts _ q_fl_X2_33) (fun _ h9 => h9) rfl dX2_isPlayer_3 ?_
  refine lv_iconst (v := nI 1) hx hb dX2_isPlayer_6 (by decide) ?_
  refine lv_isub hx hb dX2_isPlayer_7 ?_
  refine W_i (y := (nI n - nI 1)) (rfl) ?_
  refine call_Sp (As := [.int a0, .int (nI 0), .int (nI n - nI 1)]) (rest := []) S (m_X2_isIn a0 (nI 0) (nI n - nI 1) false (fun q => absurd q (by decide)) (fun _ => isP_f hn ha0)) g_X2_X2_isIn hd_X2_isIn ⟨Nat.le_of_ble_eq_true rfl, Nat.le_of_ble_eq_true rfl⟩ ⟨Nat.zero_le _, Nat.zero_le _⟩ hP hD hK hS hZ [] rfl (by decide) hl.1 rfl (Nat.le_of_ble_eq_true rfl) dX2_isPlayer_8 (fun r H locs hq hP hS => ?_)
  obtain rfl := hq
  exact ret _ (mW cI cZ m0 m1 m2 m3 m4 m5 m6 th n bg tn sl ht sn o nx kp ow) _ _ _ _ dX2_isPlayer_11 (bI_nar _) ⟨rfl, rfl⟩ (List.Perm.refl _) hP hS

set_option maxHeartbeats 4000000 in
set_option maxRecDepth 100000 in
theorem m_X2_isColour_t (co : Nat) (hco : co < 3) : Mp l yX2_isColour ws_X2_isColour 1 22 (dC, dI) (tyL cI cZ cJ) [.int (nI co)] ([]) (fun r => r = bI true) := by
  refine Mi_of (by decide +kernel) (Nat.le_of_ble_eq_true rfl) ?_
  intro pr ev sx mi ag bl me cd Q ls S hP hK hD hZ hl ret
  obtain ⟨hx, hb, hml, hown, hts⟩ := id S
  have hown : sx.vm.findClass RX2 = some mi.cls := hown
  have hS : va_S (wIn ([])) sx.heap sx.heap [] := va_S.rf
  have hl : lv_has ls 1 [(0, .int (nI co))] := hl
  refine lv_iload_n hx hb dX2_isColour_0 rfl (lv_at hl 0 rfl) ?_
  refine lv_iconst (v := nI 0) hx hb dX2_isColour_1 (by decide) ?_
  refine lv_iconst (v := nI 2) hx hb dX2_isColour_2 (by decide) ?_
  refine call_Sp (As := [.int (nI co), .int (nI 0), .int (nI 2)]) (rest := []) S (m_X2_isIn (nI co) (nI 0) (nI 2) true (fun _ => isC_t (by omega) hco) (fun q => absurd q (by decide))) g_X2_X2_isIn hd_X2_isIn ⟨Nat.le_of_ble_eq_true rfl, Nat.le_of_ble_eq_true rfl⟩ ⟨Nat.zero_le _, Nat.zero_le _⟩ hP hD hK hS hZ [] rfl (by decide) hl.1 rfl (Nat.le_of_ble_eq_true rfl) dX2_isColour_3 (fun r H locs hq hP hS => ?_)
  obtain rfl := hq
  exact ret _ ([]) _ _ _ _ dX2_isColour_6 (bI_nar _) ⟨rfl, rfl⟩ (List.Perm.refl _) hP hS

set_option maxHeartbeats 4000000 in
set_option maxRecDepth 100000 in
theorem m_X2_isColour_f (a0 : Int32) (ha0 : ∀ j, j < 3 → a0 ≠ nI j) : Mp l yX2_isColour ws_X2_isColour 1 22 (dC, dI) (tyL cI cZ cJ) [.int a0] ([]) (fun r => r = bI false) := by
  refine Mi_of (by decide +kernel) (Nat.le_of_ble_eq_true rfl) ?_
  intro pr ev sx mi ag bl me cd Q ls S hP hK hD hZ hl ret
  obtain ⟨hx, hb, hml, hown, hts⟩ := id S
  have hown : sx.vm.findClass RX2 = some mi.cls := hown
  have hS : va_S (wIn ([])) sx.heap sx.heap [] := va_S.rf
  have hl : lv_has ls 1 [(0, .int a0)] := hl
  refine lv_iload_n hx hb dX2_isColour_0 rfl (lv_at hl 0 rfl) ?_
  refine lv_iconst (v := nI 0) hx hb dX2_isColour_1 (by decide) ?_
  refine lv_iconst (v := nI 2) hx hb dX2_isColour_2 (by decide) ?_
  refine call_Sp (As := [.int a0, .int (nI 0), .int (nI 2)]) (rest := []) S (m_X2_isIn a0 (nI 0) (nI 2) false (fun q => absurd q (by decide)) (fun _ => isC_f (by omega) ha0)) g_X2_X2_isIn hd_X2_isIn ⟨Nat.le_of_ble_eq_true rfl, Nat.le_of_ble_eq_true rfl⟩ ⟨Nat.zero_le _, Nat.zero_le _⟩ hP hD hK hS hZ [] rfl (by decide) hl.1 rfl (Nat.le_of_ble_eq_true rfl) dX2_isColour_3 (fun r H locs hq hP hS => ?_)
  obtain rfl := hq
  exact ret _ ([]) _ _ _ _ dX2_isColour_6 (bI_nar _) ⟨rfl, rfl⟩ (List.Perm.refl _) hP hS

set_option maxHeartbeats 4000000 in
set_option maxRecDepth 100000 in
theorem m_X2_ways (m0 m1 m2 m3 m4 m5 m6 th n : Nat) (bg : Bool) (tn sl : Nat) (ht sn : Nat → Nat) (o nx kp : Nat → Bool) (ow : Nat → Nat) (hn : n ≤ 5) : Mp l yX2_ways ws_X2_ways 0 0 (dC, dI) (tyL cI cZ cJ) [.ref m0] (mW cI cZ m0 m1 m2 m3 m4 m5 m6 th n bg tn sl ht sn o nx kp ow) (fun r => r = nI (3 ^ n)) := by
  refine Mi_of (by decide +kernel) (Nat.le_of_ble_eq_true rfl) ?_
  intro pr ev sx mi ag bl me cd Q ls S hP hK hD hZ hl ret
  obtain ⟨hx, hb, hml, hown, hts⟩ := id S
  have hown : sx.vm.findClass RX2 = some mi.cls := hown
  have hS : va_S (wIn (mW cI cZ m0 m1 m2 m3 m4 m5 m6 th n bg tn sl ht sn o nx kp ow)) sx.heap sx.heap [] := va_S.rf
  have hl : lv_has ls 1 [(0, .ref m0)] := hl
  refine pw_gets hx hb hZ hS hown hts dX2_ways_0 (fun tp0 hTtp0 => ?_)
  refine lv_aload_n hx hb dX2_ways_3 rfl (lv_at hl 0 rfl) ?_
  refine va_get (D := (dC, dI)) (ci := 2) (v := .int (nI n)) (C := RX2) (T := TX2) (N := 11) hx hb hts inX2 hown hK hP 0 rfl rfl 1 (by decide) (hts _ q_fl_X2_33) (fun _ h9 => h9) rfl dX2_ways_4 ?_
  refine pw_ld hx hb hTtp0 hS (by omega) dX2_ways_7 ?_
  exact ret _ (mW cI cZ m0 m1 m2 m3 m4 m5 m6 th n bg tn sl ht sn o nx kp ow) _ _ _ _ dX2_ways_8 rfl ⟨rfl, rfl⟩ (List.Perm.refl _) hP hS

set_option maxHeartbeats 4000000 in
set_option maxRecDepth 100000 in
theorem m_X2_colour (w p : Nat) (hw : w < 2 ^ 31) (hp : p < 5) : Mp l yX2_colour ws_X2_colour 0 0 (dC, dI) (tyL cI cZ cJ) [.int (nI w), .int (nI p)] ([]) (fun r => r = nI (dg3 w p)) := by
  refine Mi_of (by decide +kernel) (Nat.le_of_ble_eq_true rfl) ?_
  intro pr ev sx mi ag bl me cd Q ls S hP hK hD hZ hl ret
  obtain ⟨hx, hb, hml, hown, hts⟩ := id S
  have hown : sx.vm.findClass RX2 = some mi.cls := hown
  have hS : va_S (wIn ([])) sx.heap sx.heap [] := va_S.rf
  have hl : lv_has ls 2 [(0, .int (nI w)), (1, .int (nI p))] := hl
  refine lv_iload_n hx hb dX2_colour_0 rfl (lv_at hl 0 rfl) ?_
  refine pw_gets hx hb hZ hS hown hts dX2_colour_1 (fun tp1 hTtp1 => ?_)
  refine lv_iload_n hx hb dX2_colour_4 rfl (lv_at hl 1 rfl) ?_
  refine pw_ld hx hb hTtp1 hS (by omega) dX2_colour_5 ?_
  refine lv_idiv hx hb dX2_colour_6 (p3_ne (by omega)) ?_
  refine W_i (y := nI (w / (3 ^ p))) (pk_div hw (p3_0 p) (p3_in p (by omega))) ?_
  refine lv_iconst (v := nI 3) hx hb dX2_colour_7 (by decide) ?_
  refine lv_irem hx hb dX2_colour_8 (by decide) ?_
  refine W_i (y := nI ((w / (3 ^ p)) % 3)) (pk_rem (by have := Nat.div_le_self w (3 ^ p); omega) (by omega) (by omega)) ?_
  exact ret _ ([]) _ _ _ _ dX2_colour_9 rfl ⟨rfl, rfl⟩ (List.Perm.refl _) hP hS

set_option maxHeartbeats 4000000 in
set_option maxRecDepth 100000 in
theorem m_X2_real (m0 m1 m2 m3 m4 m5 m6 th n : Nat) (bg : Bool) (tn sl : Nat) (ht sn : Nat → Nat) (o nx kp : Nat → Bool) (ow : Nat → Nat) (hn : n ≤ 5) : Mp l yX2_real ws_X2_real 0 0 (dC, dI) (tyL cI cZ cJ) [.ref m0] (mW cI cZ m0 m1 m2 m3 m4 m5 m6 th n bg tn sl ht sn o nx kp ow) (fun r => r = nI (realN ht n)) := by
  refine Mi_of (by decide +kernel) (Nat.le_of_ble_eq_true rfl) ?_
  intro pr ev sx mi ag bl me cd Q ls S hP hK hD hZ hl ret
  obtain ⟨hx, hb, hml, hown, hts⟩ := id S
  have hown : sx.vm.findClass RX2 = some mi.cls := hown
  have hS : va_S (wIn (mW cI cZ m0 m1 m2 m3 m4 m5 m6 th n bg tn sl ht sn o nx kp ow)) sx.heap sx.heap [] := va_S.rf
  have hl : lv_has ls 3 [(0, .ref m0)] := hl
  refine lv_iconst (v := nI 0) hx hb dX2_real_0 (by decide) ?_
  refine lv_istore_n (lv' := [(1, .int (nI 0)), (0, .ref m0)]) hx hb dX2_real_1 rfl hl (by decide) rfl (fun ls hl => ?_)
  refine lv_iconst (v := nI 0) hx hb dX2_real_2 (by decide) ?_
  refine lv_istore_n (lv' := [(2, .int (nI 0)), (1, .int (nI 0)), (0, .ref m0)]) hx hb dX2_real_3 rfl hl (by decide) rfl (fun ls hl => ?_)
  have lp4 : ∀ (kf : Nat) (i : Nat) (a : Nat), n < i + kf → (i ≤ n) → (a = realN ht i) → ∀ (H : Heap) (locs : List Loc), va_P (dC, dI) vwCl (mW cI cZ m0 m1 m2 m3 m4 m5 m6 th n bg tn sl ht sn o nx kp ow) H → va_D (wIn (mW cI cZ m0 m1 m2 m3 m4 m5 m6 th n bg tn sl ht sn o nx kp ow)) (mW cI cZ m0 m1 m2 m3 m4 m5 m6 th n bg tn sl ht sn o nx kp ow) → va_S (wIn (mW cI cZ m0 m1 m2 m3 m4 m5 m6 th n bg tn sl ht sn o nx kp ow)) sx.heap H locs → ∀ ls : Array Slot, lv_has ls 3 [(2, .int (nI i)), (1, .int (nI a)), (0, .ref m0)] → W pr l ev (rmB 0 0) sx mi ag bl me cd H locs 0 0 Q (F0 mi 4 ls []) := by
    intro kf
    induction kf with
    | zero => intro i a hkf hi ha; exact absurd hkf (by omega)
    | succ kf ih4 =>
      intro i a hkf hi ha H locs hP hD hS ls hl
      refine lv_iload_n hx hb dX2_real_4 rfl (lv_at hl 0 rfl) ?_
      refine lv_aload_n hx hb dX2_real_5 rfl (lv_at hl 2 rfl) ?_
      refine va_get (D := (dC, dI)) (ci := 2) (v := .int (nI n)) (C := RX2) (T := TX2) (N := 11) hx hb hts inX2 hown hK hP 0 rfl rfl 1 (by decide) (hts _ q_fl_X2_33) (fun _ h9 => h9) rfl dX2_real_6 ?_
      refine icN_ge (tgt := 33) hx hb dX2_real_9 (by decide) (by omega) (by omega) (fun c_9 => ?_) (fun c_9 => ?_)
      · refine lv_iload_n hx hb dX2_real_33 rfl (lv_at hl 1 rfl) ?_
        exact ret _ (mW cI cZ m0 m1 m2 m3 m4 m5 m6 th n bg tn sl ht sn o nx kp ow) _ _ _ _ dX2_real_34 rfl ⟨rfl, by rw [ha, show i = n by omega]⟩ (List.Perm.refl _) hP hS
      · refine lv_iload_n hx hb dX2_real_12 rfl (lv_at hl 1 rfl) ?_
        refine lv_aload_n hx hb dX2_real_13 rfl (lv_at hl 2 rfl) ?_
        refine va_get (D := (dC, dI)) (ci := 2) (v := .ref m1) (C := RX2) (T := TX2) (N := 11) hx hb hts inX2 hown hK hP 0 rfl rfl 3 (by decide) (hts _ q_fl_X2_9) (fun _ h9 => h9) rfl dX2_real_14 ?_
        refine lv_iload_n hx hb dX2_real_17 rfl (lv_at hl 0 rfl) ?_
        refine ia_ld hx hb hK hP 1 0 rfl rfl (j := i) (by omega) (by decide) dX2_real_18 ?_
        refine pw_gets hx hb hZ hS hown hts dX2_real_19 (fun tp19 hTtp19 => ?_)
        refine lv_iload_n hx hb dX2_real_22 rfl (lv_at hl 0 rfl) ?_
        refine pw_ld hx hb hTtp19 hS (by omega) dX2_real_23 ?_
        refine lv_imul hx hb dX2_real_24 ?_
        refine W_i (y := nI ((ht i) * (3 ^ i))) (pk_mul _ _) ?_
        refine lv_iadd hx hb dX2_real_25 ?_
        refine W_i (y := nI (a + ((ht i) * (3 ^ i)))) (nI_add _ _) ?_
        refine lv_istore_n (lv' := [(1, .int (nI (a + ((ht i) * (3 ^ i))))), (2, .int (nI i)), (0, .ref m0)]) hx hb dX2_real_26 rfl hl (by decide) rfl (fun ls hl => ?_)
        refine lv_iinc (v := nI (i + 1)) (lv' := [(2, .int (nI (i + 1))), (1, .int (nI (a + ((ht i) * (3 ^ i))))), (0, .ref m0)]) hx hb dX2_real_27 hl (k := 1) rfl (nI_add _ _) (by decide) rfl (fun ls hl => ?_)
        refine lv_goto (tgt := 4) hx hb dX2_real_30 (by decide) ?_
        exact ih4 (i + 1) _ (by omega) (by omega) (by rw [ha]; rfl) _ _ hP hD hS _ (lv_sub hl [0, 1, 2] rfl)
  exact lp4 (n + 1) 0 0 (by omega) (by omega) rfl _ _ hP hD hS _ (lv_sub hl [0, 1, 2] rfl)

set_option maxHeartbeats 4000000 in
set_option maxRecDepth 100000 in
theorem m_X2_sees (m0 m1 m2 m3 m4 m5 m6 th n : Nat) (bg : Bool) (tn sl : Nat) (ht sn : Nat → Nat) (o nx kp : Nat → Bool) (ow : Nat → Nat) (p k q : Nat) (hp : p < 5) (hk : k < 5) (hq2 : q < 5) (hsn : ∀ p, p < 5 → sn p < 32) : Mp l yX2_sees ws_X2_sees 0 0 (dC, dI) (tyL cI cZ cJ) [.ref m0, .int (nI p), .int (nI k), .int (nI q)] (mW cI cZ m0 m1 m2 m3 m4 m5 m6 th n bg tn sl ht sn o nx kp ow) (fun r => r = bI (seeM sn p k q)) := by
  refine Mi_of (by decide +kernel) (Nat.le_of_ble_eq_true rfl) ?_
  intro pr ev sx mi ag bl me cd Q ls S hP hK hD hZ hl ret
  obtain ⟨hx, hb, hml, hown, hts⟩ := id S
  have hown : sx.vm.findClass RX2 = some mi.cls := hown
  have hS : va_S (wIn (mW cI cZ m0 m1 m2 m3 m4 m5 m6 th n bg tn sl ht sn o nx kp ow)) sx.heap sx.heap [] := va_S.rf
  have hl : lv_has ls 4 [(0, .ref m0), (1, .int (nI p)), (2, .int (nI k)), (3, .int (nI q))] := hl
  refine lv_aload_n hx hb dX2_sees_0 rfl (lv_at hl 0 rfl) ?_
  refine va_get (D := (dC, dI)) (ci := 2) (v := .ref m2) (C := RX2) (T := TX2) (N := 11) hx hb hts inX2 hown hK hP 0 rfl rfl 4 (by decide) (hts _ q_fl_X2_13) (fun _ h9 => h9) rfl dX2_sees_1 ?_
  refine lv_iload_n hx hb dX2_sees_4 rfl (lv_at hl 1 rfl) ?_
  refine ia_ld hx hb hK hP 2 0 rfl rfl (j := p) (by omega) (by decide) dX2_sees_5 ?_
  refine lv_iload_n hx hb dX2_sees_6 rfl (lv_at hl 2 rfl) ?_
  refine lv_ishr hx hb dX2_sees_7 ?_
  refine W_i (y := nI ((sn p) / 2 ^ k)) (nI_shr (by have := hsn p hp; omega) (by omega)) ?_
  refine lv_iconst (v := nI 1) hx hb dX2_sees_8 (by decide) ?_
  refine lv_iand hx hb dX2_sees_9 ?_
  refine W_i (y := nI (((sn p) / 2 ^ k) &&& 1)) (nI_and _ _) ?_
  refine lv_iconst (v := nI 1) hx hb dX2_sees_10 (by decide) ?_
  refine icN_ne (tgt := 23) hx hb dX2_sees_11 (by decide) (by have := @Nat.and_le_right (sn p / 2 ^ k) 1; omega) (by omega) (fun c_11 => ?_) (fun c_11 => ?_)
  · refine lv_iconst (v := nI 0) hx hb dX2_sees_23 (by decide) ?_
    exact ret _ (mW cI cZ m0 m1 m2 m3 m4 m5 m6 th n bg tn sl ht sn o nx kp ow) _ _ _ _ dX2_sees_24 rfl ⟨rfl, bI_f (by rw [seeM, beq_eq_false_iff_ne.mpr c_11]; rfl)⟩ (List.Perm.refl _) hP hS
  · refine lv_iload_n hx hb dX2_sees_14 rfl (lv_at hl 2 rfl) ?_
    refine lv_iload_n hx hb dX2_sees_15 rfl (lv_at hl 3 rfl) ?_
    refine icN_eq (tgt := 23) hx hb dX2_sees_16 (by decide) (by omega) (by omega) (fun c_16 => ?_) (fun c_16 => ?_)
    · refine lv_iconst (v := nI 0) hx hb dX2_sees_23 (by decide) ?_
      exact ret _ (mW cI cZ m0 m1 m2 m3 m4 m5 m6 th n bg tn sl ht sn o nx kp ow) _ _ _ _ dX2_sees_24 rfl ⟨rfl, bI_f (by simp [seeM, c_16])⟩ (List.Perm.refl _) hP hS
    · refine lv_iconst (v := nI 1) hx hb dX2_sees_19 (by decide) ?_
      refine lv_goto (tgt := 24) hx hb dX2_sees_20 (by decide) ?_
      exact ret _ (mW cI cZ m0 m1 m2 m3 m4 m5 m6 th n bg tn sl ht sn o nx kp ow) _ _ _ _ dX2_sees_24 rfl ⟨rfl, bI_t (by simp [seeM, c_11, c_16])⟩ (List.Perm.refl _) hP hS

set_option maxHeartbeats 4000000 in
set_option maxRecDepth 100000 in
theorem m_X2_view (m0 m1 m2 m3 m4 m5 m6 th n : Nat) (bg : Bool) (tn sl : Nat) (ht sn : Nat → Nat) (o nx kp : Nat → Bool) (ow : Nat → Nat) (p w : Nat) (hn : n ≤ 5) (hsn : ∀ p, p < 5 → sn p < 32) (hp : p < 5) (hw : w < 2 ^ 31) : Mp l yX2_view ws_X2_view 1 23 (dC, dI) (tyL cI cZ cJ) [.ref m0, .int (nI p), .int (nI w)] (mW cI cZ m0 m1 m2 m3 m4 m5 m6 th n bg tn sl ht sn o nx kp ow) (fun r => r = nI (viewN sn p w n)) := by
  refine Mi_of (by decide +kernel) (Nat.le_of_ble_eq_true rfl) ?_
  intro pr ev sx mi ag bl me cd Q ls S hP hK hD hZ hl ret
  obtain ⟨hx, hb, hml, hown, hts⟩ := id S
  have hown : sx.vm.findClass RX2 = some mi.cls := hown
  have hS : va_S (wIn (mW cI cZ m0 m1 m2 m3 m4 m5 m6 th n bg tn sl ht sn o nx kp ow)) sx.heap sx.heap [] := va_S.rf
  have hl : lv_has ls 5 [(0, .ref m0), (1, .int (nI p)), (2, .int (nI w))] := hl
  refine lv_iconst (v := nI 0) hx hb dX2_view_0 (by decide) ?_
  refine lv_istore_n (lv' := [(3, .int (nI 0)), (0, .ref m0), (1, .int (nI p)), (2, .int (nI w))]) hx hb dX2_view_1 rfl hl (by decide) rfl (fun ls hl => ?_)
  refine lv_iconst (v := nI 0) hx hb dX2_view_2 (by decide) ?_
  refine lv_istore (lv' := [(4, .int (nI 0)), (3, .int (nI 0)), (0, .ref m0), (1, .int (nI p)), (2, .int (nI w))]) hx hb dX2_view_3 hl (by decide) rfl (fun ls hl => ?_)
  have lp5 : ∀ (kf : Nat) (i : Nat) (a : Nat), n < i + kf → (i ≤ n) → (a = viewN sn p w i) → ∀ (H : Heap) (locs : List Loc), va_P (dC, dI) vwCl (mW cI cZ m0 m1 m2 m3 m4 m5 m6 th n bg tn sl ht sn o nx kp ow) H → va_D (wIn (mW cI cZ m0 m1 m2 m3 m4 m5 m6 th n bg tn sl ht sn o nx kp ow)) (mW cI cZ m0 m1 m2 m3 m4 m5 m6 th n bg tn sl ht sn o nx kp ow) → va_S (wIn (mW cI cZ m0 m1 m2 m3 m4 m5 m6 th n bg tn sl ht sn o nx kp ow)) sx.heap H locs → ∀ ls : Array Slot, lv_has ls 5 [(4, .int (nI i)), (3, .int (nI a)), (0, .ref m0), (1, .int (nI p)), (2, .int (nI w))] → W pr l ev (rmB 1 23) sx mi ag bl me cd H locs 0 0 Q (F0 mi 5 ls []) := by
    intro kf
    induction kf with
    | zero => intro i a hkf hi ha; exact absurd hkf (by omega)
    | succ kf ih5 =>
      intro i a hkf hi ha H locs hP hD hS ls hl
      refine lv_iload hx hb dX2_view_5 (lv_at hl 0 rfl) ?_
      refine lv_aload_n hx hb dX2_view_7 rfl (lv_at hl 2 rfl) ?_
      refine va_get (D := (dC, dI)) (ci := 2) (v := .int (nI n)) (C := RX2) (T := TX2) (N := 11) hx hb hts inX2 hown hK hP 0 rfl rfl 1 (by decide) (hts _ q_fl_X2_33) (fun _ h9 => h9) rfl dX2_view_8 ?_
      refine icN_ge (tgt := 47) hx hb dX2_view_11 (by decide) (by omega) (by omega) (fun c_11 => ?_) (fun c_11 => ?_)
      · refine lv_iload_n hx hb dX2_view_47 rfl (lv_at hl 1 rfl) ?_
        exact ret _ (mW cI cZ m0 m1 m2 m3 m4 m5 m6 th n bg tn sl ht sn o nx kp ow) _ _ _ _ dX2_view_48 rfl ⟨rfl, by rw [ha, show i = n by omega]⟩ (List.Perm.refl _) hP hS
      · refine lv_aload_n hx hb dX2_view_14 rfl (lv_at hl 2 rfl) ?_
        refine lv_iload_n hx hb dX2_view_15 rfl (lv_at hl 3 rfl) ?_
        refine lv_iload hx hb dX2_view_16 (lv_at hl 0 rfl) ?_
        refine lv_iload_n hx hb dX2_view_18 rfl (lv_at hl 3 rfl) ?_
        refine call_Vp (As := [.int (nI p), .int (nI i), .int (nI p)]) (rest := []) S (m_X2_sees m0 m1 m2 m3 m4 m5 m6 th n bg tn sl ht sn o nx kp ow p i p (by omega) (by omega) (by omega) hsn) g_X2_X2_sees hd_X2_sees ⟨Nat.le_of_ble_eq_true rfl, Nat.le_of_ble_eq_true rfl⟩ ⟨Nat.zero_le _, Nat.zero_le _⟩ hP hD hK hS hZ [0, 1, 2, 3, 4, 5, 6] rfl (by decide) 0 rfl rfl hl.1 rfl (Nat.le_of_ble_eq_true rfl) dX2_view_19 (fun r H locs hq hP hS => ?_)
        obtain rfl := hq
        refine ifB_eq (tgt := 41) hx hb dX2_view_22 (by decide) (fun c_22 => ?_) (fun c_22 => ?_)
        · refine lv_iinc (v := nI (i + 1)) (lv' := [(4, .int (nI (i + 1))), (3, .int (nI a)), (0, .ref m0), (1, .int (nI p)), (2, .int (nI w))]) hx hb dX2_view_41 hl (k := 0) rfl (nI_add _ _) (by decide) rfl (fun ls hl => ?_)
          refine lv_goto (tgt := 5) hx hb dX2_view_44 (by decide) ?_
          exact ih5 (i + 1) _ (by omega) (by omega) (by simp [viewN, ha, c_22]) _ _ hP hD hS _ (lv_sub hl [0, 1, 2, 3, 4] rfl)
        · refine lv_iload_n hx hb dX2_view_25 rfl (lv_at hl 1 rfl) ?_
          refine lv_iload_n hx hb dX2_view_26 rfl (lv_at hl 4 rfl) ?_
          refine lv_iload hx hb dX2_view_27 (lv_at hl 0 rfl) ?_
          refine call_Sp (As := [.int (nI w), .int (nI i)]) (rest := [.int (nI a)]) S (m_X2_colour w i (by omega) (by omega)) g_X2_X2_colour hd_X2_colour ⟨Nat.le_of_ble_eq_true rfl, Nat.le_of_ble_eq_true rfl⟩ ⟨Nat.zero_le _, Nat.zero_le _⟩ hP hD hK hS hZ [] rfl (by decide) hl.1 rfl (Nat.le_of_ble_eq_true rfl) dX2_view_29 (fun r H locs hq hP hS => ?_)
          obtain rfl := hq
          refine pw_gets hx hb hZ hS hown hts dX2_view_32 (fun tp32 hTtp32 => ?_)
          refine lv_iload hx hb dX2_view_35 (lv_at hl 0 rfl) ?_
          refine pw_ld hx hb hTtp32 hS (by omega) dX2_view_37 ?_
          refine lv_imul hx hb dX2_view_38 ?_
          refine W_i (y := nI ((dg3 w i) * (3 ^ i))) (pk_mul _ _) ?_
          refine lv_iadd hx hb dX2_view_39 ?_
          refine W_i (y := nI (a + ((dg3 w i) * (3 ^ i)))) (nI_add _ _) ?_
          refine lv_istore_n (lv' := [(3, .int (nI (a + ((dg3 w i) * (3 ^ i))))), (4, .int (nI i)), (0, .ref m0), (1, .int (nI p)), (2, .int (nI w))]) hx hb dX2_view_40 rfl hl (by decide) rfl (fun ls hl => ?_)
          refine lv_iinc (v := nI (i + 1)) (lv' := [(4, .int (nI (i + 1))), (3, .int (nI (a + ((dg3 w i) * (3 ^ i))))), (0, .ref m0), (1, .int (nI p)), (2, .int (nI w))]) hx hb dX2_view_41 hl (k := 1) rfl (nI_add _ _) (by decide) rfl (fun ls hl => ?_)
          refine lv_goto (tgt := 5) hx hb dX2_view_44 (by decide) ?_
          exact ih5 (i + 1) _ (by omega) (by omega) (by simp [viewN, ha, c_22]) _ _ hP hD hS _ (lv_sub hl [0, 1, 2, 3, 4] rfl)
  exact lp5 (n + 1) 0 0 (by omega) (by omega) rfl _ _ hP hD hS _ (lv_sub hl [0, 1, 2, 3, 4] rfl)

set_option maxHeartbeats 4000000 in
set_option maxRecDepth 100000 in
theorem m_X2_colours (m0 m1 m2 m3 m4 m5 m6 th n : Nat) (bg : Bool) (tn sl : Nat) (ht sn : Nat → Nat) (o nx kp : Nat → Bool) (ow : Nat → Nat) (p q w : Nat) (hn : n ≤ 5) (hsn : ∀ p, p < 5 → sn p < 32) (hp : p < 5) (hq2 : q < 5) (hw : w < 2 ^ 31) : Mp l yX2_colours ws_X2_colours 2 47 (dC, dI) (tyL cI cZ cJ) [.ref m0, .int (nI p), .int (nI q), .int (nI w)] (mW cI cZ m0 m1 m2 m3 m4 m5 m6 th n bg tn sl ht sn o nx kp ow) (fun r => r = nI (colG sn p q o n (viewN sn p w n) (3 ^ n))) := by
  refine Mi_of (by decide +kernel) (Nat.le_of_ble_eq_true rfl) ?_
  intro pr ev sx mi ag bl me cd Q ls S hP hK hD hZ hl ret
  obtain ⟨hx, hb, hml, hown, hts⟩ := id S
  have hown : sx.vm.findClass RX2 = some mi.cls := hown
  have hS : va_S (wIn (mW cI cZ m0 m1 m2 m3 m4 m5 m6 th n bg tn sl ht sn o nx kp ow)) sx.heap sx.heap [] := va_S.rf
  have hl : lv_has ls 7 [(0, .ref m0), (1, .int (nI p)), (2, .int (nI q)), (3, .int (nI w))] := hl
  have h3 := p3_243 n hn; have h30 := p3_0 n
  refine lv_aload_n hx hb dX2_colours_0 rfl (lv_at hl 0 rfl) ?_
  refine lv_iload_n hx hb dX2_colours_1 rfl (lv_at hl 1 rfl) ?_
  refine lv_iload_n hx hb dX2_colours_2 rfl (lv_at hl 3 rfl) ?_
  refine call_Vp (As := [.int (nI p), .int (nI w)]) (rest := []) S (m_X2_view m0 m1 m2 m3 m4 m5 m6 th n bg tn sl ht sn o nx kp ow p w hn hsn (by omega) (by omega)) g_X2_X2_view hd_X2_view ⟨Nat.le_of_ble_eq_true rfl, Nat.le_of_ble_eq_true rfl⟩ ⟨Nat.zero_le _, Nat.zero_le _⟩ hP hD hK hS hZ [0, 1, 2, 3, 4, 5, 6] rfl (by decide) 0 rfl rfl hl.1 rfl (Nat.le_of_ble_eq_true rfl) dX2_colours_3 (fun r H locs hq hP hS => ?_)
  obtain rfl := hq
  refine lv_istore (lv' := [(4, .int (nI (viewN sn p w n))), (0, .ref m0), (1, .int (nI p)), (2, .int (nI q)), (3, .int (nI w))]) hx hb dX2_colours_6 hl (by decide) rfl (fun ls hl => ?_)
  refine lv_iconst (v := nI 0) hx hb dX2_colours_8 (by decide) ?_
  refine lv_istore (lv' := [(5, .int (nI 0)), (4, .int (nI (viewN sn p w n))), (0, .ref m0), (1, .int (nI p)), (2, .int (nI q)), (3, .int (nI w))]) hx hb dX2_colours_9 hl (by decide) rfl (fun ls hl => ?_)
  refine lv_iconst (v := nI 0) hx hb dX2_colours_11 (by decide) ?_
  refine lv_istore (lv' := [(6, .int (nI 0)), (5, .int (nI 0)), (4, .int (nI (viewN sn p w n))), (0, .ref m0), (1, .int (nI p)), (2, .int (nI q)), (3, .int (nI w))]) hx hb dX2_colours_12 hl (by decide) rfl (fun ls hl => ?_)
  have lp14 : ∀ (kf : Nat) (i : Nat) (a : Nat), (3 ^ n) < i + kf → (i ≤ 3 ^ n) → (a = colG sn p q o n (viewN sn p w n) i) → ∀ (H : Heap) (locs : List Loc), va_P (dC, dI) vwCl (mW cI cZ m0 m1 m2 m3 m4 m5 m6 th n bg tn sl ht sn o nx kp ow) H → va_D (wIn (mW cI cZ m0 m1 m2 m3 m4 m5 m6 th n bg tn sl ht sn o nx kp ow)) (mW cI cZ m0 m1 m2 m3 m4 m5 m6 th n bg tn sl ht sn o nx kp ow) → va_S (wIn (mW cI cZ m0 m1 m2 m3 m4 m5 m6 th n bg tn sl ht sn o nx kp ow)) sx.heap H locs → ∀ ls : Array Slot, lv_has ls 7 [(6, .int (nI i)), (5, .int (nI a)), (4, .int (nI (viewN sn p w n))), (0, .ref m0), (1, .int (nI p)), (2, .int (nI q)), (3, .int (nI w))] → W pr l ev (rmB 2 47) sx mi ag bl me cd H locs 0 0 Q (F0 mi 14 ls []) := by
    intro kf
    induction kf with
    | zero => intro i a hkf hi ha; exact absurd hkf (by omega)
    | succ kf ih14 =>
      intro i a hkf hi ha H locs hP hD hS ls hl
      refine lv_iload hx hb dX2_colours_14 (lv_at hl 0 rfl) ?_
      refine lv_aload_n hx hb dX2_colours_16 rfl (lv_at hl 3 rfl) ?_
      refine call_Vp (As := []) (rest := [.int (nI i)]) S (m_X2_ways m0 m1 m2 m3 m4 m5 m6 th n bg tn sl ht sn o nx kp ow  hn) g_X2_X2_ways hd_X2_ways ⟨Nat.le_of_ble_eq_true rfl, Nat.le_of_ble_eq_true rfl⟩ ⟨Nat.zero_le _, Nat.zero_le _⟩ hP hD hK hS hZ [0, 1, 2, 3, 4, 5, 6] rfl (by decide) 0 rfl rfl hl.1 rfl (Nat.le_of_ble_eq_true rfl) dX2_colours_17 (fun r H locs hq hP hS => ?_)
      obtain rfl := hq
      refine icN_ge (tgt := 64) hx hb dX2_colours_20 (by decide) (by omega) (by omega) (fun c_20 => ?_) (fun c_20 => ?_)
      · refine lv_iload hx hb dX2_colours_64 (lv_at hl 1 rfl) ?_
        exact ret _ (mW cI cZ m0 m1 m2 m3 m4 m5 m6 th n bg tn sl ht sn o nx kp ow) _ _ _ _ dX2_colours_66 rfl ⟨rfl, by rw [ha, show i = 3 ^ n by omega]⟩ (List.Perm.refl _) hP hS
      · refine lv_aload_n hx hb dX2_colours_23 rfl (lv_at hl 3 rfl) ?_
        refine va_get (D := (dC, dI)) (ci := 2) (v := .ref m3) (C := RX2) (T := TX2) (N := 11) hx hb hts inX2 hown hK hP 0 rfl rfl 5 (by decide) (hts _ q_fl_X2_16) (fun _ h9 => h9) rfl dX2_colours_24 ?_
        refine lv_iload hx hb dX2_colours_27 (lv_at hl 0 rfl) ?_
        refine za_ld hx hb hK hP 3 1 rfl rfl (j := i) (by omega) (by decide) dX2_colours_29 ?_
        refine ifB_eq (tgt := 58) hx hb dX2_colours_30 (by decide) (fun c_30 => ?_) (fun c_30 => ?_)
        · refine lv_iinc (v := nI (i + 1)) (lv' := [(6, .int (nI (i + 1))), (5, .int (nI a)), (4, .int (nI (viewN sn p w n))), (0, .ref m0), (1, .int (nI p)), (2, .int (nI q)), (3, .int (nI w))]) hx hb dX2_colours_58 hl (k := 0) rfl (nI_add _ _) (by decide) rfl (fun ls hl => ?_)
          refine lv_goto (tgt := 14) hx hb dX2_colours_61 (by decide) ?_
          exact ih14 (i + 1) _ (by omega) (by omega) (by simp [colG, ha, c_30]) _ _ hP hD hS _ (lv_sub hl [0, 1, 2, 3, 4, 5, 6] rfl)
        · refine lv_aload_n hx hb dX2_colours_33 rfl (lv_at hl 3 rfl) ?_
          refine lv_iload_n hx hb dX2_colours_34 rfl (lv_at hl 4 rfl) ?_
          refine lv_iload hx hb dX2_colours_35 (lv_at hl 0 rfl) ?_
          refine call_Vp (As := [.int (nI p), .int (nI i)]) (rest := []) S (m_X2_view m0 m1 m2 m3 m4 m5 m6 th n bg tn sl ht sn o nx kp ow p i hn hsn (by omega) (by omega)) g_X2_X2_view hd_X2_view ⟨Nat.le_of_ble_eq_true rfl, Nat.le_of_ble_eq_true rfl⟩ ⟨Nat.zero_le _, Nat.zero_le _⟩ hP hD hK hS hZ [0, 1, 2, 3, 4, 5, 6] rfl (by decide) 0 rfl rfl hl.1 rfl (Nat.le_of_ble_eq_true rfl) dX2_colours_37 (fun r H locs hq hP hS => ?_)
          obtain rfl := hq
          refine lv_iload hx hb dX2_colours_40 (lv_at hl 2 rfl) ?_
          refine icN_ne (tgt := 58) hx hb dX2_colours_42 (by decide) (Nat.lt_of_lt_of_le (viewN_lt _ _ _ n) (by omega)) (Nat.lt_of_lt_of_le (viewN_lt _ _ _ n) (by omega)) (fun c_42 => ?_) (fun c_42 => ?_)
          · refine lv_iinc (v := nI (i + 1)) (lv' := [(6, .int (nI (i + 1))), (5, .int (nI a)), (4, .int (nI (viewN sn p w n))), (0, .ref m0), (1, .int (nI p)), (2, .int (nI q)), (3, .int (nI w))]) hx hb dX2_colours_58 hl (k := 0) rfl (nI_add _ _) (by decide) rfl (fun ls hl => ?_)
            refine lv_goto (tgt := 14) hx hb dX2_colours_61 (by decide) ?_
            exact ih14 (i + 1) _ (by omega) (by omega) (by simp [colG, ha, c_30, c_42]) _ _ hP hD hS _ (lv_sub hl [0, 1, 2, 3, 4, 5, 6] rfl)
          · refine lv_iload hx hb dX2_colours_45 (lv_at hl 1 rfl) ?_
            refine lv_iconst (v := nI 1) hx hb dX2_colours_47 (by decide) ?_
            refine lv_iload hx hb dX2_colours_48 (lv_at hl 0 rfl) ?_
            refine lv_iload_n hx hb dX2_colours_50 rfl (lv_at hl 5 rfl) ?_
            refine call_Sp (As := [.int (nI i), .int (nI q)]) (rest := [.int (nI 1), .int (nI a)]) S (m_X2_colour i q (by omega) (by omega)) g_X2_X2_colour hd_X2_colour ⟨Nat.le_of_ble_eq_true rfl, Nat.le_of_ble_eq_true rfl⟩ ⟨Nat.zero_le _, Nat.zero_le _⟩ hP hD hK hS hZ [] rfl (by decide) hl.1 rfl (Nat.le_of_ble_eq_true rfl) dX2_colours_51 (fun r H locs hq hP hS => ?_)
            obtain rfl := hq
            refine lv_ishl hx hb dX2_colours_54 ?_
            refine W_i (y := nI (1 * 2 ^ (dg3 i q))) (nI_shl _ (by have := dg3_lt i q; omega)) ?_
            refine lv_ior hx hb dX2_colours_55 ?_
            refine W_i (y := nI (a ||| (1 * 2 ^ (dg3 i q)))) (nI_or _ _) ?_
            refine lv_istore (lv' := [(5, .int (nI (a ||| (1 * 2 ^ (dg3 i q))))), (6, .int (nI i)), (4, .int (nI (viewN sn p w n))), (0, .ref m0), (1, .int (nI p)), (2, .int (nI q)), (3, .int (nI w))]) hx hb dX2_colours_56 hl (by decide) rfl (fun ls hl => ?_)
            refine lv_iinc (v := nI (i + 1)) (lv' := [(6, .int (nI (i + 1))), (5, .int (nI (a ||| (1 * 2 ^ (dg3 i q))))), (4, .int (nI (viewN sn p w n))), (0, .ref m0), (1, .int (nI p)), (2, .int (nI q)), (3, .int (nI w))]) hx hb dX2_colours_58 hl (k := 1) rfl (nI_add _ _) (by decide) rfl (fun ls hl => ?_)
            refine lv_goto (tgt := 14) hx hb dX2_colours_61 (by decide) ?_
            exact ih14 (i + 1) _ (by omega) (by omega) (by simp [colG, ha, c_30, c_42]) _ _ hP hD hS _ (lv_sub hl [0, 1, 2, 3, 4, 5, 6] rfl)
  exact lp14 (3 ^ n + 1) 0 0 (by omega) (by omega) rfl _ _ hP hD hS _ (lv_sub hl [0, 1, 2, 3, 4, 5, 6] rfl)

set_option maxHeartbeats 4000000 in
set_option maxRecDepth 100000 in
theorem m_X2_isOne (b : Nat) (hb2 : b < 2 ^ 31) : Mp l yX2_isOne ws_X2_isOne 0 0 (dC, dI) (tyL cI cZ cJ) [.int (nI b)] ([]) (fun r => r = bI (isO b)) := by
  refine Mi_of (by decide +kernel) (Nat.le_of_ble_eq_true rfl) ?_
  intro pr ev sx mi ag bl me cd Q ls S hP hK hD hZ hl ret
  obtain ⟨hx, hb, hml, hown, hts⟩ := id S
  have hown : sx.vm.findClass RX2 = some mi.cls := hown
  have hS : va_S (wIn ([])) sx.heap sx.heap [] := va_S.rf
  have hl : lv_has ls 1 [(0, .int (nI b))] := hl
  refine lv_iload_n hx hb dX2_isOne_0 rfl (lv_at hl 0 rfl) ?_
  refine lv_iconst (v := nI 1) hx hb dX2_isOne_1 (by decide) ?_
  refine icN_eq (tgt := 15) hx hb dX2_isOne_2 (by decide) (by omega) (by omega) (fun c_2 => ?_) (fun c_2 => ?_)
  · refine lv_iconst (v := nI 1) hx hb dX2_isOne_15 (by decide) ?_
    refine lv_goto (tgt := 20) hx hb dX2_isOne_16 (by decide) ?_
    exact ret _ ([]) _ _ _ _ dX2_isOne_20 rfl ⟨rfl, bI_t (by simp [isO, c_2])⟩ (List.Perm.refl _) hP hS
  · refine lv_iload_n hx hb dX2_isOne_5 rfl (lv_at hl 0 rfl) ?_
    refine lv_iconst (v := nI 2) hx hb dX2_isOne_6 (by decide) ?_
    refine icN_eq (tgt := 15) hx hb dX2_isOne_7 (by decide) (by omega) (by omega) (fun c_7 => ?_) (fun c_7 => ?_)
    · refine lv_iconst (v := nI 1) hx hb dX2_isOne_15 (by decide) ?_
      refine lv_goto (tgt := 20) hx hb dX2_isOne_16 (by decide) ?_
      exact ret _ ([]) _ _ _ _ dX2_isOne_20 rfl ⟨rfl, bI_t (by simp [isO, c_7])⟩ (List.Perm.refl _) hP hS
    · refine lv_iload_n hx hb dX2_isOne_10 rfl (lv_at hl 0 rfl) ?_
      refine lv_iconst (v := nI 4) hx hb dX2_isOne_11 (by decide) ?_
      refine icN_ne (tgt := 19) hx hb dX2_isOne_12 (by decide) (by omega) (by omega) (fun c_12 => ?_) (fun c_12 => ?_)
      · refine lv_iconst (v := nI 0) hx hb dX2_isOne_19 (by decide) ?_
        exact ret _ ([]) _ _ _ _ dX2_isOne_20 rfl ⟨rfl, bI_f (by simp [isO, c_2, c_7, c_12])⟩ (List.Perm.refl _) hP hS
      · refine lv_iconst (v := nI 1) hx hb dX2_isOne_15 (by decide) ?_
        refine lv_goto (tgt := 20) hx hb dX2_isOne_16 (by decide) ?_
        exact ret _ ([]) _ _ _ _ dX2_isOne_20 rfl ⟨rfl, bI_t (by simp [isO, c_12])⟩ (List.Perm.refl _) hP hS

set_option maxHeartbeats 4000000 in
set_option maxRecDepth 100000 in
theorem m_X2_look (m0 m1 m2 m3 m4 m5 m6 th n : Nat) (bg : Bool) (tn sl : Nat) (ht sn : Nat → Nat) (o nx kp : Nat → Bool) (ow : Nat → Nat) (p : Nat) (hn : n ≤ 5) (hsn : ∀ p, p < 5 → sn p < 32) (hp : p < 5) : Mv l yX2_look ws_X2_look 2 47 (dC, dI) (tyL cI cZ cJ) [.ref m0, .int (nI p)] (mW cI cZ m0 m1 m2 m3 m4 m5 m6 th n bg tn sl ht sn o nx kp ow) (fun u => u = mW cI cZ m0 m1 m2 m3 m4 m5 m6 th n bg tn sl ht sn o nx kp (lookF sn p o n ow (3 ^ n))) := by
  refine Mv_of (by decide +kernel) (Nat.le_of_ble_eq_true rfl) ?_
  intro pr ev sx mi ag bl me cd Q ls S hP hK hD hZ hl ret
  obtain ⟨hx, hb, hml, hown, hts⟩ := id S
  have hown : sx.vm.findClass RX2 = some mi.cls := hown
  have hS : va_S (wIn (mW cI cZ m0 m1 m2 m3 m4 m5 m6 th n bg tn sl ht sn o nx kp ow)) sx.heap sx.heap [] := va_S.rf
  have hl : lv_has ls 3 [(0, .ref m0), (1, .int (nI p))] := hl
  have h3 := p3_243 n hn; have h30 := p3_0 n
  refine lv_iconst (v := nI 0) hx hb dX2_look_0 (by decide) ?_
  refine lv_istore_n (lv' := [(2, .int (nI 0)), (0, .ref m0), (1, .int (nI p))]) hx hb dX2_look_1 rfl hl (by decide) rfl (fun ls hl => ?_)
  have lp2 : ∀ (kf : Nat) (i : Nat), (3 ^ n) < i + kf → (i ≤ 3 ^ n) → ∀ (H : Heap) (locs : List Loc), va_P (dC, dI) vwCl (mW cI cZ m0 m1 m2 m3 m4 m5 m6 th n bg tn sl ht sn o nx kp (mix (fun _ => 0) ow i)) H → va_D (wIn (mW cI cZ m0 m1 m2 m3 m4 m5 m6 th n bg tn sl ht sn o nx kp ow)) (mW cI cZ m0 m1 m2 m3 m4 m5 m6 th n bg tn sl ht sn o nx kp (mix (fun _ => 0) ow i)) → va_S (wIn (mW cI cZ m0 m1 m2 m3 m4 m5 m6 th n bg tn sl ht sn o nx kp ow)) sx.heap H locs → ∀ ls : Array Slot, lv_has ls 3 [(2, .int (nI i)), (0, .ref m0), (1, .int (nI p))] → W pr l ev (rmB 2 47) sx mi ag bl me cd H locs 0 0 Q (F0 mi 2 ls []) := by
    intro kf
    induction kf with
    | zero => intro i hkf hi; exact absurd hkf (by omega)
    | succ kf ih2 =>
      intro i hkf hi H locs hP hD hS ls hl
      refine lv_iload_n hx hb dX2_look_2 rfl (lv_at hl 0 rfl) ?_
      refine lv_aload_n hx hb dX2_look_3 rfl (lv_at hl 1 rfl) ?_
      refine call_Vp (As := []) (rest := [.int (nI i)]) S (m_X2_ways m0 m1 m2 m3 m4 m5 m6 th n bg tn sl ht sn o nx kp (mix (fun _ => 0) ow i)  hn) g_X2_X2_ways hd_X2_ways ⟨Nat.le_of_ble_eq_true rfl, Nat.le_of_ble_eq_true rfl⟩ ⟨Nat.zero_le _, Nat.zero_le _⟩ hP hD hK hS hZ [0, 1, 2, 3, 4, 5, 6] rfl (by decide) 0 rfl rfl hl.1 rfl (Nat.le_of_ble_eq_true rfl) dX2_look_4 (fun r H locs hq hP hS => ?_)
      obtain rfl := hq
      refine icN_ge (tgt := 23) hx hb dX2_look_7 (by decide) (by omega) (by omega) (fun c_7 => ?_) (fun c_7 => ?_)
      · refine lv_iconst (v := nI 0) hx hb dX2_look_23 (by decide) ?_
        refine lv_istore_n (lv' := [(2, .int (nI 0)), (0, .ref m0), (1, .int (nI p))]) hx hb dX2_look_24 rfl hl (by decide) rfl (fun ls hl => ?_)
        have lp25 : ∀ (kf : Nat) (i2 : Nat), (3 ^ n) < i2 + kf → (i2 ≤ 3 ^ n) → ∀ (H : Heap) (locs : List Loc), va_P (dC, dI) vwCl (mW cI cZ m0 m1 m2 m3 m4 m5 m6 th n bg tn sl ht sn o nx kp (lookF sn p o n ow i2)) H → va_D (wIn (mW cI cZ m0 m1 m2 m3 m4 m5 m6 th n bg tn sl ht sn o nx kp ow)) (mW cI cZ m0 m1 m2 m3 m4 m5 m6 th n bg tn sl ht sn o nx kp (lookF sn p o n ow i2)) → va_S (wIn (mW cI cZ m0 m1 m2 m3 m4 m5 m6 th n bg tn sl ht sn o nx kp ow)) sx.heap H locs → ∀ ls : Array Slot, lv_has ls 3 [(2, .int (nI i2)), (0, .ref m0), (1, .int (nI p))] → W pr l ev (rmB 2 47) sx mi ag bl me cd H locs 0 0 Q (F0 mi 25 ls []) := by
          intro kf
          induction kf with
          | zero => intro i2 hkf hi2; exact absurd hkf (by omega)
          | succ kf ih25 =>
            intro i2 hkf hi2 H locs hP hD hS ls hl
            refine lv_iload_n hx hb dX2_look_25 rfl (lv_at hl 0 rfl) ?_
            refine lv_aload_n hx hb dX2_look_26 rfl (lv_at hl 1 rfl) ?_
            refine call_Vp (As := []) (rest := [.int (nI i2)]) S (m_X2_ways m0 m1 m2 m3 m4 m5 m6 th n bg tn sl ht sn o nx kp (lookF sn p o n ow i2)  hn) g_X2_X2_ways hd_X2_ways ⟨Nat.le_of_ble_eq_true rfl, Nat.le_of_ble_eq_true rfl⟩ ⟨Nat.zero_le _, Nat.zero_le _⟩ hP hD hK hS hZ [0, 1, 2, 3, 4, 5, 6] rfl (by decide) 0 rfl rfl hl.1 rfl (Nat.le_of_ble_eq_true rfl) dX2_look_27 (fun r H locs hq hP hS => ?_)
            obtain rfl := hq
            refine icN_ge (tgt := 69) hx hb dX2_look_30 (by decide) (by omega) (by omega) (fun c_30 => ?_) (fun c_30 => ?_)
            · exact ret (mW cI cZ m0 m1 m2 m3 m4 m5 m6 th n bg tn sl ht sn o nx kp (lookF sn p o n ow i2)) _ _ _ _ dX2_look_69 (by rw [show i2 = 3 ^ n by omega]) (List.Perm.refl _) hP hS
            · refine lv_aload_n hx hb dX2_look_33 rfl (lv_at hl 1 rfl) ?_
              refine va_get (D := (dC, dI)) (ci := 2) (v := .ref m3) (C := RX2) (T := TX2) (N := 11) hx hb hts inX2 hown hK hP 0 rfl rfl 5 (by decide) (hts _ q_fl_X2_16) (fun _ h9 => h9) rfl dX2_look_34 ?_
              refine lv_iload_n hx hb dX2_look_37 rfl (lv_at hl 0 rfl) ?_
              refine za_ld hx hb hK hP 3 1 rfl rfl (j := i2) (by omega) (by decide) dX2_look_38 ?_
              refine ifB_eq (tgt := 63) hx hb dX2_look_39 (by decide) (fun c_39 => ?_) (fun c_39 => ?_)
              · rw [look_f c_39] at hP hD
                refine lv_iinc (v := nI (i2 + 1)) (lv' := [(2, .int (nI (i2 + 1))), (0, .ref m0), (1, .int (nI p))]) hx hb dX2_look_63 hl (k := 0) rfl (nI_add _ _) (by decide) rfl (fun ls hl => ?_)
                refine lv_goto (tgt := 25) hx hb dX2_look_66 (by decide) ?_
                exact ih25 (i2 + 1) (by omega) (by omega) _ _ hP hD hS _ (lv_sub hl [0, 1, 2] rfl)
              · refine lv_aload_n hx hb dX2_look_42 rfl (lv_at hl 1 rfl) ?_
                refine va_get (D := (dC, dI)) (ci := 2) (v := .ref m6) (C := RX2) (T := TX2) (N := 11) hx hb hts inX2 hown hK hP 0 rfl rfl 8 (by decide) (hts _ q_fl_X2_26) (fun _ h9 => h9) rfl dX2_look_43 ?_
                refine lv_aload_n hx hb dX2_look_46 rfl (lv_at hl 1 rfl) ?_
                refine lv_iload_n hx hb dX2_look_47 rfl (lv_at hl 2 rfl) ?_
                refine lv_iload_n hx hb dX2_look_48 rfl (lv_at hl 0 rfl) ?_
                refine call_Vp (As := [.int (nI p), .int (nI i2)]) (rest := [.ref m6]) S (m_X2_view m0 m1 m2 m3 m4 m5 m6 th n bg tn sl ht sn o nx kp (lookF sn p o n ow i2) p i2 hn hsn (by omega) (by omega)) g_X2_X2_view hd_X2_view ⟨Nat.le_of_ble_eq_true rfl, Nat.le_of_ble_eq_true rfl⟩ ⟨Nat.zero_le _, Nat.zero_le _⟩ hP hD hK hS hZ [0, 1, 2, 3, 4, 5, 6] rfl (by decide) 0 rfl rfl hl.1 rfl (Nat.le_of_ble_eq_true rfl) dX2_look_49 (fun r H locs hq hP hS => ?_)
                obtain rfl := hq
                refine lv_dup2_11 hx hb dX2_look_52 rfl rfl ?_
                refine ia_ld hx hb hK hP 6 0 rfl rfl (j := viewN sn p i2 n) (Nat.lt_of_lt_of_le (viewN_lt sn p i2 n) h3) (by decide) dX2_look_53 ?_
                refine lv_iconst (v := nI 1) hx hb dX2_look_54 (by decide) ?_
                refine lv_iload_n hx hb dX2_look_55 rfl (lv_at hl 0 rfl) ?_
                refine lv_iload_n hx hb dX2_look_56 rfl (lv_at hl 2 rfl) ?_
                refine call_Sp (As := [.int (nI i2), .int (nI p)]) (rest := [.int (nI 1), .int (nI ((lookF sn p o n ow i2) (viewN sn p i2 n))), .int (nI (viewN sn p i2 n)), .ref m6]) S (m_X2_colour i2 p (by omega) (by omega)) g_X2_X2_colour hd_X2_colour ⟨Nat.le_of_ble_eq_true rfl, Nat.le_of_ble_eq_true rfl⟩ ⟨Nat.zero_le _, Nat.zero_le _⟩ hP hD hK hS hZ [] rfl (by decide) hl.1 rfl (Nat.le_of_ble_eq_true rfl) dX2_look_57 (fun r H locs hq hP hS => ?_)
                obtain rfl := hq
                refine lv_ishl hx hb dX2_look_60 ?_
                refine W_i (y := nI (1 * 2 ^ (dg3 i2 p))) (nI_shl _ (by have := dg3_lt i2 p; omega)) ?_
                refine lv_ior hx hb dX2_look_61 ?_
                refine W_i (y := nI (((lookF sn p o n ow i2) (viewN sn p i2 n)) ||| (1 * 2 ^ (dg3 i2 p)))) (nI_or _ _) ?_
                refine ia_st hx hb hK hP hD hS 6 0 rfl rfl (j := viewN sn p i2 n) (v := ((lookF sn p o n ow i2) (viewN sn p i2 n)) ||| (1 * 2 ^ (dg3 i2 p))) (Nat.lt_of_lt_of_le (viewN_lt sn p i2 n) h3) (by decide) dX2_look_62 (fun H locs hP hD hS => ?_)
                rw [show (upN (lookF sn p o n ow i2) (viewN sn p i2 n) (((lookF sn p o n ow i2) (viewN sn p i2 n)) ||| (1 * 2 ^ (dg3 i2 p)))) = (lookF sn p o n ow (i2 + 1)) from look_t c_39] at hP hD
                have hP : va_P (dC, dI) vwCl (mW cI cZ m0 m1 m2 m3 m4 m5 m6 th n bg tn sl ht sn o nx kp (lookF sn p o n ow (i2 + 1))) H := hP
                have hD : va_D (wIn (mW cI cZ m0 m1 m2 m3 m4 m5 m6 th n bg tn sl ht sn o nx kp ow)) (mW cI cZ m0 m1 m2 m3 m4 m5 m6 th n bg tn sl ht sn o nx kp (lookF sn p o n ow (i2 + 1))) := hD
                refine lv_iinc (v := nI (i2 + 1)) (lv' := [(2, .int (nI (i2 + 1))), (0, .ref m0), (1, .int (nI p))]) hx hb dX2_look_63 hl (k := 0) rfl (nI_add _ _) (by decide) rfl (fun ls hl => ?_)
                refine lv_goto (tgt := 25) hx hb dX2_look_66 (by decide) ?_
                exact ih25 (i2 + 1) (by omega) (by omega) _ _ hP hD hS _ (lv_sub hl [0, 1, 2] rfl)
        rw [show i = 3 ^ n by omega, look_0 sn p o n ow] at hP hD
        exact lp25 (3 ^ n + 1) 0 (by omega) (by omega) _ _ hP hD hS _ (lv_sub hl [0, 1, 2] rfl)
      · refine lv_aload_n hx hb dX2_look_10 rfl (lv_at hl 1 rfl) ?_
        refine va_get (D := (dC, dI)) (ci := 2) (v := .ref m6) (C := RX2) (T := TX2) (N := 11) hx hb hts inX2 hown hK hP 0 rfl rfl 8 (by decide) (hts _ q_fl_X2_26) (fun _ h9 => h9) rfl dX2_look_11 ?_
        refine lv_iload_n hx hb dX2_look_14 rfl (lv_at hl 0 rfl) ?_
        refine lv_iconst (v := nI 0) hx hb dX2_look_15 (by decide) ?_
        refine ia_st hx hb hK hP hD hS 6 0 rfl rfl (j := i) (v := 0) (by omega) (by decide) dX2_look_16 (fun H locs hP hD hS => ?_)
        rw [show (upN (mix (fun _ => 0) ow i) i 0) = (mix (fun _ => 0) ow (i + 1)) from mix_s rfl] at hP hD
        have hP : va_P (dC, dI) vwCl (mW cI cZ m0 m1 m2 m3 m4 m5 m6 th n bg tn sl ht sn o nx kp (mix (fun _ => 0) ow (i + 1))) H := hP
        have hD : va_D (wIn (mW cI cZ m0 m1 m2 m3 m4 m5 m6 th n bg tn sl ht sn o nx kp ow)) (mW cI cZ m0 m1 m2 m3 m4 m5 m6 th n bg tn sl ht sn o nx kp (mix (fun _ => 0) ow (i + 1))) := hD
        refine lv_iinc (v := nI (i + 1)) (lv' := [(2, .int (nI (i + 1))), (0, .ref m0), (1, .int (nI p))]) hx hb dX2_look_17 hl (k := 0) rfl (nI_add _ _) (by decide) rfl (fun ls hl => ?_)
        refine lv_goto (tgt := 2) hx hb dX2_look_20 (by decide) ?_
        exact ih2 (i + 1) (by omega) (by omega) _ _ hP hD hS _ (lv_sub hl [0, 1, 2] rfl)
  rw [← mix_0 (fun _ => 0) ow] at hP hD
  exact lp2 (3 ^ n + 1) 0 (by omega) (by omega) _ _ hP hD hS _ (lv_sub hl [0, 1, 2] rfl)

set_option maxHeartbeats 4000000 in
set_option maxRecDepth 100000 in
theorem m_X2_certain (m0 m1 m2 m3 m4 m5 m6 th n : Nat) (bg : Bool) (tn sl : Nat) (ht sn : Nat → Nat) (o nx kp : Nat → Bool) (ow : Nat → Nat) (p w : Nat) (hn : n ≤ 5) (hsn : ∀ p, p < 5 → sn p < 32) (hp : p < 5) (hw : w < 2 ^ 31) (ho : ow (viewN sn p w n) < 16) : Mp l yX2_certain ws_X2_certain 2 47 (dC, dI) (tyL cI cZ cJ) [.ref m0, .int (nI p), .int (nI w)] (mW cI cZ m0 m1 m2 m3 m4 m5 m6 th n bg tn sl ht sn o nx kp ow) (fun r => r = bI (isO (ow (viewN sn p w n)))) := by
  refine Mi_of (by decide +kernel) (Nat.le_of_ble_eq_true rfl) ?_
  intro pr ev sx mi ag bl me cd Q ls S hP hK hD hZ hl ret
  obtain ⟨hx, hb, hml, hown, hts⟩ := id S
  have hown : sx.vm.findClass RX2 = some mi.cls := hown
  have hS : va_S (wIn (mW cI cZ m0 m1 m2 m3 m4 m5 m6 th n bg tn sl ht sn o nx kp ow)) sx.heap sx.heap [] := va_S.rf
  have hl : lv_has ls 3 [(0, .ref m0), (1, .int (nI p)), (2, .int (nI w))] := hl
  refine lv_aload_n hx hb dX2_certain_0 rfl (lv_at hl 0 rfl) ?_
  refine va_get (D := (dC, dI)) (ci := 2) (v := .ref m6) (C := RX2) (T := TX2) (N := 11) hx hb hts inX2 hown hK hP 0 rfl rfl 8 (by decide) (hts _ q_fl_X2_26) (fun _ h9 => h9) rfl dX2_certain_1 ?_
  refine lv_aload_n hx hb dX2_certain_4 rfl (lv_at hl 0 rfl) ?_
  refine lv_iload_n hx hb dX2_certain_5 rfl (lv_at hl 1 rfl) ?_
  refine lv_iload_n hx hb dX2_certain_6 rfl (lv_at hl 2 rfl) ?_
  refine call_Vp (As := [.int (nI p), .int (nI w)]) (rest := [.ref m6]) S (m_X2_view m0 m1 m2 m3 m4 m5 m6 th n bg tn sl ht sn o nx kp ow p w hn hsn (by omega) (by omega)) g_X2_X2_view hd_X2_view ⟨Nat.le_of_ble_eq_true rfl, Nat.le_of_ble_eq_true rfl⟩ ⟨Nat.zero_le _, Nat.zero_le _⟩ hP hD hK hS hZ [0, 1, 2, 3, 4, 5, 6] rfl (by decide) 0 rfl rfl hl.1 rfl (Nat.le_of_ble_eq_true rfl) dX2_certain_7 (fun r H locs hq hP hS => ?_)
  obtain rfl := hq
  refine ia_ld hx hb hK hP 6 0 rfl rfl (j := viewN sn p w n) (Nat.lt_of_lt_of_le (viewN_lt sn p w n) (p3_243 n hn)) (by decide) dX2_certain_10 ?_
  refine call_Sp (As := [.int (nI (ow (viewN sn p w n)))]) (rest := []) S (m_X2_isOne (ow (viewN sn p w n)) (by omega)) g_X2_X2_isOne hd_X2_isOne ⟨Nat.le_of_ble_eq_true rfl, Nat.le_of_ble_eq_true rfl⟩ ⟨Nat.zero_le _, Nat.zero_le _⟩ hP hD hK hS hZ [] rfl (by decide) hl.1 rfl (Nat.le_of_ble_eq_true rfl) dX2_certain_11 (fun r H locs hq hP hS => ?_)
  obtain rfl := hq
  exact ret _ (mW cI cZ m0 m1 m2 m3 m4 m5 m6 th n bg tn sl ht sn o nx kp ow) _ _ _ _ dX2_certain_14 (bI_nar _) ⟨rfl, rfl⟩ (List.Perm.refl _) hP hS

set_option maxHeartbeats 4000000 in
set_option maxRecDepth 100000 in
theorem m_X2_certainNow (m0 m1 m2 m3 m4 m5 m6 th n : Nat) (bg : Bool) (tn sl : Nat) (ht sn : Nat → Nat) (o nx kp : Nat → Bool) (ow : Nat → Nat) (p : Nat) (hn : n ≤ 5) (hsn : ∀ p, p < 5 → sn p < 32) (hht : ∀ p, p < 5 → ht p < 3) (hp : p < 5) : Mp l yX2_certainNow ws_X2_certainNow 3 73 (dC, dI) (tyL cI cZ cJ) [.ref m0, .int (nI p)] (mW cI cZ m0 m1 m2 m3 m4 m5 m6 th n bg tn sl ht sn o nx kp ow) (fun r => r = bI (certM sn ht o n p)) := by
  refine Mi_of (by decide +kernel) (Nat.le_of_ble_eq_true rfl) ?_
  intro pr ev sx mi ag bl me cd Q ls S hP hK hD hZ hl ret
  obtain ⟨hx, hb, hml, hown, hts⟩ := id S
  have hown : sx.vm.findClass RX2 = some mi.cls := hown
  have hS : va_S (wIn (mW cI cZ m0 m1 m2 m3 m4 m5 m6 th n bg tn sl ht sn o nx kp ow)) sx.heap sx.heap [] := va_S.rf
  have hl : lv_has ls 2 [(0, .ref m0), (1, .int (nI p))] := hl
  have h3 := p3_243 n hn; have h30 := p3_0 n
  have hre : realN ht n < 3 ^ n := realN_lt n (fun p hp => hht p (by omega))
  refine lv_aload_n hx hb dX2_certainNow_0 rfl (lv_at hl 0 rfl) ?_
  refine lv_iload_n hx hb dX2_certainNow_1 rfl (lv_at hl 1 rfl) ?_
  refine lv_iload_n hx hb dX2_certainNow_2 rfl (lv_at hl 1 rfl) ?_
  refine lv_aload_n hx hb dX2_certainNow_3 rfl (lv_at hl 0 rfl) ?_
  refine call_Vp (As := []) (rest := [.int (nI p), .int (nI p), .ref m0]) S (m_X2_real m0 m1 m2 m3 m4 m5 m6 th n bg tn sl ht sn o nx kp ow  hn) g_X2_X2_real hd_X2_real ⟨Nat.le_of_ble_eq_true rfl, Nat.le_of_ble_eq_true rfl⟩ ⟨Nat.zero_le _, Nat.zero_le _⟩ hP hD hK hS hZ [0, 1, 2, 3, 4, 5, 6] rfl (by decide) 0 rfl rfl hl.1 rfl (Nat.le_of_ble_eq_true rfl) dX2_certainNow_4 (fun r H locs hq hP hS => ?_)
  obtain rfl := hq
  refine call_Vp (As := [.int (nI p), .int (nI p), .int (nI (realN ht n))]) (rest := []) S (m_X2_colours m0 m1 m2 m3 m4 m5 m6 th n bg tn sl ht sn o nx kp ow p p (realN ht n) hn hsn (by omega) (by omega) (by omega)) g_X2_X2_colours hd_X2_colours ⟨Nat.le_of_ble_eq_true rfl, Nat.le_of_ble_eq_true rfl⟩ ⟨Nat.zero_le _, Nat.zero_le _⟩ hP hD hK hS hZ [0, 1, 2, 3, 4, 5, 6] rfl (by decide) 0 rfl rfl hl.1 rfl (Nat.le_of_ble_eq_true rfl) dX2_certainNow_7 (fun r H locs hq hP hS => ?_)
  obtain rfl := hq
  refine call_Sp (As := [.int (nI (colG sn p p o n (viewN sn p (realN ht n) n) (3 ^ n)))]) (rest := []) S (m_X2_isOne (colG sn p p o n (viewN sn p (realN ht n) n) (3 ^ n)) (by have := colG_lt sn p p o n (viewN sn p (realN ht n) n) (3 ^ n); omega)) g_X2_X2_isOne hd_X2_isOne ⟨Nat.le_of_ble_eq_true rfl, Nat.le_of_ble_eq_true rfl⟩ ⟨Nat.zero_le _, Nat.zero_le _⟩ hP hD hK hS hZ [] rfl (by decide) hl.1 rfl (Nat.le_of_ble_eq_true rfl) dX2_certainNow_10 (fun r H locs hq hP hS => ?_)
  obtain rfl := hq
  exact ret _ (mW cI cZ m0 m1 m2 m3 m4 m5 m6 th n bg tn sl ht sn o nx kp ow) _ _ _ _ dX2_certainNow_13 (bI_nar _) ⟨rfl, rfl⟩ (List.Perm.refl _) hP hS

set_option maxHeartbeats 4000000 in
set_option maxRecDepth 100000 in
theorem m_X2_openNow (m0 m1 m2 m3 m4 m5 m6 th n : Nat) (bg : Bool) (tn sl : Nat) (ht sn : Nat → Nat) (o nx kp : Nat → Bool) (ow : Nat → Nat) (hn : n ≤ 5) : Mp l yX2_openNow ws_X2_openNow 1 20 (dC, dI) (tyL cI cZ cJ) [.ref m0] (mW cI cZ m0 m1 m2 m3 m4 m5 m6 th n bg tn sl ht sn o nx kp ow) (fun r => r = nI (cntP o (3 ^ n))) := by
  refine Mi_of (by decide +kernel) (Nat.le_of_ble_eq_true rfl) ?_
  intro pr ev sx mi ag bl me cd Q ls S hP hK hD hZ hl ret
  obtain ⟨hx, hb, hml, hown, hts⟩ := id S
  have hown : sx.vm.findClass RX2 = some mi.cls := hown
  have hS : va_S (wIn (mW cI cZ m0 m1 m2 m3 m4 m5 m6 th n bg tn sl ht sn o nx kp ow)) sx.heap sx.heap [] := va_S.rf
  have hl : lv_has ls 3 [(0, .ref m0)] := hl
  have h3 := p3_243 n hn; have h30 := p3_0 n
  refine lv_iconst (v := nI 0) hx hb dX2_openNow_0 (by decide) ?_
  refine lv_istore_n (lv' := [(1, .int (nI 0)), (0, .ref m0)]) hx hb dX2_openNow_1 rfl hl (by decide) rfl (fun ls hl => ?_)
  refine lv_iconst (v := nI 0) hx hb dX2_openNow_2 (by decide) ?_
  refine lv_istore_n (lv' := [(2, .int (nI 0)), (1, .int (nI 0)), (0, .ref m0)]) hx hb dX2_openNow_3 rfl hl (by decide) rfl (fun ls hl => ?_)
  have lp4 : ∀ (kf : Nat) (i : Nat) (a : Nat), (3 ^ n) < i + kf → (i ≤ 3 ^ n) → (a = cntP o i) → ∀ (H : Heap) (locs : List Loc), va_P (dC, dI) vwCl (mW cI cZ m0 m1 m2 m3 m4 m5 m6 th n bg tn sl ht sn o nx kp ow) H → va_D (wIn (mW cI cZ m0 m1 m2 m3 m4 m5 m6 th n bg tn sl ht sn o nx kp ow)) (mW cI cZ m0 m1 m2 m3 m4 m5 m6 th n bg tn sl ht sn o nx kp ow) → va_S (wIn (mW cI cZ m0 m1 m2 m3 m4 m5 m6 th n bg tn sl ht sn o nx kp ow)) sx.heap H locs → ∀ ls : Array Slot, lv_has ls 3 [(2, .int (nI i)), (1, .int (nI a)), (0, .ref m0)] → W pr l ev (rmB 1 20) sx mi ag bl me cd H locs 0 0 Q (F0 mi 4 ls []) := by
    intro kf
    induction kf with
    | zero => intro i a hkf hi ha; exact absurd hkf (by omega)
    | succ kf ih4 =>
      intro i a hkf hi ha H locs hP hD hS ls hl
      refine lv_iload_n hx hb dX2_openNow_4 rfl (lv_at hl 0 rfl) ?_
      refine lv_aload_n hx hb dX2_openNow_5 rfl (lv_at hl 2 rfl) ?_
      refine call_Vp (As := []) (rest := [.int (nI i)]) S (m_X2_ways m0 m1 m2 m3 m4 m5 m6 th n bg tn sl ht sn o nx kp ow  hn) g_X2_X2_ways hd_X2_ways ⟨Nat.le_of_ble_eq_true rfl, Nat.le_of_ble_eq_true rfl⟩ ⟨Nat.zero_le _, Nat.zero_le _⟩ hP hD hK hS hZ [0, 1, 2, 3, 4, 5, 6] rfl (by decide) 0 rfl rfl hl.1 rfl (Nat.le_of_ble_eq_true rfl) dX2_openNow_6 (fun r H locs hq hP hS => ?_)
      obtain rfl := hq
      refine icN_ge (tgt := 35) hx hb dX2_openNow_9 (by decide) (by omega) (by omega) (fun c_9 => ?_) (fun c_9 => ?_)
      · refine lv_iload_n hx hb dX2_openNow_35 rfl (lv_at hl 1 rfl) ?_
        exact ret _ (mW cI cZ m0 m1 m2 m3 m4 m5 m6 th n bg tn sl ht sn o nx kp ow) _ _ _ _ dX2_openNow_36 rfl ⟨rfl, by rw [ha, show i = 3 ^ n by omega]⟩ (List.Perm.refl _) hP hS
      · refine lv_iload_n hx hb dX2_openNow_12 rfl (lv_at hl 1 rfl) ?_
        refine lv_aload_n hx hb dX2_openNow_13 rfl (lv_at hl 2 rfl) ?_
        refine va_get (D := (dC, dI)) (ci := 2) (v := .ref m3) (C := RX2) (T := TX2) (N := 11) hx hb hts inX2 hown hK hP 0 rfl rfl 5 (by decide) (hts _ q_fl_X2_16) (fun _ h9 => h9) rfl dX2_openNow_14 ?_
        refine lv_iload_n hx hb dX2_openNow_17 rfl (lv_at hl 0 rfl) ?_
        refine za_ld hx hb hK hP 3 1 rfl rfl (j := i) (by omega) (by decide) dX2_openNow_18 ?_
        refine ifB_eq (tgt := 26) hx hb dX2_openNow_19 (by decide) (fun c_19 => ?_) (fun c_19 => ?_)
        · refine lv_iconst (v := nI 0) hx hb dX2_openNow_26 (by decide) ?_
          refine lv_iadd hx hb dX2_openNow_27 ?_
          refine W_i (y := nI (a + 0)) (nI_add _ _) ?_
          refine lv_istore_n (lv' := [(1, .int (nI (a + 0))), (2, .int (nI i)), (0, .ref m0)]) hx hb dX2_openNow_28 rfl hl (by decide) rfl (fun ls hl => ?_)
          refine lv_iinc (v := nI (i + 1)) (lv' := [(2, .int (nI (i + 1))), (1, .int (nI (a + 0))), (0, .ref m0)]) hx hb dX2_openNow_29 hl (k := 1) rfl (nI_add _ _) (by decide) rfl (fun ls hl => ?_)
          refine lv_goto (tgt := 4) hx hb dX2_openNow_32 (by decide) ?_
          exact ih4 (i + 1) _ (by omega) (by omega) (cntP_f c_19 ha) _ _ hP hD hS _ (lv_sub hl [0, 1, 2] rfl)
        · refine lv_iconst (v := nI 1) hx hb dX2_openNow_22 (by decide) ?_
          refine lv_goto (tgt := 27) hx hb dX2_openNow_23 (by decide) ?_
          refine lv_iadd hx hb dX2_openNow_27 ?_
          refine W_i (y := nI (a + 1)) (nI_add _ _) ?_
          refine lv_istore_n (lv' := [(1, .int (nI (a + 1))), (2, .int (nI i)), (0, .ref m0)]) hx hb dX2_openNow_28 rfl hl (by decide) rfl (fun ls hl => ?_)
          refine lv_iinc (v := nI (i + 1)) (lv' := [(2, .int (nI (i + 1))), (1, .int (nI (a + 1))), (0, .ref m0)]) hx hb dX2_openNow_29 hl (k := 1) rfl (nI_add _ _) (by decide) rfl (fun ls hl => ?_)
          refine lv_goto (tgt := 4) hx hb dX2_openNow_32 (by decide) ?_
          exact ih4 (i + 1) _ (by omega) (by omega) (cntP_t c_19 ha) _ _ hP hD hS _ (lv_sub hl [0, 1, 2] rfl)
  exact lp4 (3 ^ n + 1) 0 0 (by omega) (by omega) rfl _ _ hP hD hS _ (lv_sub hl [0, 1, 2] rfl)

end
