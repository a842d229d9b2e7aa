def namM (o : Nat → Bool) (n c : Nat) : Nat := cntP (fun w => o w && !(haveN n w c == 0)) (3 ^ n)
def bstM (ht : Nat → Nat) (o : Nat → Bool) (n : Nat) : Nat → Option Nat × Nat
  | 0 => (none, 244)
  | c + 1 => if haveN n (realN ht n) c ≠ 0 ∧ namM o n c < (bstM ht o n c).2 then (some c, namM o n c) else bstM ht o n c
def withM (o : Nat → Bool) (n p c : Nat) : Nat := cntP (fun w => o w && dg3 w p == c) (3 ^ n)
def possM (sn ht : Nat → Nat) (o : Nat → Bool) (n p : Nat) : Nat := cntP (fun w => o w && viewN sn p w n == viewN sn p (realN ht n) n) (3 ^ n)
def knwM (sn ht : Nat → Nat) (o : Nat → Bool) (n p q : Nat) : Bool := isO (colG sn p q o n (viewN sn p (realN ht n) n) (3 ^ n))
def allM (ht : Nat → Nat) (o : Nat → Bool) (n p : Nat) : Bool := withM o n p (ht p) == cntP o (3 ^ n)
def tuI (sn : Nat → Nat) (o : Nat → Bool) (n p now : Nat) : Int32 := if mayM sn o n p now = true then nI (dg3 now p) else -1
theorem nI_m1 {j : Nat} (h : j < 2 ^ 31) : ¬ nI j = -1 := by
  intro e
  have := nI_pos' h
  rw [e] at this
  exact absurd this (by decide)
theorem tuI_t {sn : Nat → Nat} {o : Nat → Bool} {n p now : Nat} (h : ¬ tuI sn o n p now = -1) : mayM sn o n p now = true := by
  cases hm : mayM sn o n p now with
  | true => rfl
  | false => exact absurd (by rw [tuI, hm]; rfl) h
theorem tuI_f {sn : Nat → Nat} {o : Nat → Bool} {n p now : Nat} (h : tuI sn o n p now = -1) : ¬ mayM sn o n p now = true := by
  intro hm
  rw [tuI, if_pos hm] at h
  exact nI_m1 (by have := dg3_lt now p; omega) h
def toldF (ht : Nat → Nat) (o : Nat → Bool) (p : Nat) : Nat → Bool := fun w => o w && dg3 w p == ht p
/-- the marks behind i turns, and the other row -/
def seqM (sn : Nat → Nat) (n now tn : Nat) (o nx : Nat → Bool) : Nat → (Nat → Bool) × (Nat → Bool)
  | 0 => (o, nx)
  | i + 1 => (mix (turnM sn (seqM sn n now tn o nx i).1 n ((tn + i) % n) now) (seqM sn n now tn o nx i).2 (3 ^ n), (seqM sn n now tn o nx i).1)
def findF (f : Nat → Bool) : Nat → Nat → Option Nat
  | 0, _ => none
  | k + 1, i => if f i = true then some i else findF f k (i + 1)
theorem find_s {f : Nat → Bool} {v : Option Nat} {i : Nat} (h : v = findF f (41 - i) i) (hi : i ≤ 40) (hf : f i = false) : v = findF f (41 - (i + 1)) (i + 1) := by
  rw [h, show 41 - i = (41 - (i + 1)) + 1 by omega, findF, if_neg (by rw [hf]; decide)]
theorem find_t {f : Nat → Bool} {v : Option Nat} {i : Nat} (h : v = findF f (41 - i) i) (hi : i ≤ 40) (hf : f i = true) : v = some i := by
  rw [h, show 41 - i = (41 - (i + 1)) + 1 by omega, findF, if_pos hf]
theorem find_n {f : Nat → Bool} {v : Option Nat} {i : Nat} (h : v = findF f (41 - i) i) (hi : i = 41) : v = none := by
  rw [h, hi]; rfl
theorem ab_perm {a b m0 m1 m2 m3 m4 m5 m6 : Nat} (h : (a = m3 ∧ b = m4) ∨ (a = m4 ∧ b = m3)) : List.Perm [m0, m1, m2, a, b, m5, m6] [m0, m1, m2, m3, m4, m5, m6] := by
  rcases h with ⟨rfl, rfl⟩ | ⟨rfl, rfl⟩
  · exact List.Perm.refl _
  · exact mW_swap _ _ _ _ _ _ _
def swp (w p q : Nat) : Nat := w + dg3 w q * 3 ^ p + dg3 w p * 3 ^ q - dg3 w p * 3 ^ p - dg3 w q * 3 ^ q
def swpOK : Bool := (List.range 6).all fun n => (List.range n).all fun p => (List.range n).all fun q => (List.range (3 ^ n)).all fun w => p == q || (decide (dg3 w p * 3 ^ p + dg3 w q * 3 ^ q ≤ w + dg3 w q * 3 ^ p + dg3 w p * 3 ^ q) && decide (swp w p q < 3 ^ n))
theorem swpOK_t : swpOK = true := by decide +kernel
theorem swp_all {n p q w : Nat} (hn : n < 6) (hp : p < n) (hq : q < n) (hw : w < 3 ^ n) (hpq : p ≠ q) : dg3 w p * 3 ^ p + dg3 w q * 3 ^ q ≤ w + dg3 w q * 3 ^ p + dg3 w p * 3 ^ q ∧ swp w p q < 3 ^ n := by
  have h1 := List.all_eq_true.mp swpOK_t n (List.mem_range.mpr hn)
  have h2 := List.all_eq_true.mp h1 p (List.mem_range.mpr hp)
  have h3 := List.all_eq_true.mp h2 q (List.mem_range.mpr hq)
  have h4 := List.all_eq_true.mp h3 w (List.mem_range.mpr hw)
  simp only [Bool.or_eq_true, beq_iff_eq, Bool.and_eq_true, decide_eq_true_eq] at h4
  rcases h4 with h | h
  · exact absurd h hpq
  · exact h
theorem swp_eq {w a b x y : Nat} (h : b * x + a * y ≤ w + a * x + b * y) : nI w + (nI a - nI b) * nI x - (nI a - nI b) * nI y = nI (w + a * x + b * y - b * x - a * y) := by
  have e : ∀ k : Nat, nI k = Int32.ofInt (k : Int) := fun k => rfl
  rw [e w, e a, e b, e x, e y, e (w + a * x + b * y - b * x - a * y), ← Int32.ofInt_sub, ← Int32.ofInt_mul, ← Int32.ofInt_mul, ← Int32.ofInt_add, ← Int32.ofInt_sub]
  congr 1
  rw [Int.sub_mul, Int.sub_mul]
  have h1 : ((a * x : Nat) : Int) = (a : Int) * x := Int.natCast_mul a x
  have h2 : ((b * x : Nat) : Int) = (b : Int) * x := Int.natCast_mul b x
  have h3 : ((a * y : Nat) : Int) = (a : Int) * y := Int.natCast_mul a y
  have h4 : ((b * y : Nat) : Int) = (b : Int) * y := Int.natCast_mul b y
  omega
section
variable {l : Launch} {dC : Nat → ClassId} {dI : Nat → Nat → Nat} {cI cZ cJ : ClassId}

set_option maxHeartbeats 4000000 in
set_option maxRecDepth 100000 in
theorem m_X2_take (m0 m1 m2 m3 m4 m5 m6 th n : Nat) (bg : Bool) (tn sl : Nat) (ht sn : Nat → Nat) (o nx kp : Nat → Bool) (ow : Nat → Nat)  : Mv l yX2_take ws_X2_take 0 0 (dC, dI) (tyL cI cZ cJ) [.ref m0] (mW cI cZ m0 m1 m2 m3 m4 m5 m6 th n bg tn sl ht sn o nx kp ow) (fun u => u = mW cI cZ m0 m1 m2 m4 m3 m5 m6 th n bg tn sl ht sn nx o kp ow) := by
  refine Mv_of (by decide +kernel) (Nat.le_of_ble_eq_true rfl) ?_
  intro pr ev sx mi ag bl me cd Q ls S hP hK hD hZ hl ret
  obtain ⟨hx, hb, hml, hown, hts⟩ := id S
  have hown : sx.vm.findClass RX2 = some mi.cls := hown
  have hS : va_S (wIn (mW cI cZ m0 m1 m2 m3 m4 m5 m6 th n bg tn sl ht sn o nx kp ow)) sx.heap sx.heap [] := va_S.rf
  have hl : lv_has ls 2 [(0, .ref m0)] := hl
  refine lv_aload_n hx hb dX2_take_0 rfl (lv_at hl 0 rfl) ?_
  refine va_get (D := (dC, dI)) (ci := 2) (v := .ref m3) (C := RX2) (T := TX2) (N := 11) hx hb hts inX2 hown hK hP 0 rfl rfl 5 (by decide) (hts _ q_fl_X2_16) (fun _ h9 => h9) rfl dX2_take_1 ?_
  refine lv_astore_n (lv' := [(1, .ref m3), (0, .ref m0)]) hx hb dX2_take_4 rfl hl (by decide) rfl (fun ls hl => ?_)
  refine lv_aload_n hx hb dX2_take_5 rfl (lv_at hl 1 rfl) ?_
  refine lv_aload_n hx hb dX2_take_6 rfl (lv_at hl 1 rfl) ?_
  refine va_get (D := (dC, dI)) (ci := 2) (v := .ref m4) (C := RX2) (T := TX2) (N := 11) hx hb hts inX2 hown hK hP 0 rfl rfl 6 (by decide) (hts _ q_fl_X2_20) (fun _ h9 => h9) rfl dX2_take_7 ?_
  refine va_put (D := (dC, dI)) (ci := 2) (v := .ref m4) (ty := .array .boolean) (C := RX2) (T := TX2) (N := 11) hx hb hts inX2 tyX2 tyX2_ok nmX2 hown hK hP hD hS 0 rfl rfl 5 (by decide) (hts _ q_fl_X2_16) (fun _ h9 => h9) rfl (by decide +kernel) rfl rfl (Nat.le_of_ble_eq_true rfl) dX2_take_10 (fun H locs hP hD hS => ?_)
  have hP : va_P (dC, dI) vwCl ([(m0, .inr (2, [.int (nI th), .int (nI n), .int (bI bg), .ref m1, .ref m2, .ref m4, .ref m4, .ref m5, .ref m6, .int (nI tn), .int (nI sl)])), (m1, .inl (cI, 5, .inl (fun k => nI (ht k)))), (m2, .inl (cI, 5, .inl (fun k => nI (sn k)))), (m3, .inl (cZ, 243, .inl (fun k => bI (o k)))), (m4, .inl (cZ, 243, .inl (fun k => bI (nx k)))), (m5, .inl (cZ, 243, .inl (fun k => bI (kp k)))), (m6, .inl (cI, 243, .inl (fun k => nI (ow k))))]) H := hP
  have hD : va_D (wIn (mW cI cZ m0 m1 m2 m3 m4 m5 m6 th n bg tn sl ht sn o nx kp ow)) ([(m0, .inr (2, [.int (nI th), .int (nI n), .int (bI bg), .ref m1, .ref m2, .ref m4, .ref m4, .ref m5, .ref m6, .int (nI tn), .int (nI sl)])), (m1, .inl (cI, 5, .inl (fun k => nI (ht k)))), (m2, .inl (cI, 5, .inl (fun k => nI (sn k)))), (m3, .inl (cZ, 243, .inl (fun k => bI (o k)))), (m4, .inl (cZ, 243, .inl (fun k => bI (nx k)))), (m5, .inl (cZ, 243, .inl (fun k => bI (kp k)))), (m6, .inl (cI, 243, .inl (fun k => nI (ow k))))]) := hD
  refine lv_aload_n hx hb dX2_take_13 rfl (lv_at hl 1 rfl) ?_
  refine lv_aload_n hx hb dX2_take_14 rfl (lv_at hl 0 rfl) ?_
  refine va_put (D := (dC, dI)) (ci := 2) (v := .ref m3) (ty := .array .boolean) (C := RX2) (T := TX2) (N := 11) hx hb hts inX2 tyX2 tyX2_ok nmX2 hown hK hP hD hS 0 rfl rfl 6 (by decide) (hts _ q_fl_X2_20) (fun _ h9 => h9) rfl (by decide +kernel) rfl rfl (Nat.le_of_ble_eq_true rfl) dX2_take_15 (fun H locs hP hD hS => ?_)
  have hP : va_P (dC, dI) vwCl ([(m0, .inr (2, [.int (nI th), .int (nI n), .int (bI bg), .ref m1, .ref m2, .ref m4, .ref m3, .ref m5, .ref m6, .int (nI tn), .int (nI sl)])), (m1, .inl (cI, 5, .inl (fun k => nI (ht k)))), (m2, .inl (cI, 5, .inl (fun k => nI (sn k)))), (m3, .inl (cZ, 243, .inl (fun k => bI (o k)))), (m4, .inl (cZ, 243, .inl (fun k => bI (nx k)))), (m5, .inl (cZ, 243, .inl (fun k => bI (kp k)))), (m6, .inl (cI, 243, .inl (fun k => nI (ow k))))]) H := hP
  have hD : va_D (wIn (mW cI cZ m0 m1 m2 m3 m4 m5 m6 th n bg tn sl ht sn o nx kp ow)) ([(m0, .inr (2, [.int (nI th), .int (nI n), .int (bI bg), .ref m1, .ref m2, .ref m4, .ref m3, .ref m5, .ref m6, .int (nI tn), .int (nI sl)])), (m1, .inl (cI, 5, .inl (fun k => nI (ht k)))), (m2, .inl (cI, 5, .inl (fun k => nI (sn k)))), (m3, .inl (cZ, 243, .inl (fun k => bI (o k)))), (m4, .inl (cZ, 243, .inl (fun k => bI (nx k)))), (m5, .inl (cZ, 243, .inl (fun k => bI (kp k)))), (m6, .inl (cI, 243, .inl (fun k => nI (ow k))))]) := hD
  have hP := hP.sub (ws' := mW cI cZ m0 m1 m2 m4 m3 m5 m6 th n bg tn sl ht sn nx o kp ow) [0, 1, 2, 4, 3, 5, 6] rfl
  have hD := hD.sub (ws' := mW cI cZ m0 m1 m2 m4 m3 m5 m6 th n bg tn sl ht sn nx o kp ow) [0, 1, 2, 4, 3, 5, 6] (by decide) rfl
  exact ret (mW cI cZ m0 m1 m2 m4 m3 m5 m6 th n bg tn sl ht sn nx o kp ow) _ _ _ _ dX2_take_18 rfl (mW_swap _ _ _ _ _ _ _) hP hS

set_option maxHeartbeats 4000000 in
set_option maxRecDepth 100000 in
theorem m_X2_keep (m0 m1 m2 m3 m4 m5 m6 th n : Nat) (bg : Bool) (tn sl : Nat) (ht sn : Nat → Nat) (o nx kp : Nat → Bool) (ow : Nat → Nat)  : Mv l yX2_keep ws_X2_keep 1 60 (dC, dI) (tyL cI cZ cJ) [.ref m0] (mW cI cZ m0 m1 m2 m3 m4 m5 m6 th n bg tn sl ht sn o nx kp ow) (fun u => u = mW cI cZ m0 m1 m2 m3 m4 m5 m6 th n bg tn sl ht sn o nx o ow) := by
  refine Mv_of (by decide +kernel) (Nat.le_of_ble_eq_true rfl) ?_
  intro pr ev sx mi ag bl me cd Q ls S hP hK hD hZ hl ret
  obtain ⟨hx, hb, hml, hown, hts⟩ := id S
  have hown : sx.vm.findClass RX2 = some mi.cls := hown
  have hS : va_S (wIn (mW cI cZ m0 m1 m2 m3 m4 m5 m6 th n bg tn sl ht sn o nx kp ow)) sx.heap sx.heap [] := va_S.rf
  have hl : lv_has ls 1 [(0, .ref m0)] := hl
  refine lv_aload_n hx hb dX2_keep_0 rfl (lv_at hl 0 rfl) ?_
  refine va_get (D := (dC, dI)) (ci := 2) (v := .ref m3) (C := RX2) (T := TX2) (N := 11) hx hb hts inX2 hown hK hP 0 rfl rfl 5 (by decide) (hts _ q_fl_X2_16) (fun _ h9 => h9) rfl dX2_keep_1 ?_
  refine lv_iconst (v := nI 0) hx hb dX2_keep_4 (by decide) ?_
  refine lv_aload_n hx hb dX2_keep_5 rfl (lv_at hl 0 rfl) ?_
  refine va_get (D := (dC, dI)) (ci := 2) (v := .ref m5) (C := RX2) (T := TX2) (N := 11) hx hb hts inX2 hown hK hP 0 rfl rfl 7 (by decide) (hts _ q_fl_X2_23) (fun _ h9 => h9) rfl dX2_keep_6 ?_
  refine lv_iconst (v := nI 0) hx hb dX2_keep_9 (by decide) ?_
  refine lv_sipush (v := nI 243) hx hb dX2_keep_10 (by decide) ?_
  refine za_cpy hx hb (hml.trans hl.1.symm) hown hts hK hP hD hS 3 5 1 rfl rfl rfl (Nat.le_of_ble_eq_true rfl) (Nat.le_of_ble_eq_true rfl) dX2_keep_13 (fun H locs hP hD hS => ?_)
  have hP := va_P_arr hP 5 rfl (g := fun k => bI (o k)) (fun j hj => by simp [cpyB, hj])
  have hP : va_P (dC, dI) vwCl (mW cI cZ m0 m1 m2 m3 m4 m5 m6 th n bg tn sl ht sn o nx o ow) H := hP
  have hD : va_D (wIn (mW cI cZ m0 m1 m2 m3 m4 m5 m6 th n bg tn sl ht sn o nx kp ow)) (mW cI cZ m0 m1 m2 m3 m4 m5 m6 th n bg tn sl ht sn o nx o ow) := va_D_same hD (List.Perm.refl _)
  exact ret (mW cI cZ m0 m1 m2 m3 m4 m5 m6 th n bg tn sl ht sn o nx o ow) _ _ _ _ dX2_keep_16 rfl (List.Perm.refl _) hP hS

set_option maxHeartbeats 4000000 in
set_option maxRecDepth 100000 in
theorem m_X2_bringBack (m0 m1 m2 m3 m4 m5 m6 th n : Nat) (bg : Bool) (tn sl : Nat) (ht sn : Nat → Nat) (o nx kp : Nat → Bool) (ow : Nat → Nat)  : Mv l yX2_bringBack ws_X2_bringBack 1 60 (dC, dI) (tyL cI cZ cJ) [.ref m0] (mW cI cZ m0 m1 m2 m3 m4 m5 m6 th n bg tn sl ht sn o nx kp ow) (fun u => u = mW cI cZ m0 m1 m2 m3 m4 m5 m6 th n bg tn sl ht sn kp nx kp ow) := by
  refine Mv_of (by decide +kernel) (Nat.le_of_ble_eq_true rfl) ?_
  intro pr ev sx mi ag bl me cd Q ls S hP hK hD hZ hl ret
  obtain ⟨hx, hb, hml, hown, hts⟩ := id S
  have hown : sx.vm.findClass RX2 = some mi.cls := hown
  have hS : va_S (wIn (mW cI cZ m0 m1 m2 m3 m4 m5 m6 th n bg tn sl ht sn o nx kp ow)) sx.heap sx.heap [] := va_S.rf
  have hl : lv_has ls 1 [(0, .ref m0)] := hl
  refine lv_aload_n hx hb dX2_bringBack_0 rfl (lv_at hl 0 rfl) ?_
  refine va_get (D := (dC, dI)) (ci := 2) (v := .ref m5) (C := RX2) (T := TX2) (N := 11) hx hb hts inX2 hown hK hP 0 rfl rfl 7 (by decide) (hts _ q_fl_X2_23) (fun _ h9 => h9) rfl dX2_bringBack_1 ?_
  refine lv_iconst (v := nI 0) hx hb dX2_bringBack_4 (by decide) ?_
  refine lv_aload_n hx hb dX2_bringBack_5 rfl (lv_at hl 0 rfl) ?_
  refine va_get (D := (dC, dI)) (ci := 2) (v := .ref m3) (C := RX2) (T := TX2) (N := 11) hx hb hts inX2 hown hK hP 0 rfl rfl 5 (by decide) (hts _ q_fl_X2_16) (fun _ h9 => h9) rfl dX2_bringBack_6 ?_
  refine lv_iconst (v := nI 0) hx hb dX2_bringBack_9 (by decide) ?_
  refine lv_sipush (v := nI 243) hx hb dX2_bringBack_10 (by decide) ?_
  refine za_cpy hx hb (hml.trans hl.1.symm) hown hts hK hP hD hS 5 3 1 rfl rfl rfl (Nat.le_of_ble_eq_true rfl) (Nat.le_of_ble_eq_true rfl) dX2_bringBack_13 (fun H locs hP hD hS => ?_)
  have hP := va_P_arr hP 3 rfl (g := fun k => bI (kp k)) (fun j hj => by simp [cpyB, hj])
  have hP : va_P (dC, dI) vwCl (mW cI cZ m0 m1 m2 m3 m4 m5 m6 th n bg tn sl ht sn kp nx kp ow) H := hP
  have hD : va_D (wIn (mW cI cZ m0 m1 m2 m3 m4 m5 m6 th n bg tn sl ht sn o nx kp ow)) (mW cI cZ m0 m1 m2 m3 m4 m5 m6 th n bg tn sl ht sn kp nx kp ow) := va_D_same hD (List.Perm.refl _)
  exact ret (mW cI cZ m0 m1 m2 m3 m4 m5 m6 th n bg tn sl ht sn kp nx kp ow) _ _ _ _ dX2_bringBack_16 rfl (List.Perm.refl _) hP hS

set_option maxHeartbeats 4000000 in
set_option maxRecDepth 100000 in
theorem m_X2_turn (m0 m1 m2 m3 m4 m5 m6 th n : Nat) (bg : Bool) (tn sl : Nat) (ht sn : Nat → Nat) (o nx kp : Nat → Bool) (ow : Nat → Nat) (p now : Nat) (hn : n ≤ 5) (hsn : ∀ p, p < 5 → sn p < 32) (hp : p < 5) (hnow : now < 2 ^ 31) : Mi l yX2_turn ws_X2_turn 3 69 (dC, dI) (tyL cI cZ cJ) [.ref m0, .int (nI p), .int (nI now)] (mW cI cZ m0 m1 m2 m3 m4 m5 m6 th n bg tn sl ht sn o nx kp ow) (fun r u => r = tuI sn o n p now ∧ u = mW cI cZ m0 m1 m2 m4 m3 m5 m6 th n bg tn sl ht sn (mix (turnM sn o n p now) nx (3 ^ n)) o kp (lookF sn p o n ow (3 ^ n))) := by
  refine Mi_of (by decide +kernel) (Nat.le_of_ble_eq_true rfl) ?_
  intro pr ev sx mi ag bl me cd Q ls S hP hK hD hZ hl ret
  obtain ⟨hx, hb, hml, hown, hts⟩ := id S
  have hown : sx.vm.findClass RX2 = some mi.cls := hown
  have hS : va_S (wIn (mW cI cZ m0 m1 m2 m3 m4 m5 m6 th n bg tn sl ht sn o nx kp ow)) sx.heap sx.heap [] := va_S.rf
  have hl : lv_has ls 6 [(0, .ref m0), (1, .int (nI p)), (2, .int (nI now))] := hl
  have h3 := p3_243 n hn; have h30 := p3_0 n
  refine lv_aload_n hx hb dX2_turn_0 rfl (lv_at hl 0 rfl) ?_
  refine lv_iload_n hx hb dX2_turn_1 rfl (lv_at hl 1 rfl) ?_
  refine call_Vv (As := [.int (nI p)]) (wr := []) (rest := []) S (m_X2_look m0 m1 m2 m3 m4 m5 m6 th n bg tn sl ht sn o nx kp ow p hn hsn (by omega)) g_X2_X2_look hd_X2_look ⟨Nat.le_of_ble_eq_true rfl, Nat.le_of_ble_eq_true rfl⟩ ⟨Nat.zero_le _, Nat.zero_le _⟩ hP hD hK hS hZ [0, 1, 2, 3, 4, 5, 6] [] rfl rfl (by decide) 0 rfl rfl hl.1 rfl (Nat.le_of_ble_eq_true rfl) dX2_turn_2 (fun u H locs hq hP hD hS => ?_)
  obtain rfl := hq
  have hP : va_P (dC, dI) vwCl (mW cI cZ m0 m1 m2 m3 m4 m5 m6 th n bg tn sl ht sn o nx kp (lookF sn p o n ow (3 ^ n))) H := hP
  have hD : va_D (wIn (mW cI cZ m0 m1 m2 m3 m4 m5 m6 th n bg tn sl ht sn o nx kp ow)) (mW cI cZ m0 m1 m2 m3 m4 m5 m6 th n bg tn sl ht sn o nx kp (lookF sn p o n ow (3 ^ n))) := hD
  refine lv_aload_n hx hb dX2_turn_5 rfl (lv_at hl 0 rfl) ?_
  refine lv_iload_n hx hb dX2_turn_6 rfl (lv_at hl 1 rfl) ?_
  refine lv_iload_n hx hb dX2_turn_7 rfl (lv_at hl 2 rfl) ?_
  refine call_Vp (As := [.int (nI p), .int (nI now)]) (rest := []) S (m_X2_certain m0 m1 m2 m3 m4 m5 m6 th n bg tn sl ht sn o nx kp (lookF sn p o n ow (3 ^ n)) p now hn hsn (by omega) (by omega) (by rw [lookF, mix_lt (viewN_lt _ _ _ _)]; exact Nat.lt_of_lt_of_le (colG_lt _ _ _ _ _ _ _) (by omega))) g_X2_X2_certain hd_X2_certain ⟨Nat.le_of_ble_eq_true rfl, Nat.le_of_ble_eq_true rfl⟩ ⟨Nat.zero_le _, Nat.zero_le _⟩ hP hD hK hS hZ [0, 1, 2, 3, 4, 5, 6] rfl (by decide) 0 rfl rfl hl.1 rfl (Nat.le_of_ble_eq_true rfl) dX2_turn_8 (fun r H locs hq hP hS => ?_)
  obtain rfl : r = bI (mayM sn o n p now) := by rw [hq, lookF, mix_lt (viewN_lt _ _ _ _)]; rfl
  refine lv_istore_n (lv' := [(3, .int (bI (mayM sn o n p now))), (0, .ref m0), (1, .int (nI p)), (2, .int (nI now))]) hx hb dX2_turn_11 rfl hl (by decide) rfl (fun ls hl => ?_)
  refine lv_iload_n hx hb dX2_turn_12 rfl (lv_at hl 3 rfl) ?_
  refine lv_iload_n hx hb dX2_turn_13 rfl (lv_at hl 2 rfl) ?_
  refine call_Sp (As := [.int (nI now), .int (nI p)]) (rest := []) S (m_X2_colour now p hnow (by omega)) g_X2_X2_colour hd_X2_colour ⟨Nat.le_of_ble_eq_true rfl, Nat.le_of_ble_eq_true rfl⟩ ⟨Nat.zero_le _, Nat.zero_le _⟩ hP hD hK hS hZ [] rfl (by decide) hl.1 rfl (Nat.le_of_ble_eq_true rfl) dX2_turn_14 (fun r H locs hq hP hS => ?_)
  obtain rfl := hq
  refine lv_istore (lv' := [(4, .int (nI (dg3 now p))), (3, .int (bI (mayM sn o n p now))), (0, .ref m0), (1, .int (nI p)), (2, .int (nI now))]) hx hb dX2_turn_17 hl (by decide) rfl (fun ls hl => ?_)
  refine lv_iconst (v := nI 0) hx hb dX2_turn_19 (by decide) ?_
  refine lv_istore (lv' := [(5, .int (nI 0)), (4, .int (nI (dg3 now p))), (3, .int (bI (mayM sn o n p now))), (0, .ref m0), (1, .int (nI p)), (2, .int (nI now))]) hx hb dX2_turn_20 hl (by decide) rfl (fun ls hl => ?_)
  have lp22 : ∀ (kf : Nat) (i : Nat), (3 ^ n) < i + kf → (i ≤ 3 ^ n) → ∀ (H : Heap) (locs : List Loc), va_P (dC, dI) vwCl (mW cI cZ m0 m1 m2 m3 m4 m5 m6 th n bg tn sl ht sn o (mix (turnM sn o n p now) nx i) kp (lookF sn p o n ow (3 ^ n))) H → va_D (wIn (mW cI cZ m0 m1 m2 m3 m4 m5 m6 th n bg tn sl ht sn o nx kp ow)) (mW cI cZ m0 m1 m2 m3 m4 m5 m6 th n bg tn sl ht sn o (mix (turnM sn o n p now) nx i) kp (lookF sn p o n ow (3 ^ n))) → va_S (wIn (mW cI cZ m0 m1 m2 m3 m4 m5 m6 th n bg tn sl ht sn o nx kp ow)) sx.heap H locs → ∀ ls : Array Slot, lv_has ls 6 [(5, .int (nI i)), (4, .int (nI (dg3 now p))), (3, .int (bI (mayM sn o n p now))), (0, .ref m0), (1, .int (nI p)), (2, .int (nI now))] → W pr l ev (rmB 3 69) sx mi ag bl me cd H locs 0 0 Q (F0 mi 22 ls []) := by
    intro kf
    induction kf with
    | zero => intro i hkf hi; exact absurd hkf (by omega)
    | succ kf ih22 =>
      intro i hkf hi H locs hP hD hS ls hl
      refine lv_iload hx hb dX2_turn_22 (lv_at hl 0 rfl) ?_
      refine lv_aload_n hx hb dX2_turn_24 rfl (lv_at hl 3 rfl) ?_
      refine call_Vp (As := []) (rest := [.int (nI i)]) S (m_X2_ways m0 m1 m2 m3 m4 m5 m6 th n bg tn sl ht sn o (mix (turnM sn o n p now) nx i) kp (lookF sn p o n ow (3 ^ n))  hn) g_X2_X2_ways hd_X2_ways ⟨Nat.le_of_ble_eq_true rfl, Nat.le_of_ble_eq_true rfl⟩ ⟨Nat.zero_le _, Nat.zero_le _⟩ hP hD hK hS hZ [0, 1, 2, 3, 4, 5, 6] rfl (by decide) 0 rfl rfl hl.1 rfl (Nat.le_of_ble_eq_true rfl) dX2_turn_25 (fun r H locs hq hP hS => ?_)
      obtain rfl := hq
      refine icN_ge (tgt := 85) hx hb dX2_turn_28 (by decide) (by omega) (by omega) (fun c_28 => ?_) (fun c_28 => ?_)
      · rw [show i = 3 ^ n by omega] at hP hD
        have hP : va_P (dC, dI) vwCl (mW cI cZ m0 m1 m2 m3 m4 m5 m6 th n bg tn sl ht sn o (mix (turnM sn o n p now) nx (3 ^ n)) kp (lookF sn p o n ow (3 ^ n))) H := hP
        have hD : va_D (wIn (mW cI cZ m0 m1 m2 m3 m4 m5 m6 th n bg tn sl ht sn o nx kp ow)) (mW cI cZ m0 m1 m2 m3 m4 m5 m6 th n bg tn sl ht sn o (mix (turnM sn o n p now) nx (3 ^ n)) kp (lookF sn p o n ow (3 ^ n))) := hD
        refine lv_aload_n hx hb dX2_turn_85 rfl (lv_at hl 3 rfl) ?_
        refine call_Vv (As := []) (wr := []) (rest := []) S (m_X2_take m0 m1 m2 m3 m4 m5 m6 th n bg tn sl ht sn o (mix (turnM sn o n p now) nx (3 ^ n)) kp (lookF sn p o n ow (3 ^ n))  ) g_X2_X2_take hd_X2_take ⟨Nat.le_of_ble_eq_true rfl, Nat.le_of_ble_eq_true rfl⟩ ⟨Nat.zero_le _, Nat.zero_le _⟩ hP hD hK hS hZ [0, 1, 2, 3, 4, 5, 6] [] rfl rfl (by decide) 0 rfl rfl hl.1 rfl (Nat.le_of_ble_eq_true rfl) dX2_turn_86 (fun u H locs hq hP hD hS => ?_)
        obtain rfl := hq
        have hP : va_P (dC, dI) vwCl (mW cI cZ m0 m1 m2 m4 m3 m5 m6 th n bg tn sl ht sn (mix (turnM sn o n p now) nx (3 ^ n)) o kp (lookF sn p o n ow (3 ^ n))) H := hP
        have hD : va_D (wIn (mW cI cZ m0 m1 m2 m3 m4 m5 m6 th n bg tn sl ht sn o nx kp ow)) (mW cI cZ m0 m1 m2 m4 m3 m5 m6 th n bg tn sl ht sn (mix (turnM sn o n p now) nx (3 ^ n)) o kp (lookF sn p o n ow (3 ^ n))) := hD
        refine lv_iload_n hx hb dX2_turn_89 rfl (lv_at hl 2 rfl) ?_
        refine ifB_eq (tgt := 98) hx hb dX2_turn_90 (by decide) (fun c_90 => ?_) (fun c_90 => ?_)
        · refine lv_iconst (v := (-1)) hx hb dX2_turn_98 (by decide) ?_
          exact ret _ (mW cI cZ m0 m1 m2 m4 m3 m5 m6 th n bg tn sl ht sn (mix (turnM sn o n p now) nx (3 ^ n)) o kp (lookF sn p o n ow (3 ^ n))) _ _ _ _ dX2_turn_99 rfl ⟨by rw [tuI, if_neg (by rw [c_90]; decide)], rfl⟩ (mW_swap _ _ _ _ _ _ _) hP hS
        · refine lv_iload hx hb dX2_turn_93 (lv_at hl 1 rfl) ?_
          refine lv_goto (tgt := 99) hx hb dX2_turn_95 (by decide) ?_
          exact ret _ (mW cI cZ m0 m1 m2 m4 m3 m5 m6 th n bg tn sl ht sn (mix (turnM sn o n p now) nx (3 ^ n)) o kp (lookF sn p o n ow (3 ^ n))) _ _ _ _ dX2_turn_99 rfl ⟨by rw [tuI, if_pos c_90], rfl⟩ (mW_swap _ _ _ _ _ _ _) hP hS
      · refine lv_aload_n hx hb dX2_turn_31 rfl (lv_at hl 3 rfl) ?_
        refine va_get (D := (dC, dI)) (ci := 2) (v := .ref m4) (C := RX2) (T := TX2) (N := 11) hx hb hts inX2 hown hK hP 0 rfl rfl 6 (by decide) (hts _ q_fl_X2_20) (fun _ h9 => h9) rfl dX2_turn_32 ?_
        refine lv_iload hx hb dX2_turn_35 (lv_at hl 0 rfl) ?_
        refine lv_aload_n hx hb dX2_turn_37 rfl (lv_at hl 3 rfl) ?_
        refine va_get (D := (dC, dI)) (ci := 2) (v := .ref m3) (C := RX2) (T := TX2) (N := 11) hx hb hts inX2 hown hK hP 0 rfl rfl 5 (by decide) (hts _ q_fl_X2_16) (fun _ h9 => h9) rfl dX2_turn_38 ?_
        refine lv_iload hx hb dX2_turn_41 (lv_at hl 0 rfl) ?_
        refine za_ld hx hb hK hP 3 1 rfl rfl (j := i) (by omega) (by decide) dX2_turn_43 ?_
        refine ifB_eq (tgt := 77) hx hb dX2_turn_44 (by decide) (fun c_44 => ?_) (fun c_44 => ?_)
        · refine lv_iconst (v := nI 0) hx hb dX2_turn_77 (by decide) ?_
          refine W_i (y := bI false) rfl ?_
          refine za_st hx hb hK hP hD hS 4 1 rfl rfl (j := i) (v := false) (by omega) (by decide) dX2_turn_78 (fun H locs hP hD hS => ?_)
          rw [show (upN (mix (turnM sn o n p now) nx i) i false) = (mix (turnM sn o n p now) nx (i + 1)) from mix_s (by simp [turnM, c_44])] at hP hD
          have hP : va_P (dC, dI) vwCl (mW cI cZ m0 m1 m2 m3 m4 m5 m6 th n bg tn sl ht sn o (mix (turnM sn o n p now) nx (i + 1)) kp (lookF sn p o n ow (3 ^ n))) H := hP
          have hD : va_D (wIn (mW cI cZ m0 m1 m2 m3 m4 m5 m6 th n bg tn sl ht sn o nx kp ow)) (mW cI cZ m0 m1 m2 m3 m4 m5 m6 th n bg tn sl ht sn o (mix (turnM sn o n p now) nx (i + 1)) kp (lookF sn p o n ow (3 ^ n))) := hD
          refine lv_iinc (v := nI (i + 1)) (lv' := [(5, .int (nI (i + 1))), (4, .int (nI (dg3 now p))), (3, .int (bI (mayM sn o n p now))), (0, .ref m0), (1, .int (nI p)), (2, .int (nI now))]) hx hb dX2_turn_79 hl (k := 0) rfl (nI_add _ _) (by decide) rfl (fun ls hl => ?_)
          refine lv_goto (tgt := 22) hx hb dX2_turn_82 (by decide) ?_
          exact ih22 (i + 1) (by omega) (by omega) _ _ hP hD hS _ (lv_sub hl [0, 1, 2, 3, 4, 5] rfl)
        · refine lv_aload_n hx hb dX2_turn_47 rfl (lv_at hl 3 rfl) ?_
          refine lv_iload_n hx hb dX2_turn_48 rfl (lv_at hl 4 rfl) ?_
          refine lv_iload hx hb dX2_turn_49 (lv_at hl 0 rfl) ?_
          refine call_Vp (As := [.int (nI p), .int (nI i)]) (rest := [.int (nI i), .ref m4]) S (m_X2_certain m0 m1 m2 m3 m4 m5 m6 th n bg tn sl ht sn o (mix (turnM sn o n p now) nx i) kp (lookF sn p o n ow (3 ^ n)) p i hn hsn (by omega) (by omega) (by rw [lookF, mix_lt (viewN_lt _ _ _ _)]; exact Nat.lt_of_lt_of_le (colG_lt _ _ _ _ _ _ _) (by omega))) g_X2_X2_certain hd_X2_certain ⟨Nat.le_of_ble_eq_true rfl, Nat.le_of_ble_eq_true rfl⟩ ⟨Nat.zero_le _, Nat.zero_le _⟩ hP hD hK hS hZ [0, 1, 2, 3, 4, 5, 6] rfl (by decide) 0 rfl rfl hl.1 rfl (Nat.le_of_ble_eq_true rfl) dX2_turn_51 (fun r H locs hq hP hS => ?_)
          obtain rfl : r = bI (mayM sn o n p i) := by rw [hq, lookF, mix_lt (viewN_lt _ _ _ _)]; rfl
          refine lv_iload_n hx hb dX2_turn_54 rfl (lv_at hl 2 rfl) ?_
          refine icB_ne (tgt := 77) hx hb dX2_turn_55 (by decide) (fun c_55 => ?_) (fun c_55 => ?_)
          · refine lv_iconst (v := nI 0) hx hb dX2_turn_77 (by decide) ?_
            refine W_i (y := bI false) rfl ?_
            refine za_st hx hb hK hP hD hS 4 1 rfl rfl (j := i) (v := false) (by omega) (by decide) dX2_turn_78 (fun H locs hP hD hS => ?_)
            rw [show (upN (mix (turnM sn o n p now) nx i) i false) = (mix (turnM sn o n p now) nx (i + 1)) from mix_s (by simp [turnM, c_44, c_55])] at hP hD
            have hP : va_P (dC, dI) vwCl (mW cI cZ m0 m1 m2 m3 m4 m5 m6 th n bg tn sl ht sn o (mix (turnM sn o n p now) nx (i + 1)) kp (lookF sn p o n ow (3 ^ n))) H := hP
            have hD : va_D (wIn (mW cI cZ m0 m1 m2 m3 m4 m5 m6 th n bg tn sl ht sn o nx kp ow)) (mW cI cZ m0 m1 m2 m3 m4 m5 m6 th n bg tn sl ht sn o (mix (turnM sn o n p now) nx (i + 1)) kp (lookF sn p o n ow (3 ^ n))) := hD
            refine lv_iinc (v := nI (i + 1)) (lv' := [(5, .int (nI (i + 1))), (4, .int (nI (dg3 now p))), (3, .int (bI (mayM sn o n p now))), (0, .ref m0), (1, .int (nI p)), (2, .int (nI now))]) hx hb dX2_turn_79 hl (k := 0) rfl (nI_add _ _) (by decide) rfl (fun ls hl => ?_)
            refine lv_goto (tgt := 22) hx hb dX2_turn_82 (by decide) ?_
            exact ih22 (i + 1) (by omega) (by omega) _ _ hP hD hS _ (lv_sub hl [0, 1, 2, 3, 4, 5] rfl)
          · refine lv_iload_n hx hb dX2_turn_58 rfl (lv_at hl 2 rfl) ?_
            refine ifB_eq (tgt := 73) hx hb dX2_turn_59 (by decide) (fun c_59 => ?_) (fun c_59 => ?_)
            · refine lv_iconst (v := nI 1) hx hb dX2_turn_73 (by decide) ?_
              refine lv_goto (tgt := 78) hx hb dX2_turn_74 (by decide) ?_
              refine W_i (y := bI true) rfl ?_
              refine za_st hx hb hK hP hD hS 4 1 rfl rfl (j := i) (v := true) (by omega) (by decide) dX2_turn_78 (fun H locs hP hD hS => ?_)
              rw [show (upN (mix (turnM sn o n p now) nx i) i true) = (mix (turnM sn o n p now) nx (i + 1)) from mix_s (by simp [turnM, c_44, c_55, c_59])] at hP hD
              have hP : va_P (dC, dI) vwCl (mW cI cZ m0 m1 m2 m3 m4 m5 m6 th n bg tn sl ht sn o (mix (turnM sn o n p now) nx (i + 1)) kp (lookF sn p o n ow (3 ^ n))) H := hP
              have hD : va_D (wIn (mW cI cZ m0 m1 m2 m3 m4 m5 m6 th n bg tn sl ht sn o nx kp ow)) (mW cI cZ m0 m1 m2 m3 m4 m5 m6 th n bg tn sl ht sn o (mix (turnM sn o n p now) nx (i + 1)) kp (lookF sn p o n ow (3 ^ n))) := hD
              refine lv_iinc (v := nI (i + 1)) (lv' := [(5, .int (nI (i + 1))), (4, .int (nI (dg3 now p))), (3, .int (bI (mayM sn o n p now))), (0, .ref m0), (1, .int (nI p)), (2, .int (nI now))]) hx hb dX2_turn_79 hl (k := 0) rfl (nI_add _ _) (by decide) rfl (fun ls hl => ?_)
              refine lv_goto (tgt := 22) hx hb dX2_turn_82 (by decide) ?_
              exact ih22 (i + 1) (by omega) (by omega) _ _ hP hD hS _ (lv_sub hl [0, 1, 2, 3, 4, 5] rfl)
            · refine lv_iload hx hb dX2_turn_62 (lv_at hl 0 rfl) ?_
              refine lv_iload_n hx hb dX2_turn_64 rfl (lv_at hl 4 rfl) ?_
              refine call_Sp (As := [.int (nI i), .int (nI p)]) (rest := [.int (nI i), .ref m4]) S (m_X2_colour i p (by omega) (by omega)) g_X2_X2_colour hd_X2_colour ⟨Nat.le_of_ble_eq_true rfl, Nat.le_of_ble_eq_true rfl⟩ ⟨Nat.zero_le _, Nat.zero_le _⟩ hP hD hK hS hZ [] rfl (by decide) hl.1 rfl (Nat.le_of_ble_eq_true rfl) dX2_turn_65 (fun r H locs hq hP hS => ?_)
              obtain rfl := hq
              refine lv_iload hx hb dX2_turn_68 (lv_at hl 1 rfl) ?_
              refine icN_ne (tgt := 77) hx hb dX2_turn_70 (by decide) (by have := dg3_lt i p; omega) (by have := dg3_lt now p; omega) (fun c_70 => ?_) (fun c_70 => ?_)
              · refine lv_iconst (v := nI 0) hx hb dX2_turn_77 (by decide) ?_
                refine W_i (y := bI false) rfl ?_
                refine za_st hx hb hK hP hD hS 4 1 rfl rfl (j := i) (v := false) (by omega) (by decide) dX2_turn_78 (fun H locs hP hD hS => ?_)
                rw [show (upN (mix (turnM sn o n p now) nx i) i false) = (mix (turnM sn o n p now) nx (i + 1)) from mix_s (by simp [turnM, c_44, c_55, c_59, c_70])] at hP hD
                have hP : va_P (dC, dI) vwCl (mW cI cZ m0 m1 m2 m3 m4 m5 m6 th n bg tn sl ht sn o (mix (turnM sn o n p now) nx (i + 1)) kp (lookF sn p o n ow (3 ^ n))) H := hP
                have hD : va_D (wIn (mW cI cZ m0 m1 m2 m3 m4 m5 m6 th n bg tn sl ht sn o nx kp ow)) (mW cI cZ m0 m1 m2 m3 m4 m5 m6 th n bg tn sl ht sn o (mix (turnM sn o n p now) nx (i + 1)) kp (lookF sn p o n ow (3 ^ n))) := hD
                refine lv_iinc (v := nI (i + 1)) (lv' := [(5, .int (nI (i + 1))), (4, .int (nI (dg3 now p))), (3, .int (bI (mayM sn o n p now))), (0, .ref m0), (1, .int (nI p)), (2, .int (nI now))]) hx hb dX2_turn_79 hl (k := 0) rfl (nI_add _ _) (by decide) rfl (fun ls hl => ?_)
                refine lv_goto (tgt := 22) hx hb dX2_turn_82 (by decide) ?_
                exact ih22 (i + 1) (by omega) (by omega) _ _ hP hD hS _ (lv_sub hl [0, 1, 2, 3, 4, 5] rfl)
              · refine lv_iconst (v := nI 1) hx hb dX2_turn_73 (by decide) ?_
                refine lv_goto (tgt := 78) hx hb dX2_turn_74 (by decide) ?_
                refine W_i (y := bI true) rfl ?_
                refine za_st hx hb hK hP hD hS 4 1 rfl rfl (j := i) (v := true) (by omega) (by decide) dX2_turn_78 (fun H locs hP hD hS => ?_)
                rw [show (upN (mix (turnM sn o n p now) nx i) i true) = (mix (turnM sn o n p now) nx (i + 1)) from mix_s (by simp [turnM, c_44, c_55, c_59, c_70])] at hP hD
                have hP : va_P (dC, dI) vwCl (mW cI cZ m0 m1 m2 m3 m4 m5 m6 th n bg tn sl ht sn o (mix (turnM sn o n p now) nx (i + 1)) kp (lookF sn p o n ow (3 ^ n))) H := hP
                have hD : va_D (wIn (mW cI cZ m0 m1 m2 m3 m4 m5 m6 th n bg tn sl ht sn o nx kp ow)) (mW cI cZ m0 m1 m2 m3 m4 m5 m6 th n bg tn sl ht sn o (mix (turnM sn o n p now) nx (i + 1)) kp (lookF sn p o n ow (3 ^ n))) := hD
                refine lv_iinc (v := nI (i + 1)) (lv' := [(5, .int (nI (i + 1))), (4, .int (nI (dg3 now p))), (3, .int (bI (mayM sn o n p now))), (0, .ref m0), (1, .int (nI p)), (2, .int (nI now))]) hx hb dX2_turn_79 hl (k := 0) rfl (nI_add _ _) (by decide) rfl (fun ls hl => ?_)
                refine lv_goto (tgt := 22) hx hb dX2_turn_82 (by decide) ?_
                exact ih22 (i + 1) (by omega) (by omega) _ _ hP hD hS _ (lv_sub hl [0, 1, 2, 3, 4, 5] rfl)
  rw [← mix_0 (turnM sn o n p now) nx] at hP hD
  exact lp22 (3 ^ n + 1) 0 (by omega) (by omega) _ _ hP hD hS _ (lv_sub hl [0, 1, 2, 3, 4, 5] rfl)

set_option maxHeartbeats 4000000 in
set_option maxRecDepth 100000 in
theorem m_X2_openAll (m0 m1 m2 m3 m4 m5 m6 th n : Nat) (bg : Bool) (tn sl : Nat) (ht sn : Nat → Nat) (o nx kp : Nat → Bool) (ow : Nat → Nat) (hn : n ≤ 5) : Mv l yX2_openAll ws_X2_openAll 1 20 (dC, dI) (tyL cI cZ cJ) [.ref m0] (mW cI cZ m0 m1 m2 m3 m4 m5 m6 th n bg tn sl ht sn o nx kp ow) (fun u => u = mW cI cZ m0 m1 m2 m3 m4 m5 m6 th n bg tn sl ht sn (fun w => decide (w < 3 ^ n)) nx kp ow) := by
  refine Mv_of (by decide +kernel) (Nat.le_of_ble_eq_true rfl) ?_
  intro pr ev sx mi ag bl me cd Q ls S hP hK hD hZ hl ret
  obtain ⟨hx, hb, hml, hown, hts⟩ := id S
  have hown : sx.vm.findClass RX2 = some mi.cls := hown
  have hS : va_S (wIn (mW cI cZ m0 m1 m2 m3 m4 m5 m6 th n bg tn sl ht sn o nx kp ow)) sx.heap sx.heap [] := va_S.rf
  have hl : lv_has ls 2 [(0, .ref m0)] := hl
  have h3 := p3_243 n hn; have h30 := p3_0 n
  refine lv_iconst (v := nI 0) hx hb dX2_openAll_0 (by decide) ?_
  refine lv_istore_n (lv' := [(1, .int (nI 0)), (0, .ref m0)]) hx hb dX2_openAll_1 rfl hl (by decide) rfl (fun ls hl => ?_)
  have lp2 : ∀ (kf : Nat) (i : Nat), 243 < i + kf → (i ≤ 243) → ∀ (H : Heap) (locs : List Loc), va_P (dC, dI) vwCl (mW cI cZ m0 m1 m2 m3 m4 m5 m6 th n bg tn sl ht sn (mix (fun w => decide (w < 3 ^ n)) o i) nx kp ow) H → va_D (wIn (mW cI cZ m0 m1 m2 m3 m4 m5 m6 th n bg tn sl ht sn o nx kp ow)) (mW cI cZ m0 m1 m2 m3 m4 m5 m6 th n bg tn sl ht sn (mix (fun w => decide (w < 3 ^ n)) o i) nx kp ow) → va_S (wIn (mW cI cZ m0 m1 m2 m3 m4 m5 m6 th n bg tn sl ht sn o nx kp ow)) sx.heap H locs → ∀ ls : Array Slot, lv_has ls 2 [(1, .int (nI i)), (0, .ref m0)] → W pr l ev (rmB 1 20) sx mi ag bl me cd H locs 0 0 Q (F0 mi 2 ls []) := by
    intro kf
    induction kf with
    | zero => intro i hkf hi; exact absurd hkf (by omega)
    | succ kf ih2 =>
      intro i hkf hi H locs hP hD hS ls hl
      refine lv_iload_n hx hb dX2_openAll_2 rfl (lv_at hl 0 rfl) ?_
      refine lv_sipush (v := nI 243) hx hb dX2_openAll_3 (by decide) ?_
      refine icN_ge (tgt := 34) hx hb dX2_openAll_6 (by decide) (by omega) (by omega) (fun c_6 => ?_) (fun c_6 => ?_)
      · rw [show i = 243 by omega] at hP hD
        have hP := va_P_arr hP 3 rfl (g := fun k => bI ((fun w => decide (w < 3 ^ n)) k)) (fun j hj => by rw [mix_lt hj])
        have hD : va_D (wIn (mW cI cZ m0 m1 m2 m3 m4 m5 m6 th n bg tn sl ht sn o nx kp ow)) (mW cI cZ m0 m1 m2 m3 m4 m5 m6 th n bg tn sl ht sn (fun w => decide (w < 3 ^ n)) nx kp ow) := va_D_same hD (List.Perm.refl _)
        have hP : va_P (dC, dI) vwCl (mW cI cZ m0 m1 m2 m3 m4 m5 m6 th n bg tn sl ht sn (fun w => decide (w < 3 ^ n)) nx kp ow) H := hP
        have hD : va_D (wIn (mW cI cZ m0 m1 m2 m3 m4 m5 m6 th n bg tn sl ht sn o nx kp ow)) (mW cI cZ m0 m1 m2 m3 m4 m5 m6 th n bg tn sl ht sn (fun w => decide (w < 3 ^ n)) nx kp ow) := hD
        exact ret (mW cI cZ m0 m1 m2 m3 m4 m5 m6 th n bg tn sl ht sn (fun w => decide (w < 3 ^ n)) nx kp ow) _ _ _ _ dX2_openAll_34 rfl (List.Perm.refl _) hP hS
      · refine lv_aload_n hx hb dX2_openAll_9 rfl (lv_at hl 1 rfl) ?_
        refine va_get (D := (dC, dI)) (ci := 2) (v := .ref m3) (C := RX2) (T := TX2) (N := 11) hx hb hts inX2 hown hK hP 0 rfl rfl 5 (by decide) (hts _ q_fl_X2_16) (fun _ h9 => h9) rfl dX2_openAll_10 ?_
        refine lv_iload_n hx hb dX2_openAll_13 rfl (lv_at hl 0 rfl) ?_
        refine lv_iload_n hx hb dX2_openAll_14 rfl (lv_at hl 0 rfl) ?_
        refine lv_aload_n hx hb dX2_openAll_15 rfl (lv_at hl 1 rfl) ?_
        refine call_Vp (As := []) (rest := [.int (nI i), .int (nI i), .ref m3]) S (m_X2_ways m0 m1 m2 m3 m4 m5 m6 th n bg tn sl ht sn (mix (fun w => decide (w < 3 ^ n)) o i) nx kp ow  hn) g_X2_X2_ways hd_X2_ways ⟨Nat.le_of_ble_eq_true rfl, Nat.le_of_ble_eq_true rfl⟩ ⟨Nat.zero_le _, Nat.zero_le _⟩ hP hD hK hS hZ [0, 1, 2, 3, 4, 5, 6] rfl (by decide) 0 rfl rfl hl.1 rfl (Nat.le_of_ble_eq_true rfl) dX2_openAll_16 (fun r H locs hq hP hS => ?_)
        obtain rfl := hq
        refine icN_ge (tgt := 26) hx hb dX2_openAll_19 (by decide) (by omega) (by omega) (fun c_19 => ?_) (fun c_19 => ?_)
        · refine lv_iconst (v := nI 0) hx hb dX2_openAll_26 (by decide) ?_
          refine W_i (y := bI false) rfl ?_
          refine za_st hx hb hK hP hD hS 3 1 rfl rfl (j := i) (v := false) (by omega) (by decide) dX2_openAll_27 (fun H locs hP hD hS => ?_)
          rw [show (upN (mix (fun w => decide (w < 3 ^ n)) o i) i false) = (mix (fun w => decide (w < 3 ^ n)) o (i + 1)) from mix_s (by simp; omega)] at hP hD
          have hP : va_P (dC, dI) vwCl (mW cI cZ m0 m1 m2 m3 m4 m5 m6 th n bg tn sl ht sn (mix (fun w => decide (w < 3 ^ n)) o (i + 1)) nx kp ow) H := hP
          have hD : va_D (wIn (mW cI cZ m0 m1 m2 m3 m4 m5 m6 th n bg tn sl ht sn o nx kp ow)) (mW cI cZ m0 m1 m2 m3 m4 m5 m6 th n bg tn sl ht sn (mix (fun w => decide (w < 3 ^ n)) o (i + 1)) nx kp ow) := hD
          refine lv_iinc (v := nI (i + 1)) (lv' := [(1, .int (nI (i + 1))), (0, .ref m0)]) hx hb dX2_openAll_28 hl (k := 0) rfl (nI_add _ _) (by decide) rfl (fun ls hl => ?_)
          refine lv_goto (tgt := 2) hx hb dX2_openAll_31 (by decide) ?_
          exact ih2 (i + 1) (by omega) (by omega) _ _ hP hD hS _ (lv_sub hl [0, 1] rfl)
        · refine lv_iconst (v := nI 1) hx hb dX2_openAll_22 (by decide) ?_
          refine lv_goto (tgt := 27) hx hb dX2_openAll_23 (by decide) ?_
          refine W_i (y := bI true) rfl ?_
          refine za_st hx hb hK hP hD hS 3 1 rfl rfl (j := i) (v := true) (by omega) (by decide) dX2_openAll_27 (fun H locs hP hD hS => ?_)
          rw [show (upN (mix (fun w => decide (w < 3 ^ n)) o i) i true) = (mix (fun w => decide (w < 3 ^ n)) o (i + 1)) from mix_s (by simp; omega)] at hP hD
          have hP : va_P (dC, dI) vwCl (mW cI cZ m0 m1 m2 m3 m4 m5 m6 th n bg tn sl ht sn (mix (fun w => decide (w < 3 ^ n)) o (i + 1)) nx kp ow) H := hP
          have hD : va_D (wIn (mW cI cZ m0 m1 m2 m3 m4 m5 m6 th n bg tn sl ht sn o nx kp ow)) (mW cI cZ m0 m1 m2 m3 m4 m5 m6 th n bg tn sl ht sn (mix (fun w => decide (w < 3 ^ n)) o (i + 1)) nx kp ow) := hD
          refine lv_iinc (v := nI (i + 1)) (lv' := [(1, .int (nI (i + 1))), (0, .ref m0)]) hx hb dX2_openAll_28 hl (k := 0) rfl (nI_add _ _) (by decide) rfl (fun ls hl => ?_)
          refine lv_goto (tgt := 2) hx hb dX2_openAll_31 (by decide) ?_
          exact ih2 (i + 1) (by omega) (by omega) _ _ hP hD hS _ (lv_sub hl [0, 1] rfl)
  rw [← mix_0 (fun w => decide (w < 3 ^ n)) o] at hP hD
  exact lp2 244 0 (by omega) (by omega) _ _ hP hD hS _ (lv_sub hl [0, 1] rfl)

set_option maxHeartbeats 4000000 in
set_option maxRecDepth 100000 in
theorem m_X2_have (m0 m1 m2 m3 m4 m5 m6 th n : Nat) (bg : Bool) (tn sl : Nat) (ht sn : Nat → Nat) (o nx kp : Nat → Bool) (ow : Nat → Nat) (w co : Nat) (hn : n ≤ 5) (hw : w < 2 ^ 31) (hco : co < 3) : Mp l yX2_have ws_X2_have 1 21 (dC, dI) (tyL cI cZ cJ) [.ref m0, .int (nI w), .int (nI co)] (mW cI cZ m0 m1 m2 m3 m4 m5 m6 th n bg tn sl ht sn o nx kp ow) (fun r => r = nI (haveN n w co)) := by
  refine Mi_of (by decide +kernel) (Nat.le_of_ble_eq_true rfl) ?_
  intro pr ev sx mi ag bl me cd Q ls S hP hK hD hZ hl ret
  obtain ⟨hx, hb, hml, hown, hts⟩ := id S
  have hown : sx.vm.findClass RX2 = some mi.cls := hown
  have hS : va_S (wIn (mW cI cZ m0 m1 m2 m3 m4 m5 m6 th n bg tn sl ht sn o nx kp ow)) sx.heap sx.heap [] := va_S.rf
  have hl : lv_has ls 5 [(0, .ref m0), (1, .int (nI w)), (2, .int (nI co))] := hl
  refine lv_iconst (v := nI 0) hx hb dX2_have_0 (by decide) ?_
  refine lv_istore_n (lv' := [(3, .int (nI 0)), (0, .ref m0), (1, .int (nI w)), (2, .int (nI co))]) hx hb dX2_have_1 rfl hl (by decide) rfl (fun ls hl => ?_)
  refine lv_iconst (v := nI 0) hx hb dX2_have_2 (by decide) ?_
  refine lv_istore (lv' := [(4, .int (nI 0)), (3, .int (nI 0)), (0, .ref m0), (1, .int (nI w)), (2, .int (nI co))]) hx hb dX2_have_3 hl (by decide) rfl (fun ls hl => ?_)
  have lp5 : ∀ (kf : Nat) (i : Nat) (a : Nat), n < i + kf → (i ≤ n) → (a = haveN i w co) → ∀ (H : Heap) (locs : List Loc), va_P (dC, dI) vwCl (mW cI cZ m0 m1 m2 m3 m4 m5 m6 th n bg tn sl ht sn o nx kp ow) H → va_D (wIn (mW cI cZ m0 m1 m2 m3 m4 m5 m6 th n bg tn sl ht sn o nx kp ow)) (mW cI cZ m0 m1 m2 m3 m4 m5 m6 th n bg tn sl ht sn o nx kp ow) → va_S (wIn (mW cI cZ m0 m1 m2 m3 m4 m5 m6 th n bg tn sl ht sn o nx kp ow)) sx.heap H locs → ∀ ls : Array Slot, lv_has ls 5 [(4, .int (nI i)), (3, .int (nI a)), (0, .ref m0), (1, .int (nI w)), (2, .int (nI co))] → W pr l ev (rmB 1 21) sx mi ag bl me cd H locs 0 0 Q (F0 mi 5 ls []) := by
    intro kf
    induction kf with
    | zero => intro i a hkf hi ha; exact absurd hkf (by omega)
    | succ kf ih5 =>
      intro i a hkf hi ha H locs hP hD hS ls hl
      refine lv_iload hx hb dX2_have_5 (lv_at hl 0 rfl) ?_
      refine lv_aload_n hx hb dX2_have_7 rfl (lv_at hl 2 rfl) ?_
      refine va_get (D := (dC, dI)) (ci := 2) (v := .int (nI n)) (C := RX2) (T := TX2) (N := 11) hx hb hts inX2 hown hK hP 0 rfl rfl 1 (by decide) (hts _ q_fl_X2_33) (fun _ h9 => h9) rfl dX2_have_8 ?_
      refine icN_ge (tgt := 38) hx hb dX2_have_11 (by decide) (by omega) (by omega) (fun c_11 => ?_) (fun c_11 => ?_)
      · refine lv_iload_n hx hb dX2_have_38 rfl (lv_at hl 1 rfl) ?_
        exact ret _ (mW cI cZ m0 m1 m2 m3 m4 m5 m6 th n bg tn sl ht sn o nx kp ow) _ _ _ _ dX2_have_39 rfl ⟨rfl, by rw [ha, show i = n by omega]⟩ (List.Perm.refl _) hP hS
      · refine lv_iload_n hx hb dX2_have_14 rfl (lv_at hl 1 rfl) ?_
        refine lv_iload_n hx hb dX2_have_15 rfl (lv_at hl 3 rfl) ?_
        refine lv_iload hx hb dX2_have_16 (lv_at hl 0 rfl) ?_
        refine call_Sp (As := [.int (nI w), .int (nI i)]) (rest := [.int (nI a)]) S (m_X2_colour w i (by omega) (by omega)) g_X2_X2_colour hd_X2_colour ⟨Nat.le_of_ble_eq_true rfl, Nat.le_of_ble_eq_true rfl⟩ ⟨Nat.zero_le _, Nat.zero_le _⟩ hP hD hK hS hZ [] rfl (by decide) hl.1 rfl (Nat.le_of_ble_eq_true rfl) dX2_have_18 (fun r H locs hq hP hS => ?_)
        obtain rfl := hq
        refine lv_iload_n hx hb dX2_have_21 rfl (lv_at hl 4 rfl) ?_
        refine icN_ne (tgt := 29) hx hb dX2_have_22 (by decide) (by have := dg3_lt w i; omega) (by omega) (fun c_22 => ?_) (fun c_22 => ?_)
        · refine lv_iconst (v := nI 0) hx hb dX2_have_29 (by decide) ?_
          refine lv_iadd hx hb dX2_have_30 ?_
          refine W_i (y := nI (a + 0)) (nI_add _ _) ?_
          refine lv_istore_n (lv' := [(3, .int (nI (a + 0))), (4, .int (nI i)), (0, .ref m0), (1, .int (nI w)), (2, .int (nI co))]) hx hb dX2_have_31 rfl hl (by decide) rfl (fun ls hl => ?_)
          refine lv_iinc (v := nI (i + 1)) (lv' := [(4, .int (nI (i + 1))), (3, .int (nI (a + 0))), (0, .ref m0), (1, .int (nI w)), (2, .int (nI co))]) hx hb dX2_have_32 hl (k := 1) rfl (nI_add _ _) (by decide) rfl (fun ls hl => ?_)
          refine lv_goto (tgt := 5) hx hb dX2_have_35 (by decide) ?_
          exact ih5 (i + 1) _ (by omega) (by omega) (by simp [haveN, ha, c_22]) _ _ hP hD hS _ (lv_sub hl [0, 1, 2, 3, 4] rfl)
        · refine lv_iconst (v := nI 1) hx hb dX2_have_25 (by decide) ?_
          refine lv_goto (tgt := 30) hx hb dX2_have_26 (by decide) ?_
          refine lv_iadd hx hb dX2_have_30 ?_
          refine W_i (y := nI (a + 1)) (nI_add _ _) ?_
          refine lv_istore_n (lv' := [(3, .int (nI (a + 1))), (4, .int (nI i)), (0, .ref m0), (1, .int (nI w)), (2, .int (nI co))]) hx hb dX2_have_31 rfl hl (by decide) rfl (fun ls hl => ?_)
          refine lv_iinc (v := nI (i + 1)) (lv' := [(4, .int (nI (i + 1))), (3, .int (nI (a + 1))), (0, .ref m0), (1, .int (nI w)), (2, .int (nI co))]) hx hb dX2_have_32 hl (k := 1) rfl (nI_add _ _) (by decide) rfl (fun ls hl => ?_)
          refine lv_goto (tgt := 5) hx hb dX2_have_35 (by decide) ?_
          exact ih5 (i + 1) _ (by omega) (by omega) (by simp [haveN, ha, c_22]) _ _ hP hD hS _ (lv_sub hl [0, 1, 2, 3, 4] rfl)
  exact lp5 (n + 1) 0 0 (by omega) (by omega) rfl _ _ hP hD hS _ (lv_sub hl [0, 1, 2, 3, 4] rfl)

set_option maxHeartbeats 4000000 in
set_option maxRecDepth 100000 in
theorem m_X2_is (m0 m1 m2 m3 m4 m5 m6 th n : Nat) (bg : Bool) (tn sl : Nat) (ht sn : Nat → Nat) (o nx kp : Nat → Bool) (ow : Nat → Nat) (w co many : Nat) (le : Bool) (hn : n ≤ 5) (hw : w < 2 ^ 31) (hco : co < 3) (hm : many < 6) : Mp l yX2_is ws_X2_is 2 45 (dC, dI) (tyL cI cZ cJ) [.ref m0, .int (nI w), .int (nI co), .int (nI many), .int (bI le)] (mW cI cZ m0 m1 m2 m3 m4 m5 m6 th n bg tn sl ht sn o nx kp ow) (fun r => r = bI (isM n w co many le)) := by
  refine Mi_of (by decide +kernel) (Nat.le_of_ble_eq_true rfl) ?_
  intro pr ev sx mi ag bl me cd Q ls S hP hK hD hZ hl ret
  obtain ⟨hx, hb, hml, hown, hts⟩ := id S
  have hown : sx.vm.findClass RX2 = some mi.cls := hown
  have hS : va_S (wIn (mW cI cZ m0 m1 m2 m3 m4 m5 m6 th n bg tn sl ht sn o nx kp ow)) sx.heap sx.heap [] := va_S.rf
  have hl : lv_has ls 5 [(0, .ref m0), (1, .int (nI w)), (2, .int (nI co)), (3, .int (nI many)), (4, .int (bI le))] := hl
  refine lv_iload hx hb dX2_is_0 (lv_at hl 4 rfl) ?_
  refine ifB_eq (tgt := 23) hx hb dX2_is_2 (by decide) (fun c_2 => ?_) (fun c_2 => ?_)
  · refine lv_aload_n hx hb dX2_is_23 rfl (lv_at hl 0 rfl) ?_
    refine lv_iload_n hx hb dX2_is_24 rfl (lv_at hl 1 rfl) ?_
    refine lv_iload_n hx hb dX2_is_25 rfl (lv_at hl 2 rfl) ?_
    refine call_Vp (As := [.int (nI w), .int (nI co)]) (rest := []) S (m_X2_have m0 m1 m2 m3 m4 m5 m6 th n bg tn sl ht sn o nx kp ow w co hn (by omega) (by omega)) g_X2_X2_have hd_X2_have ⟨Nat.le_of_ble_eq_true rfl, Nat.le_of_ble_eq_true rfl⟩ ⟨Nat.zero_le _, Nat.zero_le _⟩ hP hD hK hS hZ [0, 1, 2, 3, 4, 5, 6] rfl (by decide) 0 rfl rfl hl.1 rfl (Nat.le_of_ble_eq_true rfl) dX2_is_26 (fun r H locs hq hP hS => ?_)
    obtain rfl := hq
    refine lv_iload_n hx hb dX2_is_29 rfl (lv_at hl 3 rfl) ?_
    refine icN_gt (tgt := 37) hx hb dX2_is_30 (by decide) (by have := haveN_le n w co; omega) (by omega) (fun c_30 => ?_) (fun c_30 => ?_)
    · refine lv_iconst (v := nI 0) hx hb dX2_is_37 (by decide) ?_
      exact ret _ (mW cI cZ m0 m1 m2 m3 m4 m5 m6 th n bg tn sl ht sn o nx kp ow) _ _ _ _ dX2_is_38 rfl ⟨rfl, bI_f (by simp [isM, c_2]; omega)⟩ (List.Perm.refl _) hP hS
    · refine lv_iconst (v := nI 1) hx hb dX2_is_33 (by decide) ?_
      refine lv_goto (tgt := 38) hx hb dX2_is_34 (by decide) ?_
      exact ret _ (mW cI cZ m0 m1 m2 m3 m4 m5 m6 th n bg tn sl ht sn o nx kp ow) _ _ _ _ dX2_is_38 rfl ⟨rfl, bI_t (by simp [isM, c_2]; omega)⟩ (List.Perm.refl _) hP hS
  · refine lv_aload_n hx hb dX2_is_5 rfl (lv_at hl 0 rfl) ?_
    refine lv_iload_n hx hb dX2_is_6 rfl (lv_at hl 1 rfl) ?_
    refine lv_iload_n hx hb dX2_is_7 rfl (lv_at hl 2 rfl) ?_
    refine call_Vp (As := [.int (nI w), .int (nI co)]) (rest := []) S (m_X2_have m0 m1 m2 m3 m4 m5 m6 th n bg tn sl ht sn o nx kp ow w co hn (by omega) (by omega)) g_X2_X2_have hd_X2_have ⟨Nat.le_of_ble_eq_true rfl, Nat.le_of_ble_eq_true rfl⟩ ⟨Nat.zero_le _, Nat.zero_le _⟩ hP hD hK hS hZ [0, 1, 2, 3, 4, 5, 6] rfl (by decide) 0 rfl rfl hl.1 rfl (Nat.le_of_ble_eq_true rfl) dX2_is_8 (fun r H locs hq hP hS => ?_)
    obtain rfl := hq
    refine lv_iload_n hx hb dX2_is_11 rfl (lv_at hl 3 rfl) ?_
    refine icN_lt (tgt := 19) hx hb dX2_is_12 (by decide) (by have := haveN_le n w co; omega) (by omega) (fun c_12 => ?_) (fun c_12 => ?_)
    · refine lv_iconst (v := nI 0) hx hb dX2_is_19 (by decide) ?_
      refine lv_goto (tgt := 38) hx hb dX2_is_20 (by decide) ?_
      exact ret _ (mW cI cZ m0 m1 m2 m3 m4 m5 m6 th n bg tn sl ht sn o nx kp ow) _ _ _ _ dX2_is_38 rfl ⟨rfl, bI_f (by simp [isM, c_2]; omega)⟩ (List.Perm.refl _) hP hS
    · refine lv_iconst (v := nI 1) hx hb dX2_is_15 (by decide) ?_
      refine lv_goto (tgt := 38) hx hb dX2_is_16 (by decide) ?_
      exact ret _ (mW cI cZ m0 m1 m2 m3 m4 m5 m6 th n bg tn sl ht sn o nx kp ow) _ _ _ _ dX2_is_38 rfl ⟨rfl, bI_t (by simp [isM, c_2]; omega)⟩ (List.Perm.refl _) hP hS

set_option maxHeartbeats 4000000 in
set_option maxRecDepth 100000 in
theorem m_X2_openWith (m0 m1 m2 m3 m4 m5 m6 th n : Nat) (bg : Bool) (tn sl : Nat) (ht sn : Nat → Nat) (o nx kp : Nat → Bool) (ow : Nat → Nat) (p co : Nat) (hn : n ≤ 5) (hp : p < 5) (hco : co < 3) : Mp l yX2_openWith ws_X2_openWith 1 21 (dC, dI) (tyL cI cZ cJ) [.ref m0, .int (nI p), .int (nI co)] (mW cI cZ m0 m1 m2 m3 m4 m5 m6 th n bg tn sl ht sn o nx kp ow) (fun r => r = nI (withM o n p co)) := by
  refine Mi_of (by decide +kernel) (Nat.le_of_ble_eq_true rfl) ?_
  intro pr ev sx mi ag bl me cd Q ls S hP hK hD hZ hl ret
  obtain ⟨hx, hb, hml, hown, hts⟩ := id S
  have hown : sx.vm.findClass RX2 = some mi.cls := hown
  have hS : va_S (wIn (mW cI cZ m0 m1 m2 m3 m4 m5 m6 th n bg tn sl ht sn o nx kp ow)) sx.heap sx.heap [] := va_S.rf
  have hl : lv_has ls 5 [(0, .ref m0), (1, .int (nI p)), (2, .int (nI co))] := hl
  have h3 := p3_243 n hn; have h30 := p3_0 n
  refine lv_iconst (v := nI 0) hx hb dX2_openWith_0 (by decide) ?_
  refine lv_istore_n (lv' := [(3, .int (nI 0)), (0, .ref m0), (1, .int (nI p)), (2, .int (nI co))]) hx hb dX2_openWith_1 rfl hl (by decide) rfl (fun ls hl => ?_)
  refine lv_iconst (v := nI 0) hx hb dX2_openWith_2 (by decide) ?_
  refine lv_istore (lv' := [(4, .int (nI 0)), (3, .int (nI 0)), (0, .ref m0), (1, .int (nI p)), (2, .int (nI co))]) hx hb dX2_openWith_3 hl (by decide) rfl (fun ls hl => ?_)
  have lp5 : ∀ (kf : Nat) (i : Nat) (a : Nat), (3 ^ n) < i + kf → (i ≤ 3 ^ n) → (a = cntP (fun w => o w && dg3 w p == co) i) → ∀ (H : Heap) (locs : List Loc), va_P (dC, dI) vwCl (mW cI cZ m0 m1 m2 m3 m4 m5 m6 th n bg tn sl ht sn o nx kp ow) H → va_D (wIn (mW cI cZ m0 m1 m2 m3 m4 m5 m6 th n bg tn sl ht sn o nx kp ow)) (mW cI cZ m0 m1 m2 m3 m4 m5 m6 th n bg tn sl ht sn o nx kp ow) → va_S (wIn (mW cI cZ m0 m1 m2 m3 m4 m5 m6 th n bg tn sl ht sn o nx kp ow)) sx.heap H locs → ∀ ls : Array Slot, lv_has ls 5 [(4, .int (nI i)), (3, .int (nI a)), (0, .ref m0), (1, .int (nI p)), (2, .int (nI co))] → W pr l ev (rmB 1 21) sx mi ag bl me cd H locs 0 0 Q (F0 mi 5 ls []) := by
    intro kf
    induction kf with
    | zero => intro i a hkf hi ha; exact absurd hkf (by omega)
    | succ kf ih5 =>
      intro i a hkf hi ha H locs hP hD hS ls hl
      refine lv_iload hx hb dX2_openWith_5 (lv_at hl 0 rfl) ?_
      refine lv_aload_n hx hb dX2_openWith_7 rfl (lv_at hl 2 rfl) ?_
      refine call_Vp (As := []) (rest := [.int (nI i)]) S (m_X2_ways m0 m1 m2 m3 m4 m5 m6 th n bg tn sl ht sn o nx kp ow  hn) g_X2_X2_ways hd_X2_ways ⟨Nat.le_of_ble_eq_true rfl, Nat.le_of_ble_eq_true rfl⟩ ⟨Nat.zero_le _, Nat.zero_le _⟩ hP hD hK hS hZ [0, 1, 2, 3, 4, 5, 6] rfl (by decide) 0 rfl rfl hl.1 rfl (Nat.le_of_ble_eq_true rfl) dX2_openWith_8 (fun r H locs hq hP hS => ?_)
      obtain rfl := hq
      refine icN_ge (tgt := 48) hx hb dX2_openWith_11 (by decide) (by omega) (by omega) (fun c_11 => ?_) (fun c_11 => ?_)
      · refine lv_iload_n hx hb dX2_openWith_48 rfl (lv_at hl 1 rfl) ?_
        exact ret _ (mW cI cZ m0 m1 m2 m3 m4 m5 m6 th n bg tn sl ht sn o nx kp ow) _ _ _ _ dX2_openWith_49 rfl ⟨rfl, by rw [ha, show i = 3 ^ n by omega]; rfl⟩ (List.Perm.refl _) hP hS
      · refine lv_iload_n hx hb dX2_openWith_14 rfl (lv_at hl 1 rfl) ?_
        refine lv_aload_n hx hb dX2_openWith_15 rfl (lv_at hl 2 rfl) ?_
        refine va_get (D := (dC, dI)) (ci := 2) (v := .ref m3) (C := RX2) (T := TX2) (N := 11) hx hb hts inX2 hown hK hP 0 rfl rfl 5 (by decide) (hts _ q_fl_X2_16) (fun _ h9 => h9) rfl dX2_openWith_16 ?_
        refine lv_iload hx hb dX2_openWith_19 (lv_at hl 0 rfl) ?_
        refine za_ld hx hb hK hP 3 1 rfl rfl (j := i) (by omega) (by decide) dX2_openWith_21 ?_
        refine ifB_eq (tgt := 39) hx hb dX2_openWith_22 (by decide) (fun c_22 => ?_) (fun c_22 => ?_)
        · refine lv_iconst (v := nI 0) hx hb dX2_openWith_39 (by decide) ?_
          refine lv_iadd hx hb dX2_openWith_40 ?_
          refine W_i (y := nI (a + 0)) (nI_add _ _) ?_
          refine lv_istore_n (lv' := [(3, .int (nI (a + 0))), (4, .int (nI i)), (0, .ref m0), (1, .int (nI p)), (2, .int (nI co))]) hx hb dX2_openWith_41 rfl hl (by decide) rfl (fun ls hl => ?_)
          refine lv_iinc (v := nI (i + 1)) (lv' := [(4, .int (nI (i + 1))), (3, .int (nI (a + 0))), (0, .ref m0), (1, .int (nI p)), (2, .int (nI co))]) hx hb dX2_openWith_42 hl (k := 1) rfl (nI_add _ _) (by decide) rfl (fun ls hl => ?_)
          refine lv_goto (tgt := 5) hx hb dX2_openWith_45 (by decide) ?_
          exact ih5 (i + 1) _ (by omega) (by omega) (cntP_f (by simp [c_22]) ha) _ _ hP hD hS _ (lv_sub hl [0, 1, 2, 3, 4] rfl)
        · refine lv_iload hx hb dX2_openWith_25 (lv_at hl 0 rfl) ?_
          refine lv_iload_n hx hb dX2_openWith_27 rfl (lv_at hl 3 rfl) ?_
          refine call_Sp (As := [.int (nI i), .int (nI p)]) (rest := [.int (nI a)]) S (m_X2_colour i p (by omega) (by omega)) g_X2_X2_colour hd_X2_colour ⟨Nat.le_of_ble_eq_true rfl, Nat.le_of_ble_eq_true rfl⟩ ⟨Nat.zero_le _, Nat.zero_le _⟩ hP hD hK hS hZ [] rfl (by decide) hl.1 rfl (Nat.le_of_ble_eq_true rfl) dX2_openWith_28 (fun r H locs hq hP hS => ?_)
          obtain rfl := hq
          refine lv_iload_n hx hb dX2_openWith_31 rfl (lv_at hl 4 rfl) ?_
          refine icN_ne (tgt := 39) hx hb dX2_openWith_32 (by decide) (by have := dg3_lt i p; omega) (by omega) (fun c_32 => ?_) (fun c_32 => ?_)
          · refine lv_iconst (v := nI 0) hx hb dX2_openWith_39 (by decide) ?_
            refine lv_iadd hx hb dX2_openWith_40 ?_
            refine W_i (y := nI (a + 0)) (nI_add _ _) ?_
            refine lv_istore_n (lv' := [(3, .int (nI (a + 0))), (4, .int (nI i)), (0, .ref m0), (1, .int (nI p)), (2, .int (nI co))]) hx hb dX2_openWith_41 rfl hl (by decide) rfl (fun ls hl => ?_)
            refine lv_iinc (v := nI (i + 1)) (lv' := [(4, .int (nI (i + 1))), (3, .int (nI (a + 0))), (0, .ref m0), (1, .int (nI p)), (2, .int (nI co))]) hx hb dX2_openWith_42 hl (k := 1) rfl (nI_add _ _) (by decide) rfl (fun ls hl => ?_)
            refine lv_goto (tgt := 5) hx hb dX2_openWith_45 (by decide) ?_
            exact ih5 (i + 1) _ (by omega) (by omega) (cntP_f (by simp [c_22, c_32]) ha) _ _ hP hD hS _ (lv_sub hl [0, 1, 2, 3, 4] rfl)
          · refine lv_iconst (v := nI 1) hx hb dX2_openWith_35 (by decide) ?_
            refine lv_goto (tgt := 40) hx hb dX2_openWith_36 (by decide) ?_
            refine lv_iadd hx hb dX2_openWith_40 ?_
            refine W_i (y := nI (a + 1)) (nI_add _ _) ?_
            refine lv_istore_n (lv' := [(3, .int (nI (a + 1))), (4, .int (nI i)), (0, .ref m0), (1, .int (nI p)), (2, .int (nI co))]) hx hb dX2_openWith_41 rfl hl (by decide) rfl (fun ls hl => ?_)
            refine lv_iinc (v := nI (i + 1)) (lv' := [(4, .int (nI (i + 1))), (3, .int (nI (a + 1))), (0, .ref m0), (1, .int (nI p)), (2, .int (nI co))]) hx hb dX2_openWith_42 hl (k := 1) rfl (nI_add _ _) (by decide) rfl (fun ls hl => ?_)
            refine lv_goto (tgt := 5) hx hb dX2_openWith_45 (by decide) ?_
            exact ih5 (i + 1) _ (by omega) (by omega) (cntP_t (by simp [c_22, c_32]) ha) _ _ hP hD hS _ (lv_sub hl [0, 1, 2, 3, 4] rfl)
  exact lp5 (3 ^ n + 1) 0 0 (by omega) (by omega) rfl _ _ hP hD hS _ (lv_sub hl [0, 1, 2, 3, 4] rfl)

set_option maxHeartbeats 4000000 in
set_option maxRecDepth 100000 in
theorem m_X2_known (m0 m1 m2 m3 m4 m5 m6 th n : Nat) (bg : Bool) (tn sl : Nat) (ht sn : Nat → Nat) (o nx kp : Nat → Bool) (ow : Nat → Nat) (p : Nat) (hn : n ≤ 5) (hht : ∀ p, p < 5 → ht p < 3) (hp : p < 5) : Mp l yX2_known ws_X2_known 2 45 (dC, dI) (tyL cI cZ cJ) [.ref m0, .int (nI p)] (mW cI cZ m0 m1 m2 m3 m4 m5 m6 th n bg tn sl ht sn o nx kp ow) (fun r => r = bI (allM ht o n p)) := by
  refine Mi_of (by decide +kernel) (Nat.le_of_ble_eq_true rfl) ?_
  intro pr ev sx mi ag bl me cd Q ls S hP hK hD hZ hl ret
  obtain ⟨hx, hb, hml, hown, hts⟩ := id S
  have hown : sx.vm.findClass RX2 = some mi.cls := hown
  have hS : va_S (wIn (mW cI cZ m0 m1 m2 m3 m4 m5 m6 th n bg tn sl ht sn o nx kp ow)) sx.heap sx.heap [] := va_S.rf
  have hl : lv_has ls 2 [(0, .ref m0), (1, .int (nI p))] := hl
  have h3 := p3_243 n hn; have h30 := p3_0 n
  refine lv_aload_n hx hb dX2_known_0 rfl (lv_at hl 0 rfl) ?_
  refine lv_iload_n hx hb dX2_known_1 rfl (lv_at hl 1 rfl) ?_
  refine lv_aload_n hx hb dX2_known_2 rfl (lv_at hl 0 rfl) ?_
  refine va_get (D := (dC, dI)) (ci := 2) (v := .ref m1) (C := RX2) (T := TX2) (N := 11) hx hb hts inX2 hown hK hP 0 rfl rfl 3 (by decide) (hts _ q_fl_X2_9) (fun _ h9 => h9) rfl dX2_known_3 ?_
  refine lv_iload_n hx hb dX2_known_6 rfl (lv_at hl 1 rfl) ?_
  refine ia_ld hx hb hK hP 1 0 rfl rfl (j := p) (by omega) (by decide) dX2_known_7 ?_
  refine call_Vp (As := [.int (nI p), .int (nI (ht p))]) (rest := []) S (m_X2_openWith m0 m1 m2 m3 m4 m5 m6 th n bg tn sl ht sn o nx kp ow p (ht p) hn (by omega) (hht _ (by omega))) g_X2_X2_openWith hd_X2_openWith ⟨Nat.le_of_ble_eq_true rfl, Nat.le_of_ble_eq_true rfl⟩ ⟨Nat.zero_le _, Nat.zero_le _⟩ hP hD hK hS hZ [0, 1, 2, 3, 4, 5, 6] rfl (by decide) 0 rfl rfl hl.1 rfl (Nat.le_of_ble_eq_true rfl) dX2_known_8 (fun r H locs hq hP hS => ?_)
  obtain rfl := hq
  refine lv_aload_n hx hb dX2_known_11 rfl (lv_at hl 0 rfl) ?_
  refine call_Vp (As := []) (rest := [.int (nI (withM o n p (ht p)))]) S (m_X2_openNow m0 m1 m2 m3 m4 m5 m6 th n bg tn sl ht sn o nx kp ow  hn) g_X2_X2_openNow hd_X2_openNow ⟨Nat.le_of_ble_eq_true rfl, Nat.le_of_ble_eq_true rfl⟩ ⟨Nat.zero_le _, Nat.zero_le _⟩ hP hD hK hS hZ [0, 1, 2, 3, 4, 5, 6] rfl (by decide) 0 rfl rfl hl.1 rfl (Nat.le_of_ble_eq_true rfl) dX2_known_12 (fun r H locs hq hP hS => ?_)
  obtain rfl := hq
  refine icN_ne (tgt := 22) hx hb dX2_known_15 (by decide) (by have := cntP_le (fun w => o w && dg3 w p == ht p) (3 ^ n); rw [withM]; omega) (by have := cntP_le o (3 ^ n); omega) (fun c_15 => ?_) (fun c_15 => ?_)
  · refine lv_iconst (v := nI 0) hx hb dX2_known_22 (by decide) ?_
    exact ret _ (mW cI cZ m0 m1 m2 m3 m4 m5 m6 th n bg tn sl ht sn o nx kp ow) _ _ _ _ dX2_known_23 rfl ⟨rfl, bI_f (by simp [allM, c_15])⟩ (List.Perm.refl _) hP hS
  · refine lv_iconst (v := nI 1) hx hb dX2_known_18 (by decide) ?_
    refine lv_goto (tgt := 23) hx hb dX2_known_19 (by decide) ?_
    exact ret _ (mW cI cZ m0 m1 m2 m3 m4 m5 m6 th n bg tn sl ht sn o nx kp ow) _ _ _ _ dX2_known_23 rfl ⟨rfl, bI_t (by simp [allM, c_15])⟩ (List.Perm.refl _) hP hS

set_option maxHeartbeats 4000000 in
set_option maxRecDepth 100000 in
theorem m_X2_possible (m0 m1 m2 m3 m4 m5 m6 th n : Nat) (bg : Bool) (tn sl : Nat) (ht sn : Nat → Nat) (o nx kp : Nat → Bool) (ow : Nat → Nat) (p : Nat) (hn : n ≤ 5) (hsn : ∀ p, p < 5 → sn p < 32) (hht : ∀ p, p < 5 → ht p < 3) (hp : p < 5) : Mp l yX2_possible ws_X2_possible 2 47 (dC, dI) (tyL cI cZ cJ) [.ref m0, .int (nI p)] (mW cI cZ m0 m1 m2 m3 m4 m5 m6 th n bg tn sl ht sn o nx kp ow) (fun r => r = nI (possM sn ht o n p)) := by
  refine Mi_of (by decide +kernel) (Nat.le_of_ble_eq_true rfl) ?_
  intro pr ev sx mi ag bl me cd Q ls S hP hK hD hZ hl ret
  obtain ⟨hx, hb, hml, hown, hts⟩ := id S
  have hown : sx.vm.findClass RX2 = some mi.cls := hown
  have hS : va_S (wIn (mW cI cZ m0 m1 m2 m3 m4 m5 m6 th n bg tn sl ht sn o nx kp ow)) sx.heap sx.heap [] := va_S.rf
  have hl : lv_has ls 5 [(0, .ref m0), (1, .int (nI p))] := hl
  have h3 := p3_243 n hn; have h30 := p3_0 n
  have hre : realN ht n < 3 ^ n := realN_lt n (fun p hp => hht p (by omega))
  refine lv_aload_n hx hb dX2_possible_0 rfl (lv_at hl 0 rfl) ?_
  refine lv_iload_n hx hb dX2_possible_1 rfl (lv_at hl 1 rfl) ?_
  refine lv_aload_n hx hb dX2_possible_2 rfl (lv_at hl 0 rfl) ?_
  refine call_Vp (As := []) (rest := [.int (nI p), .ref m0]) S (m_X2_real m0 m1 m2 m3 m4 m5 m6 th n bg tn sl ht sn o nx kp ow  hn) g_X2_X2_real hd_X2_real ⟨Nat.le_of_ble_eq_true rfl, Nat.le_of_ble_eq_true rfl⟩ ⟨Nat.zero_le _, Nat.zero_le _⟩ hP hD hK hS hZ [0, 1, 2, 3, 4, 5, 6] rfl (by decide) 0 rfl rfl hl.1 rfl (Nat.le_of_ble_eq_true rfl) dX2_possible_3 (fun r H locs hq hP hS => ?_)
  obtain rfl := hq
  refine call_Vp (As := [.int (nI p), .int (nI (realN ht n))]) (rest := []) S (m_X2_view m0 m1 m2 m3 m4 m5 m6 th n bg tn sl ht sn o nx kp ow p (realN ht n) hn hsn (by omega) (by omega)) g_X2_X2_view hd_X2_view ⟨Nat.le_of_ble_eq_true rfl, Nat.le_of_ble_eq_true rfl⟩ ⟨Nat.zero_le _, Nat.zero_le _⟩ hP hD hK hS hZ [0, 1, 2, 3, 4, 5, 6] rfl (by decide) 0 rfl rfl hl.1 rfl (Nat.le_of_ble_eq_true rfl) dX2_possible_6 (fun r H locs hq hP hS => ?_)
  obtain rfl := hq
  refine lv_istore_n (lv' := [(2, .int (nI (viewN sn p (realN ht n) n))), (0, .ref m0), (1, .int (nI p))]) hx hb dX2_possible_9 rfl hl (by decide) rfl (fun ls hl => ?_)
  refine lv_iconst (v := nI 0) hx hb dX2_possible_10 (by decide) ?_
  refine lv_istore_n (lv' := [(3, .int (nI 0)), (2, .int (nI (viewN sn p (realN ht n) n))), (0, .ref m0), (1, .int (nI p))]) hx hb dX2_possible_11 rfl hl (by decide) rfl (fun ls hl => ?_)
  refine lv_iconst (v := nI 0) hx hb dX2_possible_12 (by decide) ?_
  refine lv_istore (lv' := [(4, .int (nI 0)), (3, .int (nI 0)), (2, .int (nI (viewN sn p (realN ht n) n))), (0, .ref m0), (1, .int (nI p))]) hx hb dX2_possible_13 hl (by decide) rfl (fun ls hl => ?_)
  have lp15 : ∀ (kf : Nat) (i : Nat) (a : Nat), (3 ^ n) < i + kf → (i ≤ 3 ^ n) → (a = cntP (fun w => o w && viewN sn p w n == viewN sn p (realN ht n) n) i) → ∀ (H : Heap) (locs : List Loc), va_P (dC, dI) vwCl (mW cI cZ m0 m1 m2 m3 m4 m5 m6 th n bg tn sl ht sn o nx kp ow) H → va_D (wIn (mW cI cZ m0 m1 m2 m3 m4 m5 m6 th n bg tn sl ht sn o nx kp ow)) (mW cI cZ m0 m1 m2 m3 m4 m5 m6 th n bg tn sl ht sn o nx kp ow) → va_S (wIn (mW cI cZ m0 m1 m2 m3 m4 m5 m6 th n bg tn sl ht sn o nx kp ow)) sx.heap H locs → ∀ ls : Array Slot, lv_has ls 5 [(4, .int (nI i)), (3, .int (nI a)), (2, .int (nI (viewN sn p (realN ht n) n))), (0, .ref m0), (1, .int (nI p))] → W pr l ev (rmB 2 47) sx mi ag bl me cd H locs 0 0 Q (F0 mi 15 ls []) := by
    intro kf
    induction kf with
    | zero => intro i a hkf hi ha; exact absurd hkf (by omega)
    | succ kf ih15 =>
      intro i a hkf hi ha H locs hP hD hS ls hl
      refine lv_iload hx hb dX2_possible_15 (lv_at hl 0 rfl) ?_
      refine lv_aload_n hx hb dX2_possible_17 rfl (lv_at hl 3 rfl) ?_
      refine call_Vp (As := []) (rest := [.int (nI i)]) S (m_X2_ways m0 m1 m2 m3 m4 m5 m6 th n bg tn sl ht sn o nx kp ow  hn) g_X2_X2_ways hd_X2_ways ⟨Nat.le_of_ble_eq_true rfl, Nat.le_of_ble_eq_true rfl⟩ ⟨Nat.zero_le _, Nat.zero_le _⟩ hP hD hK hS hZ [0, 1, 2, 3, 4, 5, 6] rfl (by decide) 0 rfl rfl hl.1 rfl (Nat.le_of_ble_eq_true rfl) dX2_possible_18 (fun r H locs hq hP hS => ?_)
      obtain rfl := hq
      refine icN_ge (tgt := 59) hx hb dX2_possible_21 (by decide) (by omega) (by omega) (fun c_21 => ?_) (fun c_21 => ?_)
      · refine lv_iload_n hx hb dX2_possible_59 rfl (lv_at hl 1 rfl) ?_
        exact ret _ (mW cI cZ m0 m1 m2 m3 m4 m5 m6 th n bg tn sl ht sn o nx kp ow) _ _ _ _ dX2_possible_60 rfl ⟨rfl, by rw [ha, show i = 3 ^ n by omega]; rfl⟩ (List.Perm.refl _) hP hS
      · refine lv_iload_n hx hb dX2_possible_24 rfl (lv_at hl 1 rfl) ?_
        refine lv_aload_n hx hb dX2_possible_25 rfl (lv_at hl 3 rfl) ?_
        refine va_get (D := (dC, dI)) (ci := 2) (v := .ref m3) (C := RX2) (T := TX2) (N := 11) hx hb hts inX2 hown hK hP 0 rfl rfl 5 (by decide) (hts _ q_fl_X2_16) (fun _ h9 => h9) rfl dX2_possible_26 ?_
        refine lv_iload hx hb dX2_possible_29 (lv_at hl 0 rfl) ?_
        refine za_ld hx hb hK hP 3 1 rfl rfl (j := i) (by omega) (by decide) dX2_possible_31 ?_
        refine ifB_eq (tgt := 50) hx hb dX2_possible_32 (by decide) (fun c_32 => ?_) (fun c_32 => ?_)
        · refine lv_iconst (v := nI 0) hx hb dX2_possible_50 (by decide) ?_
          refine lv_iadd hx hb dX2_possible_51 ?_
          refine W_i (y := nI (a + 0)) (nI_add _ _) ?_
          refine lv_istore_n (lv' := [(3, .int (nI (a + 0))), (4, .int (nI i)), (2, .int (nI (viewN sn p (realN ht n) n))), (0, .ref m0), (1, .int (nI p))]) hx hb dX2_possible_52 rfl hl (by decide) rfl (fun ls hl => ?_)
          refine lv_iinc (v := nI (i + 1)) (lv' := [(4, .int (nI (i + 1))), (3, .int (nI (a + 0))), (2, .int (nI (viewN sn p (realN ht n) n))), (0, .ref m0), (1, .int (nI p))]) hx hb dX2_possible_53 hl (k := 1) rfl (nI_add _ _) (by decide) rfl (fun ls hl => ?_)
          refine lv_goto (tgt := 15) hx hb dX2_possible_56 (by decide) ?_
          exact ih15 (i + 1) _ (by omega) (by omega) (cntP_f (by simp [c_32]) ha) _ _ hP hD hS _ (lv_sub hl [0, 1, 2, 3, 4] rfl)
        · refine lv_aload_n hx hb dX2_possible_35 rfl (lv_at hl 3 rfl) ?_
          refine lv_iload_n hx hb dX2_possible_36 rfl (lv_at hl 4 rfl) ?_
          refine lv_iload hx hb dX2_possible_37 (lv_at hl 0 rfl) ?_
          refine call_Vp (As := [.int (nI p), .int (nI i)]) (rest := [.int (nI a)]) S (m_X2_view m0 m1 m2 m3 m4 m5 m6 th n bg tn sl ht sn o nx kp ow p i hn hsn (by omega) (by omega)) g_X2_X2_view hd_X2_view ⟨Nat.le_of_ble_eq_true rfl, Nat.le_of_ble_eq_true rfl⟩ ⟨Nat.zero_le _, Nat.zero_le _⟩ hP hD hK hS hZ [0, 1, 2, 3, 4, 5, 6] rfl (by decide) 0 rfl rfl hl.1 rfl (Nat.le_of_ble_eq_true rfl) dX2_possible_39 (fun r H locs hq hP hS => ?_)
          obtain rfl := hq
          refine lv_iload_n hx hb dX2_possible_42 rfl (lv_at hl 2 rfl) ?_
          refine icN_ne (tgt := 50) hx hb dX2_possible_43 (by decide) (Nat.lt_of_lt_of_le (viewN_lt _ _ _ n) (by omega)) (Nat.lt_of_lt_of_le (viewN_lt _ _ _ n) (by omega)) (fun c_43 => ?_) (fun c_43 => ?_)
          · refine lv_iconst (v := nI 0) hx hb dX2_possible_50 (by decide) ?_
            refine lv_iadd hx hb dX2_possible_51 ?_
            refine W_i (y := nI (a + 0)) (nI_add _ _) ?_
            refine lv_istore_n (lv' := [(3, .int (nI (a + 0))), (4, .int (nI i)), (2, .int (nI (viewN sn p (realN ht n) n))), (0, .ref m0), (1, .int (nI p))]) hx hb dX2_possible_52 rfl hl (by decide) rfl (fun ls hl => ?_)
            refine lv_iinc (v := nI (i + 1)) (lv' := [(4, .int (nI (i + 1))), (3, .int (nI (a + 0))), (2, .int (nI (viewN sn p (realN ht n) n))), (0, .ref m0), (1, .int (nI p))]) hx hb dX2_possible_53 hl (k := 1) rfl (nI_add _ _) (by decide) rfl (fun ls hl => ?_)
            refine lv_goto (tgt := 15) hx hb dX2_possible_56 (by decide) ?_
            exact ih15 (i + 1) _ (by omega) (by omega) (cntP_f (by simp [c_32, c_43]) ha) _ _ hP hD hS _ (lv_sub hl [0, 1, 2, 3, 4] rfl)
          · refine lv_iconst (v := nI 1) hx hb dX2_possible_46 (by decide) ?_
            refine lv_goto (tgt := 51) hx hb dX2_possible_47 (by decide) ?_
            refine lv_iadd hx hb dX2_possible_51 ?_
            refine W_i (y := nI (a + 1)) (nI_add _ _) ?_
            refine lv_istore_n (lv' := [(3, .int (nI (a + 1))), (4, .int (nI i)), (2, .int (nI (viewN sn p (realN ht n) n))), (0, .ref m0), (1, .int (nI p))]) hx hb dX2_possible_52 rfl hl (by decide) rfl (fun ls hl => ?_)
            refine lv_iinc (v := nI (i + 1)) (lv' := [(4, .int (nI (i + 1))), (3, .int (nI (a + 1))), (2, .int (nI (viewN sn p (realN ht n) n))), (0, .ref m0), (1, .int (nI p))]) hx hb dX2_possible_53 hl (k := 1) rfl (nI_add _ _) (by decide) rfl (fun ls hl => ?_)
            refine lv_goto (tgt := 15) hx hb dX2_possible_56 (by decide) ?_
            exact ih15 (i + 1) _ (by omega) (by omega) (cntP_t (by simp [c_32, c_43]) ha) _ _ hP hD hS _ (lv_sub hl [0, 1, 2, 3, 4] rfl)
  exact lp15 (3 ^ n + 1) 0 0 (by omega) (by omega) rfl _ _ hP hD hS _ (lv_sub hl [0, 1, 2, 3, 4] rfl)

set_option maxHeartbeats 4000000 in
set_option maxRecDepth 100000 in
theorem m_X2_knows (m0 m1 m2 m3 m4 m5 m6 th n : Nat) (bg : Bool) (tn sl : Nat) (ht sn : Nat → Nat) (o nx kp : Nat → Bool) (ow : Nat → Nat) (p q : Nat) (hn : n ≤ 5) (hsn : ∀ p, p < 5 → sn p < 32) (hht : ∀ p, p < 5 → ht p < 3) (hp : p < 5) (hq2 : q < 5) : Mp l yX2_knows ws_X2_knows 3 73 (dC, dI) (tyL cI cZ cJ) [.ref m0, .int (nI p), .int (nI q)] (mW cI cZ m0 m1 m2 m3 m4 m5 m6 th n bg tn sl ht sn o nx kp ow) (fun r => r = bI (knwM sn ht o n p q)) := by
  refine Mi_of (by decide +kernel) (Nat.le_of_ble_eq_true rfl) ?_
  intro pr ev sx mi ag bl me cd Q ls S hP hK hD hZ hl ret
  obtain ⟨hx, hb, hml, hown, hts⟩ := id S
  have hown : sx.vm.findClass RX2 = some mi.cls := hown
  have hS : va_S (wIn (mW cI cZ m0 m1 m2 m3 m4 m5 m6 th n bg tn sl ht sn o nx kp ow)) sx.heap sx.heap [] := va_S.rf
  have hl : lv_has ls 3 [(0, .ref m0), (1, .int (nI p)), (2, .int (nI q))] := hl
  have h3 := p3_243 n hn; have h30 := p3_0 n
  have hre : realN ht n < 3 ^ n := realN_lt n (fun p hp => hht p (by omega))
  refine lv_aload_n hx hb dX2_knows_0 rfl (lv_at hl 0 rfl) ?_
  refine lv_iload_n hx hb dX2_knows_1 rfl (lv_at hl 1 rfl) ?_
  refine lv_iload_n hx hb dX2_knows_2 rfl (lv_at hl 2 rfl) ?_
  refine lv_aload_n hx hb dX2_knows_3 rfl (lv_at hl 0 rfl) ?_
  refine call_Vp (As := []) (rest := [.int (nI q), .int (nI p), .ref m0]) S (m_X2_real m0 m1 m2 m3 m4 m5 m6 th n bg tn sl ht sn o nx kp ow  hn) g_X2_X2_real hd_X2_real ⟨Nat.le_of_ble_eq_true rfl, Nat.le_of_ble_eq_true rfl⟩ ⟨Nat.zero_le _, Nat.zero_le _⟩ hP hD hK hS hZ [0, 1, 2, 3, 4, 5, 6] rfl (by decide) 0 rfl rfl hl.1 rfl (Nat.le_of_ble_eq_true rfl) dX2_knows_4 (fun r H locs hq hP hS => ?_)
  obtain rfl := hq
  refine call_Vp (As := [.int (nI p), .int (nI q), .int (nI (realN ht n))]) (rest := []) S (m_X2_colours m0 m1 m2 m3 m4 m5 m6 th n bg tn sl ht sn o nx kp ow p q (realN ht n) hn hsn (by omega) (by omega) (by omega)) g_X2_X2_colours hd_X2_colours ⟨Nat.le_of_ble_eq_true rfl, Nat.le_of_ble_eq_true rfl⟩ ⟨Nat.zero_le _, Nat.zero_le _⟩ hP hD hK hS hZ [0, 1, 2, 3, 4, 5, 6] rfl (by decide) 0 rfl rfl hl.1 rfl (Nat.le_of_ble_eq_true rfl) dX2_knows_7 (fun r H locs hq hP hS => ?_)
  obtain rfl := hq
  refine call_Sp (As := [.int (nI (colG sn p q o n (viewN sn p (realN ht n) n) (3 ^ n)))]) (rest := []) S (m_X2_isOne (colG sn p q o n (viewN sn p (realN ht n) n) (3 ^ n)) (by have := colG_lt sn p q o n (viewN sn p (realN ht n) n) (3 ^ n); omega)) g_X2_X2_isOne hd_X2_isOne ⟨Nat.le_of_ble_eq_true rfl, Nat.le_of_ble_eq_true rfl⟩ ⟨Nat.zero_le _, Nat.zero_le _⟩ hP hD hK hS hZ [] rfl (by decide) hl.1 rfl (Nat.le_of_ble_eq_true rfl) dX2_knows_10 (fun r H locs hq hP hS => ?_)
  obtain rfl := hq
  exact ret _ (mW cI cZ m0 m1 m2 m3 m4 m5 m6 th n bg tn sl ht sn o nx kp ow) _ _ _ _ dX2_knows_13 (bI_nar _) ⟨rfl, rfl⟩ (List.Perm.refl _) hP hS

theorem sureM_t {sn ht : Nat → Nat} {o : Nat → Bool} {n p q : Nat} (h : ∀ j, j < 3 ^ n → (o j && viewN sn p j n == viewN sn p (realN ht n) n) = true → mayM sn o n q j = true) : sureM sn ht o n p q = true := by
  refine List.all_eq_true.mpr (fun w hw => ?_)
  have hw := List.mem_range.mp hw
  cases hc : (o w && viewN sn p w n == viewN sn p (realN ht n) n) with
  | false => rfl
  | true => simp [h w hw hc]
theorem sureM_f {sn ht : Nat → Nat} {o : Nat → Bool} {n p q i : Nat} (hi : i < 3 ^ n) (h1 : (o i && viewN sn p i n == viewN sn p (realN ht n) n) = true) (h2 : mayM sn o n q i = false) : sureM sn ht o n p q = false := by
  cases hc : sureM sn ht o n p q with
  | false => rfl
  | true =>
    have := List.all_eq_true.mp hc i (List.mem_range.mpr hi)
    rw [h1, h2] at this
    exact absurd this (by decide)
set_option maxHeartbeats 4000000 in
set_option maxRecDepth 100000 in
theorem m_X2_sure (m0 m1 m2 m3 m4 m5 m6 th n : Nat) (bg : Bool) (tn sl : Nat) (ht sn : Nat → Nat) (o nx kp : Nat → Bool) (ow : Nat → Nat) (p q : Nat) (hn : n ≤ 5) (hsn : ∀ p, p < 5 → sn p < 32) (hht : ∀ p, p < 5 → ht p < 3) (hp : p < 5) (hq2 : q < 5) : Mi l yX2_sure ws_X2_sure 3 69 (dC, dI) (tyL cI cZ cJ) [.ref m0, .int (nI p), .int (nI q)] (mW cI cZ m0 m1 m2 m3 m4 m5 m6 th n bg tn sl ht sn o nx kp ow) (fun r u => r = bI (sureM sn ht o n p q) ∧ u = mW cI cZ m0 m1 m2 m3 m4 m5 m6 th n bg tn sl ht sn o nx kp (lookF sn q o n ow (3 ^ n))) := by
  refine Mi_of (by decide +kernel) (Nat.le_of_ble_eq_true rfl) ?_
  intro pr ev sx mi ag bl me cd Q ls S hP hK hD hZ hl ret
  obtain ⟨hx, hb, hml, hown, hts⟩ := id S
  have hown : sx.vm.findClass RX2 = some mi.cls := hown
  have hS : va_S (wIn (mW cI cZ m0 m1 m2 m3 m4 m5 m6 th n bg tn sl ht sn o nx kp ow)) sx.heap sx.heap [] := va_S.rf
  have hl : lv_has ls 5 [(0, .ref m0), (1, .int (nI p)), (2, .int (nI q))] := hl
  have h3 := p3_243 n hn; have h30 := p3_0 n
  have hre : realN ht n < 3 ^ n := realN_lt n (fun p hp => hht p (by omega))
  refine lv_aload_n hx hb dX2_sure_0 rfl (lv_at hl 0 rfl) ?_
  refine lv_iload_n hx hb dX2_sure_1 rfl (lv_at hl 1 rfl) ?_
  refine lv_aload_n hx hb dX2_sure_2 rfl (lv_at hl 0 rfl) ?_
  refine call_Vp (As := []) (rest := [.int (nI p), .ref m0]) S (m_X2_real m0 m1 m2 m3 m4 m5 m6 th n bg tn sl ht sn o nx kp ow  hn) g_X2_X2_real hd_X2_real ⟨Nat.le_of_ble_eq_true rfl, Nat.le_of_ble_eq_true rfl⟩ ⟨Nat.zero_le _, Nat.zero_le _⟩ hP hD hK hS hZ [0, 1, 2, 3, 4, 5, 6] rfl (by decide) 0 rfl rfl hl.1 rfl (Nat.le_of_ble_eq_true rfl) dX2_sure_3 (fun r H locs hq hP hS => ?_)
  obtain rfl := hq
  refine call_Vp (As := [.int (nI p), .int (nI (realN ht n))]) (rest := []) S (m_X2_view m0 m1 m2 m3 m4 m5 m6 th n bg tn sl ht sn o nx kp ow p (realN ht n) hn hsn (by omega) (by omega)) g_X2_X2_view hd_X2_view ⟨Nat.le_of_ble_eq_true rfl, Nat.le_of_ble_eq_true rfl⟩ ⟨Nat.zero_le _, Nat.zero_le _⟩ hP hD hK hS hZ [0, 1, 2, 3, 4, 5, 6] rfl (by decide) 0 rfl rfl hl.1 rfl (Nat.le_of_ble_eq_true rfl) dX2_sure_6 (fun r H locs hq hP hS => ?_)
  obtain rfl := hq
  refine lv_istore_n (lv' := [(3, .int (nI (viewN sn p (realN ht n) n))), (0, .ref m0), (1, .int (nI p)), (2, .int (nI q))]) hx hb dX2_sure_9 rfl hl (by decide) rfl (fun ls hl => ?_)
  refine lv_aload_n hx hb dX2_sure_10 rfl (lv_at hl 1 rfl) ?_
  refine lv_iload_n hx hb dX2_sure_11 rfl (lv_at hl 3 rfl) ?_
  refine call_Vv (As := [.int (nI q)]) (wr := []) (rest := []) S (m_X2_look m0 m1 m2 m3 m4 m5 m6 th n bg tn sl ht sn o nx kp ow q hn hsn (by omega)) g_X2_X2_look hd_X2_look ⟨Nat.le_of_ble_eq_true rfl, Nat.le_of_ble_eq_true rfl⟩ ⟨Nat.zero_le _, Nat.zero_le _⟩ hP hD hK hS hZ [0, 1, 2, 3, 4, 5, 6] [] rfl rfl (by decide) 0 rfl rfl hl.1 rfl (Nat.le_of_ble_eq_true rfl) dX2_sure_12 (fun u H locs hq hP hD hS => ?_)
  obtain rfl := hq
  have hP : va_P (dC, dI) vwCl (mW cI cZ m0 m1 m2 m3 m4 m5 m6 th n bg tn sl ht sn o nx kp (lookF sn q o n ow (3 ^ n))) H := hP
  have hD : va_D (wIn (mW cI cZ m0 m1 m2 m3 m4 m5 m6 th n bg tn sl ht sn o nx kp ow)) (mW cI cZ m0 m1 m2 m3 m4 m5 m6 th n bg tn sl ht sn o nx kp (lookF sn q o n ow (3 ^ n))) := hD
  refine lv_iconst (v := nI 0) hx hb dX2_sure_15 (by decide) ?_
  refine lv_istore (lv' := [(4, .int (nI 0)), (3, .int (nI (viewN sn p (realN ht n) n))), (0, .ref m0), (1, .int (nI p)), (2, .int (nI q))]) hx hb dX2_sure_16 hl (by decide) rfl (fun ls hl => ?_)
  have lp18 : ∀ (kf : Nat) (i : Nat), (3 ^ n) < i + kf → (i ≤ 3 ^ n) → (∀ j, j < i → (o j && viewN sn p j n == viewN sn p (realN ht n) n) = true → mayM sn o n q j = true) → ∀ (H : Heap) (locs : List Loc), va_P (dC, dI) vwCl (mW cI cZ m0 m1 m2 m3 m4 m5 m6 th n bg tn sl ht sn o nx kp (lookF sn q o n ow (3 ^ n))) H → va_D (wIn (mW cI cZ m0 m1 m2 m3 m4 m5 m6 th n bg tn sl ht sn o nx kp ow)) (mW cI cZ m0 m1 m2 m3 m4 m5 m6 th n bg tn sl ht sn o nx kp (lookF sn q o n ow (3 ^ n))) → va_S (wIn (mW cI cZ m0 m1 m2 m3 m4 m5 m6 th n bg tn sl ht sn o nx kp ow)) sx.heap H locs → ∀ ls : Array Slot, lv_has ls 5 [(4, .int (nI i)), (3, .int (nI (viewN sn p (realN ht n) n))), (0, .ref m0), (1, .int (nI p)), (2, .int (nI q))] → W pr l ev (rmB 3 69) sx mi ag bl me cd H locs 0 0 Q (F0 mi 18 ls []) := by
    intro kf
    induction kf with
    | zero => intro i hkf hi hall; exact absurd hkf (by omega)
    | succ kf ih18 =>
      intro i hkf hi hall H locs hP hD hS ls hl
      refine lv_iload hx hb dX2_sure_18 (lv_at hl 0 rfl) ?_
      refine lv_aload_n hx hb dX2_sure_20 rfl (lv_at hl 2 rfl) ?_
      refine call_Vp (As := []) (rest := [.int (nI i)]) S (m_X2_ways m0 m1 m2 m3 m4 m5 m6 th n bg tn sl ht sn o nx kp (lookF sn q o n ow (3 ^ n))  hn) g_X2_X2_ways hd_X2_ways ⟨Nat.le_of_ble_eq_true rfl, Nat.le_of_ble_eq_true rfl⟩ ⟨Nat.zero_le _, Nat.zero_le _⟩ hP hD hK hS hZ [0, 1, 2, 3, 4, 5, 6] rfl (by decide) 0 rfl rfl hl.1 rfl (Nat.le_of_ble_eq_true rfl) dX2_sure_21 (fun r H locs hq hP hS => ?_)
      obtain rfl := hq
      refine icN_ge (tgt := 66) hx hb dX2_sure_24 (by decide) (by omega) (by omega) (fun c_24 => ?_) (fun c_24 => ?_)
      · refine lv_iconst (v := nI 1) hx hb dX2_sure_66 (by decide) ?_
        exact ret _ (mW cI cZ m0 m1 m2 m3 m4 m5 m6 th n bg tn sl ht sn o nx kp (lookF sn q o n ow (3 ^ n))) _ _ _ _ dX2_sure_67 rfl ⟨bI_t (sureM_t (fun j hj ha => hall j (by omega) ha)), rfl⟩ (List.Perm.refl _) hP hS
      · refine lv_aload_n hx hb dX2_sure_27 rfl (lv_at hl 2 rfl) ?_
        refine va_get (D := (dC, dI)) (ci := 2) (v := .ref m3) (C := RX2) (T := TX2) (N := 11) hx hb hts inX2 hown hK hP 0 rfl rfl 5 (by decide) (hts _ q_fl_X2_16) (fun _ h9 => h9) rfl dX2_sure_28 ?_
        refine lv_iload hx hb dX2_sure_31 (lv_at hl 0 rfl) ?_
        refine za_ld hx hb hK hP 3 1 rfl rfl (j := i) (by omega) (by decide) dX2_sure_33 ?_
        refine ifB_eq (tgt := 60) hx hb dX2_sure_34 (by decide) (fun c_34 => ?_) (fun c_34 => ?_)
        · refine lv_iinc (v := nI (i + 1)) (lv' := [(4, .int (nI (i + 1))), (3, .int (nI (viewN sn p (realN ht n) n))), (0, .ref m0), (1, .int (nI p)), (2, .int (nI q))]) hx hb dX2_sure_60 hl (k := 0) rfl (nI_add _ _) (by decide) rfl (fun ls hl => ?_)
          refine lv_goto (tgt := 18) hx hb dX2_sure_63 (by decide) ?_
          exact ih18 (i + 1) (by omega) (by omega) (fun j hj ha => by rcases Nat.lt_or_ge j i with z | z; (· exact hall j z ha); (· rw [show j = i by omega] at ha ⊢; rw [c_34] at ha; exact absurd ha (by simp))) _ _ hP hD hS _ (lv_sub hl [0, 1, 2, 3, 4] rfl)
        · refine lv_aload_n hx hb dX2_sure_37 rfl (lv_at hl 2 rfl) ?_
          refine lv_iload_n hx hb dX2_sure_38 rfl (lv_at hl 3 rfl) ?_
          refine lv_iload hx hb dX2_sure_39 (lv_at hl 0 rfl) ?_
          refine call_Vp (As := [.int (nI p), .int (nI i)]) (rest := []) S (m_X2_view m0 m1 m2 m3 m4 m5 m6 th n bg tn sl ht sn o nx kp (lookF sn q o n ow (3 ^ n)) p i hn hsn (by omega) (by omega)) g_X2_X2_view hd_X2_view ⟨Nat.le_of_ble_eq_true rfl, Nat.le_of_ble_eq_true rfl⟩ ⟨Nat.zero_le _, Nat.zero_le _⟩ hP hD hK hS hZ [0, 1, 2, 3, 4, 5, 6] rfl (by decide) 0 rfl rfl hl.1 rfl (Nat.le_of_ble_eq_true rfl) dX2_sure_41 (fun r H locs hq hP hS => ?_)
          obtain rfl := hq
          refine lv_iload_n hx hb dX2_sure_44 rfl (lv_at hl 1 rfl) ?_
          refine icN_ne (tgt := 60) hx hb dX2_sure_45 (by decide) (Nat.lt_of_lt_of_le (viewN_lt _ _ _ n) (by omega)) (Nat.lt_of_lt_of_le (viewN_lt _ _ _ n) (by omega)) (fun c_45 => ?_) (fun c_45 => ?_)
          · refine lv_iinc (v := nI (i + 1)) (lv' := [(4, .int (nI (i + 1))), (3, .int (nI (viewN sn p (realN ht n) n))), (0, .ref m0), (1, .int (nI p)), (2, .int (nI q))]) hx hb dX2_sure_60 hl (k := 0) rfl (nI_add _ _) (by decide) rfl (fun ls hl => ?_)
            refine lv_goto (tgt := 18) hx hb dX2_sure_63 (by decide) ?_
            exact ih18 (i + 1) (by omega) (by omega) (fun j hj ha => by rcases Nat.lt_or_ge j i with z | z; (· exact hall j z ha); (· rw [show j = i by omega] at ha ⊢; simp [c_34] at ha; exact absurd ha c_45)) _ _ hP hD hS _ (lv_sub hl [0, 1, 2, 3, 4] rfl)
          · refine lv_aload_n hx hb dX2_sure_48 rfl (lv_at hl 2 rfl) ?_
            refine lv_iload_n hx hb dX2_sure_49 rfl (lv_at hl 4 rfl) ?_
            refine lv_iload hx hb dX2_sure_50 (lv_at hl 0 rfl) ?_
            refine call_Vp (As := [.int (nI q), .int (nI i)]) (rest := []) S (m_X2_certain m0 m1 m2 m3 m4 m5 m6 th n bg tn sl ht sn o nx kp (lookF sn q o n ow (3 ^ n)) q i hn hsn (by omega) (by omega) (by rw [lookF, mix_lt (viewN_lt _ _ _ _)]; exact Nat.lt_of_lt_of_le (colG_lt _ _ _ _ _ _ _) (by omega))) g_X2_X2_certain hd_X2_certain ⟨Nat.le_of_ble_eq_true rfl, Nat.le_of_ble_eq_true rfl⟩ ⟨Nat.zero_le _, Nat.zero_le _⟩ hP hD hK hS hZ [0, 1, 2, 3, 4, 5, 6] rfl (by decide) 0 rfl rfl hl.1 rfl (Nat.le_of_ble_eq_true rfl) dX2_sure_52 (fun r H locs hq hP hS => ?_)
            obtain rfl : r = bI (mayM sn o n q i) := by rw [hq, lookF, mix_lt (viewN_lt _ _ _ _)]; rfl
            refine ifB_ne (tgt := 60) hx hb dX2_sure_55 (by decide) (fun c_55 => ?_) (fun c_55 => ?_)
            · refine lv_iinc (v := nI (i + 1)) (lv' := [(4, .int (nI (i + 1))), (3, .int (nI (viewN sn p (realN ht n) n))), (0, .ref m0), (1, .int (nI p)), (2, .int (nI q))]) hx hb dX2_sure_60 hl (k := 0) rfl (nI_add _ _) (by decide) rfl (fun ls hl => ?_)
              refine lv_goto (tgt := 18) hx hb dX2_sure_63 (by decide) ?_
              exact ih18 (i + 1) (by omega) (by omega) (fun j hj ha => by rcases Nat.lt_or_ge j i with z | z; (· exact hall j z ha); (· rw [show j = i by omega] at ha ⊢; exact c_55)) _ _ hP hD hS _ (lv_sub hl [0, 1, 2, 3, 4] rfl)
            · refine lv_iconst (v := nI 0) hx hb dX2_sure_58 (by decide) ?_
              exact ret _ (mW cI cZ m0 m1 m2 m3 m4 m5 m6 th n bg tn sl ht sn o nx kp (lookF sn q o n ow (3 ^ n))) _ _ _ _ dX2_sure_59 rfl ⟨bI_f (sureM_f (by omega) (by simp [c_34, c_45]) c_55), rfl⟩ (List.Perm.refl _) hP hS
  exact lp18 (3 ^ n + 1) 0 (by omega) (by omega) (fun j hj => absurd hj (by omega)) _ _ hP hD hS _ (lv_sub hl [0, 1, 2, 3, 4] rfl)

set_option maxHeartbeats 4000000 in
set_option maxRecDepth 100000 in
theorem m_X2_many (m0 m1 m2 m3 m4 m5 m6 th n : Nat) (bg : Bool) (tn sl : Nat) (ht sn : Nat → Nat) (o nx kp : Nat → Bool) (ow : Nat → Nat) (hn : n ≤ 5) (hsn : ∀ p, p < 5 → sn p < 32) (hht : ∀ p, p < 5 → ht p < 3) : Mp l yX2_many ws_X2_many 4 94 (dC, dI) (tyL cI cZ cJ) [.ref m0] (mW cI cZ m0 m1 m2 m3 m4 m5 m6 th n bg tn sl ht sn o nx kp ow) (fun r => r = nI (manyM sn ht o n n)) := by
  refine Mi_of (by decide +kernel) (Nat.le_of_ble_eq_true rfl) ?_
  intro pr ev sx mi ag bl me cd Q ls S hP hK hD hZ hl ret
  obtain ⟨hx, hb, hml, hown, hts⟩ := id S
  have hown : sx.vm.findClass RX2 = some mi.cls := hown
  have hS : va_S (wIn (mW cI cZ m0 m1 m2 m3 m4 m5 m6 th n bg tn sl ht sn o nx kp ow)) sx.heap sx.heap [] := va_S.rf
  have hl : lv_has ls 3 [(0, .ref m0)] := hl
  refine lv_iconst (v := nI 0) hx hb dX2_many_0 (by decide) ?_
  refine lv_istore_n (lv' := [(1, .int (nI 0)), (0, .ref m0)]) hx hb dX2_many_1 rfl hl (by decide) rfl (fun ls hl => ?_)
  refine lv_iconst (v := nI 0) hx hb dX2_many_2 (by decide) ?_
  refine lv_istore_n (lv' := [(2, .int (nI 0)), (1, .int (nI 0)), (0, .ref m0)]) hx hb dX2_many_3 rfl hl (by decide) rfl (fun ls hl => ?_)
  have lp4 : ∀ (kf : Nat) (i : Nat) (a : Nat), n < i + kf → (i ≤ n) → (a = manyM sn ht o n i) → ∀ (H : Heap) (locs : List Loc), va_P (dC, dI) vwCl (mW cI cZ m0 m1 m2 m3 m4 m5 m6 th n bg tn sl ht sn o nx kp ow) H → va_D (wIn (mW cI cZ m0 m1 m2 m3 m4 m5 m6 th n bg tn sl ht sn o nx kp ow)) (mW cI cZ m0 m1 m2 m3 m4 m5 m6 th n bg tn sl ht sn o nx kp ow) → va_S (wIn (mW cI cZ m0 m1 m2 m3 m4 m5 m6 th n bg tn sl ht sn o nx kp ow)) sx.heap H locs → ∀ ls : Array Slot, lv_has ls 3 [(2, .int (nI i)), (1, .int (nI a)), (0, .ref m0)] → W pr l ev (rmB 4 94) sx mi ag bl me cd H locs 0 0 Q (F0 mi 4 ls []) := by
    intro kf
    induction kf with
    | zero => intro i a hkf hi ha; exact absurd hkf (by omega)
    | succ kf ih4 =>
      intro i a hkf hi ha H locs hP hD hS ls hl
      refine lv_iload_n hx hb dX2_many_4 rfl (lv_at hl 0 rfl) ?_
      refine lv_aload_n hx hb dX2_many_5 rfl (lv_at hl 2 rfl) ?_
      refine va_get (D := (dC, dI)) (ci := 2) (v := .int (nI n)) (C := RX2) (T := TX2) (N := 11) hx hb hts inX2 hown hK hP 0 rfl rfl 1 (by decide) (hts _ q_fl_X2_33) (fun _ h9 => h9) rfl dX2_many_6 ?_
      refine icN_ge (tgt := 34) hx hb dX2_many_9 (by decide) (by omega) (by omega) (fun c_9 => ?_) (fun c_9 => ?_)
      · refine lv_iload_n hx hb dX2_many_34 rfl (lv_at hl 1 rfl) ?_
        exact ret _ (mW cI cZ m0 m1 m2 m3 m4 m5 m6 th n bg tn sl ht sn o nx kp ow) _ _ _ _ dX2_many_35 rfl ⟨rfl, by rw [ha, show i = n by omega]⟩ (List.Perm.refl _) hP hS
      · refine lv_iload_n hx hb dX2_many_12 rfl (lv_at hl 1 rfl) ?_
        refine lv_aload_n hx hb dX2_many_13 rfl (lv_at hl 2 rfl) ?_
        refine lv_iload_n hx hb dX2_many_14 rfl (lv_at hl 0 rfl) ?_
        refine call_Vp (As := [.int (nI i)]) (rest := [.int (nI a)]) S (m_X2_certainNow m0 m1 m2 m3 m4 m5 m6 th n bg tn sl ht sn o nx kp ow i hn hsn hht (by omega)) g_X2_X2_certainNow hd_X2_certainNow ⟨Nat.le_of_ble_eq_true rfl, Nat.le_of_ble_eq_true rfl⟩ ⟨Nat.zero_le _, Nat.zero_le _⟩ hP hD hK hS hZ [0, 1, 2, 3, 4, 5, 6] rfl (by decide) 0 rfl rfl hl.1 rfl (Nat.le_of_ble_eq_true rfl) dX2_many_15 (fun r H locs hq hP hS => ?_)
        obtain rfl := hq
        refine ifB_eq (tgt := 25) hx hb dX2_many_18 (by decide) (fun c_18 => ?_) (fun c_18 => ?_)
        · refine lv_iconst (v := nI 0) hx hb dX2_many_25 (by decide) ?_
          refine lv_iadd hx hb dX2_many_26 ?_
          refine W_i (y := nI (a + 0)) (nI_add _ _) ?_
          refine lv_istore_n (lv' := [(1, .int (nI (a + 0))), (2, .int (nI i)), (0, .ref m0)]) hx hb dX2_many_27 rfl hl (by decide) rfl (fun ls hl => ?_)
          refine lv_iinc (v := nI (i + 1)) (lv' := [(2, .int (nI (i + 1))), (1, .int (nI (a + 0))), (0, .ref m0)]) hx hb dX2_many_28 hl (k := 1) rfl (nI_add _ _) (by decide) rfl (fun ls hl => ?_)
          refine lv_goto (tgt := 4) hx hb dX2_many_31 (by decide) ?_
          exact ih4 (i + 1) _ (by omega) (by omega) (by simp [manyM, ha, c_18]) _ _ hP hD hS _ (lv_sub hl [0, 1, 2] rfl)
        · refine lv_iconst (v := nI 1) hx hb dX2_many_21 (by decide) ?_
          refine lv_goto (tgt := 26) hx hb dX2_many_22 (by decide) ?_
          refine lv_iadd hx hb dX2_many_26 ?_
          refine W_i (y := nI (a + 1)) (nI_add _ _) ?_
          refine lv_istore_n (lv' := [(1, .int (nI (a + 1))), (2, .int (nI i)), (0, .ref m0)]) hx hb dX2_many_27 rfl hl (by decide) rfl (fun ls hl => ?_)
          refine lv_iinc (v := nI (i + 1)) (lv' := [(2, .int (nI (i + 1))), (1, .int (nI (a + 1))), (0, .ref m0)]) hx hb dX2_many_28 hl (k := 1) rfl (nI_add _ _) (by decide) rfl (fun ls hl => ?_)
          refine lv_goto (tgt := 4) hx hb dX2_many_31 (by decide) ?_
          exact ih4 (i + 1) _ (by omega) (by omega) (by simp [manyM, ha, c_18]) _ _ hP hD hS _ (lv_sub hl [0, 1, 2] rfl)
  exact lp4 (n + 1) 0 0 (by omega) (by omega) rfl _ _ hP hD hS _ (lv_sub hl [0, 1, 2] rfl)

def whoM (n tn : Nat) : Int32 := if n = 0 then -1 else nI (tn % n)
set_option maxHeartbeats 4000000 in
set_option maxRecDepth 100000 in
theorem m_X2_whose (m0 m1 m2 m3 m4 m5 m6 th n : Nat) (bg : Bool) (tn sl : Nat) (ht sn : Nat → Nat) (o nx kp : Nat → Bool) (ow : Nat → Nat) (hn : n ≤ 5) (htn : tn < 2 ^ 20) : Mp l yX2_whose ws_X2_whose 0 0 (dC, dI) (tyL cI cZ cJ) [.ref m0] (mW cI cZ m0 m1 m2 m3 m4 m5 m6 th n bg tn sl ht sn o nx kp ow) (fun r => r = whoM n tn) := by
  refine Mi_of (by decide +kernel) (Nat.le_of_ble_eq_true rfl) ?_
  intro pr ev sx mi ag bl me cd Q ls S hP hK hD hZ hl ret
  obtain ⟨hx, hb, hml, hown, hts⟩ := id S
  have hown : sx.vm.findClass RX2 = some mi.cls := hown
  have hS : va_S (wIn (mW cI cZ m0 m1 m2 m3 m4 m5 m6 th n bg tn sl ht sn o nx kp ow)) sx.heap sx.heap [] := va_S.rf
  have hl : lv_has ls 1 [(0, .ref m0)] := hl
  refine lv_aload_n hx hb dX2_whose_0 rfl (lv_at hl 0 rfl) ?_
  refine va_get (D := (dC, dI)) (ci := 2) (v := .int (nI n)) (C := RX2) (T := TX2) (N := 11) hx hb hts inX2 hown hK hP 0 rfl rfl 1 (by decide) (hts _ q_fl_X2_33) (fun _ h9 => h9) rfl dX2_whose_1 ?_
  refine ifN_ne (tgt := 11) hx hb dX2_whose_4 (by decide) (by omega) (fun c_4 => ?_) (fun c_4 => ?_)
  · refine lv_aload_n hx hb dX2_whose_11 rfl (lv_at hl 0 rfl) ?_
    refine va_get (D := (dC, dI)) (ci := 2) (v := .int (nI tn)) (C := RX2) (T := TX2) (N := 11) hx hb hts inX2 hown hK hP 0 rfl rfl 9 (by decide) (hts _ q_fl_X2_105) (fun _ h9 => h9) rfl dX2_whose_12 ?_
    refine lv_aload_n hx hb dX2_whose_15 rfl (lv_at hl 0 rfl) ?_
    refine va_get (D := (dC, dI)) (ci := 2) (v := .int (nI n)) (C := RX2) (T := TX2) (N := 11) hx hb hts inX2 hown hK hP 0 rfl rfl 1 (by decide) (hts _ q_fl_X2_33) (fun _ h9 => h9) rfl dX2_whose_16 ?_
    refine lv_irem hx hb dX2_whose_19 (nI_ne0 (by omega) (by omega)) ?_
    refine W_i (y := nI (tn % n)) (pk_rem (by omega) (by omega) (by omega)) ?_
    exact ret _ (mW cI cZ m0 m1 m2 m3 m4 m5 m6 th n bg tn sl ht sn o nx kp ow) _ _ _ _ dX2_whose_20 rfl ⟨rfl, by rw [whoM, if_neg c_4]⟩ (List.Perm.refl _) hP hS
  · refine lv_iconst (v := (-1)) hx hb dX2_whose_7 (by decide) ?_
    refine lv_goto (tgt := 20) hx hb dX2_whose_8 (by decide) ?_
    exact ret _ (mW cI cZ m0 m1 m2 m3 m4 m5 m6 th n bg tn sl ht sn o nx kp ow) _ _ _ _ dX2_whose_20 rfl ⟨rfl, by rw [whoM, if_pos c_4]⟩ (List.Perm.refl _) hP hS

set_option maxHeartbeats 4000000 in
set_option maxRecDepth 100000 in
theorem m_X2_whose_p (m0 m1 m2 m3 m4 m5 m6 th n : Nat) (bg : Bool) (tn sl : Nat) (ht sn : Nat → Nat) (o nx kp : Nat → Bool) (ow : Nat → Nat) (hn : n ≤ 5) (htn : tn < 2 ^ 20) (h0n : 0 < n) : Mp l yX2_whose ws_X2_whose 0 0 (dC, dI) (tyL cI cZ cJ) [.ref m0] (mW cI cZ m0 m1 m2 m3 m4 m5 m6 th n bg tn sl ht sn o nx kp ow) (fun r => r = nI (tn % n)) := by
  refine Mi_of (by decide +kernel) (Nat.le_of_ble_eq_true rfl) ?_
  intro pr ev sx mi ag bl me cd Q ls S hP hK hD hZ hl ret
  obtain ⟨hx, hb, hml, hown, hts⟩ := id S
  have hown : sx.vm.findClass RX2 = some mi.cls := hown
  have hS : va_S (wIn (mW cI cZ m0 m1 m2 m3 m4 m5 m6 th n bg tn sl ht sn o nx kp ow)) sx.heap sx.heap [] := va_S.rf
  have hl : lv_has ls 1 [(0, .ref m0)] := hl
  refine lv_aload_n hx hb dX2_whose_0 rfl (lv_at hl 0 rfl) ?_
  refine va_get (D := (dC, dI)) (ci := 2) (v := .int (nI n)) (C := RX2) (T := TX2) (N := 11) hx hb hts inX2 hown hK hP 0 rfl rfl 1 (by decide) (hts _ q_fl_X2_33) (fun _ h9 => h9) rfl dX2_whose_1 ?_
  refine ifN_ne (tgt := 11) hx hb dX2_whose_4 (by decide) (by omega) (fun c_4 => ?_) (fun c_4 => absurd c_4 (by omega))
  refine lv_aload_n hx hb dX2_whose_11 rfl (lv_at hl 0 rfl) ?_
  refine va_get (D := (dC, dI)) (ci := 2) (v := .int (nI tn)) (C := RX2) (T := TX2) (N := 11) hx hb hts inX2 hown hK hP 0 rfl rfl 9 (by decide) (hts _ q_fl_X2_105) (fun _ h9 => h9) rfl dX2_whose_12 ?_
  refine lv_aload_n hx hb dX2_whose_15 rfl (lv_at hl 0 rfl) ?_
  refine va_get (D := (dC, dI)) (ci := 2) (v := .int (nI n)) (C := RX2) (T := TX2) (N := 11) hx hb hts inX2 hown hK hP 0 rfl rfl 1 (by decide) (hts _ q_fl_X2_33) (fun _ h9 => h9) rfl dX2_whose_16 ?_
  refine lv_irem hx hb dX2_whose_19 (nI_ne0 (by omega) (by omega)) ?_
  refine W_i (y := nI (tn % n)) (pk_rem (by omega) (by omega) (by omega)) ?_
  exact ret _ (mW cI cZ m0 m1 m2 m3 m4 m5 m6 th n bg tn sl ht sn o nx kp ow) _ _ _ _ dX2_whose_20 rfl ⟨rfl, rfl⟩ (List.Perm.refl _) hP hS

theorem cntP_congr {P P2 : Nat → Bool} : ∀ {i : Nat}, (∀ w, w < i → P w = P2 w) → cntP P i = cntP P2 i
  | 0, _ => rfl
  | i + 1, h => by rw [cntP, cntP, cntP_congr (fun w hw => h w (by omega)), h i (by omega)]
theorem mod5 {a n : Nat} (h0 : 0 < n) (hn : n ≤ 5) : a % n < 5 := Nat.lt_of_lt_of_le (Nat.mod_lt _ h0) hn
set_option maxHeartbeats 4000000 in
set_option maxRecDepth 100000 in
theorem m_X2_after_0 (m0 m1 m2 m3 m4 m5 m6 th n : Nat) (bg : Bool) (tn sl : Nat) (ht sn : Nat → Nat) (o nx kp : Nat → Bool) (ow : Nat → Nat) (hn : n ≤ 5) (hsn : ∀ p, p < 5 → sn p < 32) (hht : ∀ p, p < 5 → ht p < 3) (h0n : n = 0) : Mi l yX2_after ws_X2_after 0 0 (dC, dI) (tyL cI cZ cJ) [.ref m0] (mW cI cZ m0 m1 m2 m3 m4 m5 m6 th n bg tn sl ht sn o nx kp ow) (fun r u => r = nI 0 ∧ u = mW cI cZ m0 m1 m2 m3 m4 m5 m6 th n bg tn sl ht sn o nx kp ow) := by
  refine Mi_of (by decide +kernel) (Nat.le_of_ble_eq_true rfl) ?_
  intro pr ev sx mi ag bl me cd Q ls S hP hK hD hZ hl ret
  obtain ⟨hx, hb, hml, hown, hts⟩ := id S
  have hown : sx.vm.findClass RX2 = some mi.cls := hown
  have hS : va_S (wIn (mW cI cZ m0 m1 m2 m3 m4 m5 m6 th n bg tn sl ht sn o nx kp ow)) sx.heap sx.heap [] := va_S.rf
  have hl : lv_has ls 2 [(0, .ref m0)] := hl
  refine lv_aload_n hx hb dX2_after_0 rfl (lv_at hl 0 rfl) ?_
  refine va_get (D := (dC, dI)) (ci := 2) (v := .int (nI n)) (C := RX2) (T := TX2) (N := 11) hx hb hts inX2 hown hK hP 0 rfl rfl 1 (by decide) (hts _ q_fl_X2_33) (fun _ h9 => h9) rfl dX2_after_1 ?_
  refine ifN_ne (tgt := 9) hx hb dX2_after_4 (by decide) (by omega) (fun c_4 => absurd c_4 (fun q => q h0n)) (fun c_4 => ?_)
  refine lv_iconst (v := nI 0) hx hb dX2_after_7 (by decide) ?_
  exact ret _ (mW cI cZ m0 m1 m2 m3 m4 m5 m6 th n bg tn sl ht sn o nx kp ow) _ _ _ _ dX2_after_8 rfl ⟨rfl, rfl⟩ (List.Perm.refl _) hP hS

set_option maxHeartbeats 4000000 in
set_option maxRecDepth 100000 in
theorem m_X2_after_p (m0 m1 m2 m3 m4 m5 m6 th n : Nat) (bg : Bool) (tn sl : Nat) (ht sn : Nat → Nat) (o nx kp : Nat → Bool) (ow : Nat → Nat) (hn : n ≤ 5) (hsn : ∀ p, p < 5 → sn p < 32) (hht : ∀ p, p < 5 → ht p < 3) (htn : tn < 2 ^ 20) (h0n : 0 < n) : Mi l yX2_after ws_X2_after 4 94 (dC, dI) (tyL cI cZ cJ) [.ref m0] (mW cI cZ m0 m1 m2 m3 m4 m5 m6 th n bg tn sl ht sn o nx kp ow) (fun r u => r = nI (cntP (turnM sn o n (tn % n) (realN ht n)) (3 ^ n)) ∧ ∃ (nx2 : Nat → Bool) (ow2 : Nat → Nat), u = mW cI cZ m0 m1 m2 m4 m3 m5 m6 th n bg tn sl ht sn o nx2 o ow2) := by
  refine Mi_of (by decide +kernel) (Nat.le_of_ble_eq_true rfl) ?_
  intro pr ev sx mi ag bl me cd Q ls S hP hK hD hZ hl ret
  obtain ⟨hx, hb, hml, hown, hts⟩ := id S
  have hown : sx.vm.findClass RX2 = some mi.cls := hown
  have hS : va_S (wIn (mW cI cZ m0 m1 m2 m3 m4 m5 m6 th n bg tn sl ht sn o nx kp ow)) sx.heap sx.heap [] := va_S.rf
  have hl : lv_has ls 2 [(0, .ref m0)] := hl
  have h3 := p3_243 n hn; have h30 := p3_0 n
  have hre : realN ht n < 3 ^ n := realN_lt n (fun p hp => hht p (by omega))
  refine lv_aload_n hx hb dX2_after_0 rfl (lv_at hl 0 rfl) ?_
  refine va_get (D := (dC, dI)) (ci := 2) (v := .int (nI n)) (C := RX2) (T := TX2) (N := 11) hx hb hts inX2 hown hK hP 0 rfl rfl 1 (by decide) (hts _ q_fl_X2_33) (fun _ h9 => h9) rfl dX2_after_1 ?_
  refine ifN_ne (tgt := 9) hx hb dX2_after_4 (by decide) (by omega) (fun c_4 => ?_) (fun c_4 => absurd c_4 (by omega))
  refine lv_aload_n hx hb dX2_after_9 rfl (lv_at hl 0 rfl) ?_
  refine call_Vv (As := []) (wr := []) (rest := []) S (m_X2_keep m0 m1 m2 m3 m4 m5 m6 th n bg tn sl ht sn o nx kp ow  ) g_X2_X2_keep hd_X2_keep ⟨Nat.le_of_ble_eq_true rfl, Nat.le_of_ble_eq_true rfl⟩ ⟨Nat.zero_le _, Nat.zero_le _⟩ hP hD hK hS hZ [0, 1, 2, 3, 4, 5, 6] [] rfl rfl (by decide) 0 rfl rfl hl.1 rfl (Nat.le_of_ble_eq_true rfl) dX2_after_10 (fun u H locs hq hP hD hS => ?_)
  obtain rfl := hq
  have hP : va_P (dC, dI) vwCl (mW cI cZ m0 m1 m2 m3 m4 m5 m6 th n bg tn sl ht sn o nx o ow) H := hP
  have hD : va_D (wIn (mW cI cZ m0 m1 m2 m3 m4 m5 m6 th n bg tn sl ht sn o nx kp ow)) (mW cI cZ m0 m1 m2 m3 m4 m5 m6 th n bg tn sl ht sn o nx o ow) := hD
  refine lv_aload_n hx hb dX2_after_13 rfl (lv_at hl 0 rfl) ?_
  refine lv_aload_n hx hb dX2_after_14 rfl (lv_at hl 0 rfl) ?_
  refine call_Vp (As := []) (rest := [.ref m0]) S (m_X2_whose_p m0 m1 m2 m3 m4 m5 m6 th n bg tn sl ht sn o nx o ow hn htn (by omega)) g_X2_X2_whose hd_X2_whose ⟨Nat.le_of_ble_eq_true rfl, Nat.le_of_ble_eq_true rfl⟩ ⟨Nat.zero_le _, Nat.zero_le _⟩ hP hD hK hS hZ [0, 1, 2, 3, 4, 5, 6] rfl (by decide) 0 rfl rfl hl.1 rfl (Nat.le_of_ble_eq_true rfl) dX2_after_15 (fun r H locs hq hP hS => ?_)
  obtain rfl := hq
  refine lv_aload_n hx hb dX2_after_18 rfl (lv_at hl 0 rfl) ?_
  refine call_Vp (As := []) (rest := [.int (nI (tn % n)), .ref m0]) S (m_X2_real m0 m1 m2 m3 m4 m5 m6 th n bg tn sl ht sn o nx o ow  hn) g_X2_X2_real hd_X2_real ⟨Nat.le_of_ble_eq_true rfl, Nat.le_of_ble_eq_true rfl⟩ ⟨Nat.zero_le _, Nat.zero_le _⟩ hP hD hK hS hZ [0, 1, 2, 3, 4, 5, 6] rfl (by decide) 0 rfl rfl hl.1 rfl (Nat.le_of_ble_eq_true rfl) dX2_after_19 (fun r H locs hq hP hS => ?_)
  obtain rfl := hq
  refine call_Vi (As := [.int (nI (tn % n)), .int (nI (realN ht n))]) (wr := []) (rest := []) S (m_X2_turn m0 m1 m2 m3 m4 m5 m6 th n bg tn sl ht sn o nx o ow (tn % n) (realN ht n) hn hsn (mod5 h0n hn) (by omega)) g_X2_X2_turn hd_X2_turn ⟨Nat.le_of_ble_eq_true rfl, Nat.le_of_ble_eq_true rfl⟩ ⟨Nat.zero_le _, Nat.zero_le _⟩ hP hD hK hS hZ [0, 1, 2, 3, 4, 5, 6] [] rfl rfl (by decide) 0 rfl rfl hl.1 rfl (Nat.le_of_ble_eq_true rfl) dX2_after_22 (fun r u H locs hq hP hD hS => ?_)
  obtain ⟨rfl, rfl⟩ := hq
  have hP : va_P (dC, dI) vwCl (mW cI cZ m0 m1 m2 m4 m3 m5 m6 th n bg tn sl ht sn (mix (turnM sn o n (tn % n) (realN ht n)) nx (3 ^ n)) o o (lookF sn (tn % n) o n ow (3 ^ n))) H := hP
  have hD : va_D (wIn (mW cI cZ m0 m1 m2 m3 m4 m5 m6 th n bg tn sl ht sn o nx kp ow)) (mW cI cZ m0 m1 m2 m4 m3 m5 m6 th n bg tn sl ht sn (mix (turnM sn o n (tn % n) (realN ht n)) nx (3 ^ n)) o o (lookF sn (tn % n) o n ow (3 ^ n))) := hD
  refine lv_pop hx hb dX2_after_25 rfl ?_
  refine lv_aload_n hx hb dX2_after_26 rfl (lv_at hl 0 rfl) ?_
  refine call_Vp (As := []) (rest := []) S (m_X2_openNow m0 m1 m2 m4 m3 m5 m6 th n bg tn sl ht sn (mix (turnM sn o n (tn % n) (realN ht n)) nx (3 ^ n)) o o (lookF sn (tn % n) o n ow (3 ^ n))  hn) g_X2_X2_openNow hd_X2_openNow ⟨Nat.le_of_ble_eq_true rfl, Nat.le_of_ble_eq_true rfl⟩ ⟨Nat.zero_le _, Nat.zero_le _⟩ hP hD hK hS hZ [0, 1, 2, 3, 4, 5, 6] rfl (by decide) 0 rfl rfl hl.1 rfl (Nat.le_of_ble_eq_true rfl) dX2_after_27 (fun r H locs hq hP hS => ?_)
  obtain rfl := hq
  refine lv_istore_n (lv' := [(1, .int (nI (cntP (mix (turnM sn o n (tn % n) (realN ht n)) nx (3 ^ n)) (3 ^ n)))), (0, .ref m0)]) hx hb dX2_after_30 rfl hl (by decide) rfl (fun ls hl => ?_)
  refine lv_aload_n hx hb dX2_after_31 rfl (lv_at hl 1 rfl) ?_
  refine call_Vv (As := []) (wr := []) (rest := []) S (m_X2_bringBack m0 m1 m2 m4 m3 m5 m6 th n bg tn sl ht sn (mix (turnM sn o n (tn % n) (realN ht n)) nx (3 ^ n)) o o (lookF sn (tn % n) o n ow (3 ^ n))  ) g_X2_X2_bringBack hd_X2_bringBack ⟨Nat.le_of_ble_eq_true rfl, Nat.le_of_ble_eq_true rfl⟩ ⟨Nat.zero_le _, Nat.zero_le _⟩ hP hD hK hS hZ [0, 1, 2, 3, 4, 5, 6] [] rfl rfl (by decide) 0 rfl rfl hl.1 rfl (Nat.le_of_ble_eq_true rfl) dX2_after_32 (fun u H locs hq hP hD hS => ?_)
  obtain rfl := hq
  have hP : va_P (dC, dI) vwCl (mW cI cZ m0 m1 m2 m4 m3 m5 m6 th n bg tn sl ht sn o o o (lookF sn (tn % n) o n ow (3 ^ n))) H := hP
  have hD : va_D (wIn (mW cI cZ m0 m1 m2 m3 m4 m5 m6 th n bg tn sl ht sn o nx kp ow)) (mW cI cZ m0 m1 m2 m4 m3 m5 m6 th n bg tn sl ht sn o o o (lookF sn (tn % n) o n ow (3 ^ n))) := hD
  refine lv_iload_n hx hb dX2_after_35 rfl (lv_at hl 0 rfl) ?_
  exact ret _ (mW cI cZ m0 m1 m2 m4 m3 m5 m6 th n bg tn sl ht sn o o o (lookF sn (tn % n) o n ow (3 ^ n))) _ _ _ _ dX2_after_36 rfl ⟨by rw [cntP_congr (fun w hw => mix_lt hw)], _, _, rfl⟩ (mW_swap _ _ _ _ _ _ _) hP hS

theorem find_eq {f : Nat → Bool} {v : Option Nat} {i : Nat} (h : v = findF f (41 - i) i) (hi : i ≤ 40) (hf : f i = true) : nI i = oI v := by rw [find_t h hi hf]; rfl
theorem find_ne {f : Nat → Bool} {v : Option Nat} {i : Nat} (h : v = findF f (41 - i) i) (hi : i = 41) : (-1 : Int32) = oI v := by rw [find_n h hi]; rfl
set_option maxHeartbeats 4000000 in
set_option maxRecDepth 100000 in
theorem m_X2_until_1 (m0 m1 m2 m3 m4 m5 m6 th n : Nat) (bg : Bool) (tn sl : Nat) (ht sn : Nat → Nat) (o nx kp : Nat → Bool) (ow : Nat → Nat) (j : Nat) (hj : j < n) (hn : n ≤ 5) (hsn : ∀ p, p < 5 → sn p < 32) (hht : ∀ p, p < 5 → ht p < 3) (htn : tn < 2 ^ 20) : Mi l yX2_until ws_X2_until 4 94 (dC, dI) (tyL cI cZ cJ) [.ref m0, .int (nI j)] (mW cI cZ m0 m1 m2 m3 m4 m5 m6 th n bg tn sl ht sn o nx kp ow) (fun r u => r = oI (findF (fun i => certM sn ht (seqM sn n (realN ht n) tn o nx i).1 n j) 41 0) ∧ ∃ (a b : Nat) (nx2 : Nat → Bool) (ow2 : Nat → Nat), ((a = m3 ∧ b = m4) ∨ (a = m4 ∧ b = m3)) ∧ u = mW cI cZ m0 m1 m2 a b m5 m6 th n bg tn sl ht sn o nx2 o ow2) := by
  refine Mi_of (by decide +kernel) (Nat.le_of_ble_eq_true rfl) ?_
  intro pr ev sx mi ag bl me cd Q ls S hP hK hD hZ hl ret
  obtain ⟨hx, hb, hml, hown, hts⟩ := id S
  have hown : sx.vm.findClass RX2 = some mi.cls := hown
  have hS : va_S (wIn (mW cI cZ m0 m1 m2 m3 m4 m5 m6 th n bg tn sl ht sn o nx kp ow)) sx.heap sx.heap [] := va_S.rf
  have hl : lv_has ls 4 [(0, .ref m0), (1, .int (nI j))] := hl
  have h3 := p3_243 n hn; have h30 := p3_0 n
  have hre : realN ht n < 3 ^ n := realN_lt n (fun p hp => hht p (by omega))
  refine lv_aload_n hx hb dX2_until_0 rfl (lv_at hl 0 rfl) ?_
  refine call_Vp (As := []) (rest := []) S (m_X2_real m0 m1 m2 m3 m4 m5 m6 th n bg tn sl ht sn o nx kp ow  hn) g_X2_X2_real hd_X2_real ⟨Nat.le_of_ble_eq_true rfl, Nat.le_of_ble_eq_true rfl⟩ ⟨Nat.zero_le _, Nat.zero_le _⟩ hP hD hK hS hZ [0, 1, 2, 3, 4, 5, 6] rfl (by decide) 0 rfl rfl hl.1 rfl (Nat.le_of_ble_eq_true rfl) dX2_until_1 (fun r H locs hq hP hS => ?_)
  obtain rfl := hq
  refine lv_istore_n (lv' := [(2, .int (nI (realN ht n))), (0, .ref m0), (1, .int (nI j))]) hx hb dX2_until_4 rfl hl (by decide) rfl (fun ls hl => ?_)
  refine lv_aload_n hx hb dX2_until_5 rfl (lv_at hl 1 rfl) ?_
  refine call_Vv (As := []) (wr := []) (rest := []) S (m_X2_keep m0 m1 m2 m3 m4 m5 m6 th n bg tn sl ht sn o nx kp ow  ) g_X2_X2_keep hd_X2_keep ⟨Nat.le_of_ble_eq_true rfl, Nat.le_of_ble_eq_true rfl⟩ ⟨Nat.zero_le _, Nat.zero_le _⟩ hP hD hK hS hZ [0, 1, 2, 3, 4, 5, 6] [] rfl rfl (by decide) 0 rfl rfl hl.1 rfl (Nat.le_of_ble_eq_true rfl) dX2_until_6 (fun u H locs hq hP hD hS => ?_)
  obtain rfl := hq
  have hP : va_P (dC, dI) vwCl (mW cI cZ m0 m1 m2 m3 m4 m5 m6 th n bg tn sl ht sn o nx o ow) H := hP
  have hD : va_D (wIn (mW cI cZ m0 m1 m2 m3 m4 m5 m6 th n bg tn sl ht sn o nx kp ow)) (mW cI cZ m0 m1 m2 m3 m4 m5 m6 th n bg tn sl ht sn o nx o ow) := hD
  refine lv_iconst (v := nI 0) hx hb dX2_until_9 (by decide) ?_
  refine lv_istore_n (lv' := [(3, .int (nI 0)), (2, .int (nI (realN ht n))), (0, .ref m0), (1, .int (nI j))]) hx hb dX2_until_10 rfl hl (by decide) rfl (fun ls hl => ?_)
  have lp11 : ∀ (kf : Nat) (i : Nat) (a : Nat) (b : Nat) (g : Nat → Bool) (g2 : Nat → Bool) (gw : Nat → Nat), 41 < i + kf → (i ≤ 41) → ((a = m3 ∧ b = m4) ∨ (a = m4 ∧ b = m3)) → (g = (seqM sn n (realN ht n) tn o nx i).1) → (g2 = (seqM sn n (realN ht n) tn o nx i).2) → (findF (fun i => certM sn ht (seqM sn n (realN ht n) tn o nx i).1 n j) 41 0 = findF (fun i => certM sn ht (seqM sn n (realN ht n) tn o nx i).1 n j) (41 - i) i) → ∀ (H : Heap) (locs : List Loc), va_P (dC, dI) vwCl (mW cI cZ m0 m1 m2 a b m5 m6 th n bg tn sl ht sn g g2 o gw) H → va_D (wIn (mW cI cZ m0 m1 m2 m3 m4 m5 m6 th n bg tn sl ht sn o nx kp ow)) (mW cI cZ m0 m1 m2 a b m5 m6 th n bg tn sl ht sn g g2 o gw) → va_S (wIn (mW cI cZ m0 m1 m2 m3 m4 m5 m6 th n bg tn sl ht sn o nx kp ow)) sx.heap H locs → ∀ ls : Array Slot, lv_has ls 4 [(3, .int (nI i)), (2, .int (nI (realN ht n))), (0, .ref m0), (1, .int (nI j))] → W pr l ev (rmB 4 94) sx mi ag bl me cd H locs 0 0 Q (F0 mi 11 ls []) := by
    intro kf
    induction kf with
    | zero => intro i a b g g2 gw hkf hi41 hab hg hg2 hv; exact absurd hkf (by omega)
    | succ kf ih11 =>
      intro i a b g g2 gw hkf hi41 hab hg hg2 hv H locs hP hD hS ls hl
      refine lv_iload_n hx hb dX2_until_11 rfl (lv_at hl 0 rfl) ?_
      refine lv_bipush (v := nI 40) hx hb dX2_until_12 (by decide) ?_
      refine icN_gt (tgt := 67) hx hb dX2_until_14 (by decide) (by omega) (by omega) (fun c_14 => ?_) (fun c_14 => ?_)
      · refine lv_aload_n hx hb dX2_until_67 rfl (lv_at hl 2 rfl) ?_
        refine call_Vv (As := []) (wr := []) (rest := []) S (m_X2_bringBack m0 m1 m2 a b m5 m6 th n bg tn sl ht sn g g2 o gw  ) g_X2_X2_bringBack hd_X2_bringBack ⟨Nat.le_of_ble_eq_true rfl, Nat.le_of_ble_eq_true rfl⟩ ⟨Nat.zero_le _, Nat.zero_le _⟩ hP hD hK hS hZ [0, 1, 2, 3, 4, 5, 6] [] rfl rfl (by decide) 0 rfl rfl hl.1 rfl (Nat.le_of_ble_eq_true rfl) dX2_until_68 (fun u H locs hq hP hD hS => ?_)
        obtain rfl := hq
        have hP : va_P (dC, dI) vwCl (mW cI cZ m0 m1 m2 a b m5 m6 th n bg tn sl ht sn o g2 o gw) H := hP
        have hD : va_D (wIn (mW cI cZ m0 m1 m2 m3 m4 m5 m6 th n bg tn sl ht sn o nx kp ow)) (mW cI cZ m0 m1 m2 a b m5 m6 th n bg tn sl ht sn o g2 o gw) := hD
        refine lv_iload_n hx hb dX2_until_71 rfl (lv_at hl 0 rfl) ?_
        refine lv_bipush (v := nI 40) hx hb dX2_until_72 (by decide) ?_
        refine icN_le (tgt := 81) hx hb dX2_until_74 (by decide) (by omega) (by omega) (fun c_74 => absurd c_74 (by omega)) (fun c_74 => ?_)
        refine lv_iconst (v := (-1)) hx hb dX2_until_77 (by decide) ?_
        refine lv_goto (tgt := 82) hx hb dX2_until_78 (by decide) ?_
        exact ret _ (mW cI cZ m0 m1 m2 a b m5 m6 th n bg tn sl ht sn o g2 o gw) _ _ _ _ dX2_until_82 rfl ⟨find_ne hv (by omega), a, b, _, _, hab, rfl⟩ (ab_perm hab) hP hS
      · refine lv_iload_n hx hb dX2_until_17 rfl (lv_at hl 3 rfl) ?_
        refine lv_iconst (v := (-1)) hx hb dX2_until_18 (by decide) ?_
        refine lv_icmp_ne (tgt := 36) hx hb dX2_until_19 (by decide) (fun c_19 => ?_) (fun c_19 => absurd c_19 (nI_m1 (by omega)))
        refine lv_aload_n hx hb dX2_until_36 rfl (lv_at hl 2 rfl) ?_
        refine lv_iload_n hx hb dX2_until_37 rfl (lv_at hl 3 rfl) ?_
        refine call_Vp (As := [.int (nI j)]) (rest := []) S (m_X2_certainNow m0 m1 m2 a b m5 m6 th n bg tn sl ht sn g g2 o gw j hn hsn hht (by omega)) g_X2_X2_certainNow hd_X2_certainNow ⟨Nat.le_of_ble_eq_true rfl, Nat.le_of_ble_eq_true rfl⟩ ⟨Nat.zero_le _, Nat.zero_le _⟩ hP hD hK hS hZ [0, 1, 2, 3, 4, 5, 6] rfl (by decide) 0 rfl rfl hl.1 rfl (Nat.le_of_ble_eq_true rfl) dX2_until_38 (fun r H locs hq hP hS => ?_)
        obtain rfl := hq
        refine ifB_ne (tgt := 67) hx hb dX2_until_41 (by decide) (fun c_41 => ?_) (fun c_41 => ?_)
        · have hC := c_41
          refine lv_aload_n hx hb dX2_until_67 rfl (lv_at hl 2 rfl) ?_
          refine call_Vv (As := []) (wr := []) (rest := []) S (m_X2_bringBack m0 m1 m2 a b m5 m6 th n bg tn sl ht sn g g2 o gw  ) g_X2_X2_bringBack hd_X2_bringBack ⟨Nat.le_of_ble_eq_true rfl, Nat.le_of_ble_eq_true rfl⟩ ⟨Nat.zero_le _, Nat.zero_le _⟩ hP hD hK hS hZ [0, 1, 2, 3, 4, 5, 6] [] rfl rfl (by decide) 0 rfl rfl hl.1 rfl (Nat.le_of_ble_eq_true rfl) dX2_until_68 (fun u H locs hq hP hD hS => ?_)
          obtain rfl := hq
          have hP : va_P (dC, dI) vwCl (mW cI cZ m0 m1 m2 a b m5 m6 th n bg tn sl ht sn o g2 o gw) H := hP
          have hD : va_D (wIn (mW cI cZ m0 m1 m2 m3 m4 m5 m6 th n bg tn sl ht sn o nx kp ow)) (mW cI cZ m0 m1 m2 a b m5 m6 th n bg tn sl ht sn o g2 o gw) := hD
          refine lv_iload_n hx hb dX2_until_71 rfl (lv_at hl 0 rfl) ?_
          refine lv_bipush (v := nI 40) hx hb dX2_until_72 (by decide) ?_
          refine icN_le (tgt := 81) hx hb dX2_until_74 (by decide) (by omega) (by omega) (fun c_74 => ?_) (fun c_74 => absurd c_74 (by omega))
          refine lv_iload_n hx hb dX2_until_81 rfl (lv_at hl 0 rfl) ?_
          exact ret _ (mW cI cZ m0 m1 m2 a b m5 m6 th n bg tn sl ht sn o g2 o gw) _ _ _ _ dX2_until_82 rfl ⟨find_eq hv (by omega) (by rw [← hg]; exact hC), a, b, _, _, hab, rfl⟩ (ab_perm hab) hP hS
        · have hC := c_41
          refine lv_aload_n hx hb dX2_until_44 rfl (lv_at hl 2 rfl) ?_
          refine lv_aload_n hx hb dX2_until_45 rfl (lv_at hl 2 rfl) ?_
          refine va_get (D := (dC, dI)) (ci := 2) (v := .int (nI tn)) (C := RX2) (T := TX2) (N := 11) hx hb hts inX2 hown hK hP 0 rfl rfl 9 (by decide) (hts _ q_fl_X2_105) (fun _ h9 => h9) rfl dX2_until_46 ?_
          refine lv_iload_n hx hb dX2_until_49 rfl (lv_at hl 0 rfl) ?_
          refine lv_iadd hx hb dX2_until_50 ?_
          refine W_i (y := nI (tn + i)) (nI_add _ _) ?_
          refine lv_aload_n hx hb dX2_until_51 rfl (lv_at hl 2 rfl) ?_
          refine va_get (D := (dC, dI)) (ci := 2) (v := .int (nI n)) (C := RX2) (T := TX2) (N := 11) hx hb hts inX2 hown hK hP 0 rfl rfl 1 (by decide) (hts _ q_fl_X2_33) (fun _ h9 => h9) rfl dX2_until_52 ?_
          refine lv_irem hx hb dX2_until_55 (nI_ne0 (by omega) (by omega)) ?_
          refine W_i (y := nI ((tn + i) % n)) (pk_rem (by omega) (by omega) (by omega)) ?_
          refine lv_iload_n hx hb dX2_until_56 rfl (lv_at hl 1 rfl) ?_
          refine call_Vi (As := [.int (nI ((tn + i) % n)), .int (nI (realN ht n))]) (wr := []) (rest := []) S (m_X2_turn m0 m1 m2 a b m5 m6 th n bg tn sl ht sn g g2 o gw ((tn + i) % n) (realN ht n) hn hsn (mod5 (by omega) hn) (by omega)) g_X2_X2_turn hd_X2_turn ⟨Nat.le_of_ble_eq_true rfl, Nat.le_of_ble_eq_true rfl⟩ ⟨Nat.zero_le _, Nat.zero_le _⟩ hP hD hK hS hZ [0, 1, 2, 3, 4, 5, 6] [] rfl rfl (by decide) 0 rfl rfl hl.1 rfl (Nat.le_of_ble_eq_true rfl) dX2_until_57 (fun r u H locs hq hP hD hS => ?_)
          obtain ⟨rfl, rfl⟩ := hq
          have hP : va_P (dC, dI) vwCl (mW cI cZ m0 m1 m2 b a m5 m6 th n bg tn sl ht sn (mix (turnM sn g n ((tn + i) % n) (realN ht n)) g2 (3 ^ n)) g o (lookF sn ((tn + i) % n) g n gw (3 ^ n))) H := hP
          have hD : va_D (wIn (mW cI cZ m0 m1 m2 m3 m4 m5 m6 th n bg tn sl ht sn o nx kp ow)) (mW cI cZ m0 m1 m2 b a m5 m6 th n bg tn sl ht sn (mix (turnM sn g n ((tn + i) % n) (realN ht n)) g2 (3 ^ n)) g o (lookF sn ((tn + i) % n) g n gw (3 ^ n))) := hD
          refine lv_pop hx hb dX2_until_60 rfl ?_
          refine lv_iinc (v := nI (i + 1)) (lv' := [(3, .int (nI (i + 1))), (2, .int (nI (realN ht n))), (0, .ref m0), (1, .int (nI j))]) hx hb dX2_until_61 hl (k := 0) rfl (nI_add _ _) (by decide) rfl (fun ls hl => ?_)
          refine lv_goto (tgt := 11) hx hb dX2_until_64 (by decide) ?_
          exact ih11 (i + 1) b a _ _ _ (by omega) (by omega) (hab.elim (fun z => Or.inr ⟨z.2, z.1⟩) (fun z => Or.inl ⟨z.2, z.1⟩)) (by rw [hg, hg2]; rfl) (by rw [hg]; rfl) (find_s hv (by omega) (by show certM sn ht (seqM sn n (realN ht n) tn o nx i).1 n j = false; rw [← hg]; exact hC)) _ _ hP hD hS _ (lv_sub hl [0, 1, 2, 3] rfl)
  exact lp11 42 0 m3 m4 o nx ow (by omega) (by omega) (Or.inl ⟨rfl, rfl⟩) rfl rfl rfl _ _ hP hD hS _ (lv_sub hl [0, 1, 2, 3] rfl)

set_option maxHeartbeats 4000000 in
set_option maxRecDepth 100000 in
theorem m_X2_until_a (m0 m1 m2 m3 m4 m5 m6 th n : Nat) (bg : Bool) (tn sl : Nat) (ht sn : Nat → Nat) (o nx kp : Nat → Bool) (ow : Nat → Nat)  (hn : n ≤ 5) (hsn : ∀ p, p < 5 → sn p < 32) (hht : ∀ p, p < 5 → ht p < 3) (htn : tn < 2 ^ 20) : Mi l yX2_until ws_X2_until 5 116 (dC, dI) (tyL cI cZ cJ) [.ref m0, .int (-1)] (mW cI cZ m0 m1 m2 m3 m4 m5 m6 th n bg tn sl ht sn o nx kp ow) (fun r u => r = oI (findF (fun i => (manyM sn ht (seqM sn n (realN ht n) tn o nx i).1 n n == n)) 41 0) ∧ ∃ (a b : Nat) (nx2 : Nat → Bool) (ow2 : Nat → Nat), ((a = m3 ∧ b = m4) ∨ (a = m4 ∧ b = m3)) ∧ u = mW cI cZ m0 m1 m2 a b m5 m6 th n bg tn sl ht sn o nx2 o ow2) := by
  refine Mi_of (by decide +kernel) (Nat.le_of_ble_eq_true rfl) ?_
  intro pr ev sx mi ag bl me cd Q ls S hP hK hD hZ hl ret
  obtain ⟨hx, hb, hml, hown, hts⟩ := id S
  have hown : sx.vm.findClass RX2 = some mi.cls := hown
  have hS : va_S (wIn (mW cI cZ m0 m1 m2 m3 m4 m5 m6 th n bg tn sl ht sn o nx kp ow)) sx.heap sx.heap [] := va_S.rf
  have hl : lv_has ls 4 [(0, .ref m0), (1, .int (-1))] := hl
  have h3 := p3_243 n hn; have h30 := p3_0 n
  have hre : realN ht n < 3 ^ n := realN_lt n (fun p hp => hht p (by omega))
  refine lv_aload_n hx hb dX2_until_0 rfl (lv_at hl 0 rfl) ?_
  refine call_Vp (As := []) (rest := []) S (m_X2_real m0 m1 m2 m3 m4 m5 m6 th n bg tn sl ht sn o nx kp ow  hn) g_X2_X2_real hd_X2_real ⟨Nat.le_of_ble_eq_true rfl, Nat.le_of_ble_eq_true rfl⟩ ⟨Nat.zero_le _, Nat.zero_le _⟩ hP hD hK hS hZ [0, 1, 2, 3, 4, 5, 6] rfl (by decide) 0 rfl rfl hl.1 rfl (Nat.le_of_ble_eq_true rfl) dX2_until_1 (fun r H locs hq hP hS => ?_)
  obtain rfl := hq
  refine lv_istore_n (lv' := [(2, .int (nI (realN ht n))), (0, .ref m0), (1, .int (-1))]) hx hb dX2_until_4 rfl hl (by decide) rfl (fun ls hl => ?_)
  refine lv_aload_n hx hb dX2_until_5 rfl (lv_at hl 1 rfl) ?_
  refine call_Vv (As := []) (wr := []) (rest := []) S (m_X2_keep m0 m1 m2 m3 m4 m5 m6 th n bg tn sl ht sn o nx kp ow  ) g_X2_X2_keep hd_X2_keep ⟨Nat.le_of_ble_eq_true rfl, Nat.le_of_ble_eq_true rfl⟩ ⟨Nat.zero_le _, Nat.zero_le _⟩ hP hD hK hS hZ [0, 1, 2, 3, 4, 5, 6] [] rfl rfl (by decide) 0 rfl rfl hl.1 rfl (Nat.le_of_ble_eq_true rfl) dX2_until_6 (fun u H locs hq hP hD hS => ?_)
  obtain rfl := hq
  have hP : va_P (dC, dI) vwCl (mW cI cZ m0 m1 m2 m3 m4 m5 m6 th n bg tn sl ht sn o nx o ow) H := hP
  have hD : va_D (wIn (mW cI cZ m0 m1 m2 m3 m4 m5 m6 th n bg tn sl ht sn o nx kp ow)) (mW cI cZ m0 m1 m2 m3 m4 m5 m6 th n bg tn sl ht sn o nx o ow) := hD
  refine lv_iconst (v := nI 0) hx hb dX2_until_9 (by decide) ?_
  refine lv_istore_n (lv' := [(3, .int (nI 0)), (2, .int (nI (realN ht n))), (0, .ref m0), (1, .int (-1))]) hx hb dX2_until_10 rfl hl (by decide) rfl (fun ls hl => ?_)
  have lp11 : ∀ (kf : Nat) (i : Nat) (a : Nat) (b : Nat) (g : Nat → Bool) (g2 : Nat → Bool) (gw : Nat → Nat), 41 < i + kf → (i ≤ 41) → ((a = m3 ∧ b = m4) ∨ (a = m4 ∧ b = m3)) → (g = (seqM sn n (realN ht n) tn o nx i).1) → (g2 = (seqM sn n (realN ht n) tn o nx i).2) → (findF (fun i => (manyM sn ht (seqM sn n (realN ht n) tn o nx i).1 n n == n)) 41 0 = findF (fun i => (manyM sn ht (seqM sn n (realN ht n) tn o nx i).1 n n == n)) (41 - i) i) → ∀ (H : Heap) (locs : List Loc), va_P (dC, dI) vwCl (mW cI cZ m0 m1 m2 a b m5 m6 th n bg tn sl ht sn g g2 o gw) H → va_D (wIn (mW cI cZ m0 m1 m2 m3 m4 m5 m6 th n bg tn sl ht sn o nx kp ow)) (mW cI cZ m0 m1 m2 a b m5 m6 th n bg tn sl ht sn g g2 o gw) → va_S (wIn (mW cI cZ m0 m1 m2 m3 m4 m5 m6 th n bg tn sl ht sn o nx kp ow)) sx.heap H locs → ∀ ls : Array Slot, lv_has ls 4 [(3, .int (nI i)), (2, .int (nI (realN ht n))), (0, .ref m0), (1, .int (-1))] → W pr l ev (rmB 5 116) sx mi ag bl me cd H locs 0 0 Q (F0 mi 11 ls []) := by
    intro kf
    induction kf with
    | zero => intro i a b g g2 gw hkf hi41 hab hg hg2 hv; exact absurd hkf (by omega)
    | succ kf ih11 =>
      intro i a b g g2 gw hkf hi41 hab hg hg2 hv H locs hP hD hS ls hl
      refine lv_iload_n hx hb dX2_until_11 rfl (lv_at hl 0 rfl) ?_
      refine lv_bipush (v := nI 40) hx hb dX2_until_12 (by decide) ?_
      refine icN_gt (tgt := 67) hx hb dX2_until_14 (by decide) (by omega) (by omega) (fun c_14 => ?_) (fun c_14 => ?_)
      · refine lv_aload_n hx hb dX2_until_67 rfl (lv_at hl 2 rfl) ?_
        refine call_Vv (As := []) (wr := []) (rest := []) S (m_X2_bringBack m0 m1 m2 a b m5 m6 th n bg tn sl ht sn g g2 o gw  ) g_X2_X2_bringBack hd_X2_bringBack ⟨Nat.le_of_ble_eq_true rfl, Nat.le_of_ble_eq_true rfl⟩ ⟨Nat.zero_le _, Nat.zero_le _⟩ hP hD hK hS hZ [0, 1, 2, 3, 4, 5, 6] [] rfl rfl (by decide) 0 rfl rfl hl.1 rfl (Nat.le_of_ble_eq_true rfl) dX2_until_68 (fun u H locs hq hP hD hS => ?_)
        obtain rfl := hq
        have hP : va_P (dC, dI) vwCl (mW cI cZ m0 m1 m2 a b m5 m6 th n bg tn sl ht sn o g2 o gw) H := hP
        have hD : va_D (wIn (mW cI cZ m0 m1 m2 m3 m4 m5 m6 th n bg tn sl ht sn o nx kp ow)) (mW cI cZ m0 m1 m2 a b m5 m6 th n bg tn sl ht sn o g2 o gw) := hD
        refine lv_iload_n hx hb dX2_until_71 rfl (lv_at hl 0 rfl) ?_
        refine lv_bipush (v := nI 40) hx hb dX2_until_72 (by decide) ?_
        refine icN_le (tgt := 81) hx hb dX2_until_74 (by decide) (by omega) (by omega) (fun c_74 => absurd c_74 (by omega)) (fun c_74 => ?_)
        refine lv_iconst (v := (-1)) hx hb dX2_until_77 (by decide) ?_
        refine lv_goto (tgt := 82) hx hb dX2_until_78 (by decide) ?_
        exact ret _ (mW cI cZ m0 m1 m2 a b m5 m6 th n bg tn sl ht sn o g2 o gw) _ _ _ _ dX2_until_82 rfl ⟨find_ne hv (by omega), a, b, _, _, hab, rfl⟩ (ab_perm hab) hP hS
      · refine lv_iload_n hx hb dX2_until_17 rfl (lv_at hl 3 rfl) ?_
        refine lv_iconst (v := (-1)) hx hb dX2_until_18 (by decide) ?_
        refine lv_icmp_ne (tgt := 36) hx hb dX2_until_19 (by decide) (fun c_19 => absurd c_19 (fun q => q rfl)) (fun c_19 => ?_)
        refine lv_aload_n hx hb dX2_until_22 rfl (lv_at hl 2 rfl) ?_
        refine call_Vp (As := []) (rest := []) S (m_X2_many m0 m1 m2 a b m5 m6 th n bg tn sl ht sn g g2 o gw  hn hsn hht) g_X2_X2_many hd_X2_many ⟨Nat.le_of_ble_eq_true rfl, Nat.le_of_ble_eq_true rfl⟩ ⟨Nat.zero_le _, Nat.zero_le _⟩ hP hD hK hS hZ [0, 1, 2, 3, 4, 5, 6] rfl (by decide) 0 rfl rfl hl.1 rfl (Nat.le_of_ble_eq_true rfl) dX2_until_23 (fun r H locs hq hP hS => ?_)
        obtain rfl := hq
        refine lv_aload_n hx hb dX2_until_26 rfl (lv_at hl 2 rfl) ?_
        refine va_get (D := (dC, dI)) (ci := 2) (v := .int (nI n)) (C := RX2) (T := TX2) (N := 11) hx hb hts inX2 hown hK hP 0 rfl rfl 1 (by decide) (hts _ q_fl_X2_33) (fun _ h9 => h9) rfl dX2_until_27 ?_
        refine icN_ne (tgt := 44) hx hb dX2_until_30 (by decide) (by have := manyM_le sn ht g n n; omega) (by omega) (fun c_30 => ?_) (fun c_30 => ?_)
        · have hC : (manyM sn ht g n n == n) = false := beq_eq_false_iff_ne.mpr c_30
          have h0n : 0 < n := by rcases Nat.eq_zero_or_pos n with z | z; (· subst z; exact absurd rfl c_30); (· exact z)
          refine lv_aload_n hx hb dX2_until_44 rfl (lv_at hl 2 rfl) ?_
          refine lv_aload_n hx hb dX2_until_45 rfl (lv_at hl 2 rfl) ?_
          refine va_get (D := (dC, dI)) (ci := 2) (v := .int (nI tn)) (C := RX2) (T := TX2) (N := 11) hx hb hts inX2 hown hK hP 0 rfl rfl 9 (by decide) (hts _ q_fl_X2_105) (fun _ h9 => h9) rfl dX2_until_46 ?_
          refine lv_iload_n hx hb dX2_until_49 rfl (lv_at hl 0 rfl) ?_
          refine lv_iadd hx hb dX2_until_50 ?_
          refine W_i (y := nI (tn + i)) (nI_add _ _) ?_
          refine lv_aload_n hx hb dX2_until_51 rfl (lv_at hl 2 rfl) ?_
          refine va_get (D := (dC, dI)) (ci := 2) (v := .int (nI n)) (C := RX2) (T := TX2) (N := 11) hx hb hts inX2 hown hK hP 0 rfl rfl 1 (by decide) (hts _ q_fl_X2_33) (fun _ h9 => h9) rfl dX2_until_52 ?_
          refine lv_irem hx hb dX2_until_55 (nI_ne0 (by omega) (by omega)) ?_
          refine W_i (y := nI ((tn + i) % n)) (pk_rem (by omega) (by omega) (by omega)) ?_
          refine lv_iload_n hx hb dX2_until_56 rfl (lv_at hl 1 rfl) ?_
          refine call_Vi (As := [.int (nI ((tn + i) % n)), .int (nI (realN ht n))]) (wr := []) (rest := []) S (m_X2_turn m0 m1 m2 a b m5 m6 th n bg tn sl ht sn g g2 o gw ((tn + i) % n) (realN ht n) hn hsn (mod5 (by omega) hn) (by omega)) g_X2_X2_turn hd_X2_turn ⟨Nat.le_of_ble_eq_true rfl, Nat.le_of_ble_eq_true rfl⟩ ⟨Nat.zero_le _, Nat.zero_le _⟩ hP hD hK hS hZ [0, 1, 2, 3, 4, 5, 6] [] rfl rfl (by decide) 0 rfl rfl hl.1 rfl (Nat.le_of_ble_eq_true rfl) dX2_until_57 (fun r u H locs hq hP hD hS => ?_)
          obtain ⟨rfl, rfl⟩ := hq
          have hP : va_P (dC, dI) vwCl (mW cI cZ m0 m1 m2 b a m5 m6 th n bg tn sl ht sn (mix (turnM sn g n ((tn + i) % n) (realN ht n)) g2 (3 ^ n)) g o (lookF sn ((tn + i) % n) g n gw (3 ^ n))) H := hP
          have hD : va_D (wIn (mW cI cZ m0 m1 m2 m3 m4 m5 m6 th n bg tn sl ht sn o nx kp ow)) (mW cI cZ m0 m1 m2 b a m5 m6 th n bg tn sl ht sn (mix (turnM sn g n ((tn + i) % n) (realN ht n)) g2 (3 ^ n)) g o (lookF sn ((tn + i) % n) g n gw (3 ^ n))) := hD
          refine lv_pop hx hb dX2_until_60 rfl ?_
          refine lv_iinc (v := nI (i + 1)) (lv' := [(3, .int (nI (i + 1))), (2, .int (nI (realN ht n))), (0, .ref m0), (1, .int (-1))]) hx hb dX2_until_61 hl (k := 0) rfl (nI_add _ _) (by decide) rfl (fun ls hl => ?_)
          refine lv_goto (tgt := 11) hx hb dX2_until_64 (by decide) ?_
          exact ih11 (i + 1) b a _ _ _ (by omega) (by omega) (hab.elim (fun z => Or.inr ⟨z.2, z.1⟩) (fun z => Or.inl ⟨z.2, z.1⟩)) (by rw [hg, hg2]; rfl) (by rw [hg]; rfl) (find_s hv (by omega) (by show (manyM sn ht (seqM sn n (realN ht n) tn o nx i).1 n n == n) = false; rw [← hg]; exact hC)) _ _ hP hD hS _ (lv_sub hl [0, 1, 2, 3] rfl)
        · have hC : (manyM sn ht g n n == n) = true := beq_iff_eq.mpr c_30
          refine lv_goto (tgt := 67) hx hb dX2_until_33 (by decide) ?_
          refine lv_aload_n hx hb dX2_until_67 rfl (lv_at hl 2 rfl) ?_
          refine call_Vv (As := []) (wr := []) (rest := []) S (m_X2_bringBack m0 m1 m2 a b m5 m6 th n bg tn sl ht sn g g2 o gw  ) g_X2_X2_bringBack hd_X2_bringBack ⟨Nat.le_of_ble_eq_true rfl, Nat.le_of_ble_eq_true rfl⟩ ⟨Nat.zero_le _, Nat.zero_le _⟩ hP hD hK hS hZ [0, 1, 2, 3, 4, 5, 6] [] rfl rfl (by decide) 0 rfl rfl hl.1 rfl (Nat.le_of_ble_eq_true rfl) dX2_until_68 (fun u H locs hq hP hD hS => ?_)
          obtain rfl := hq
          have hP : va_P (dC, dI) vwCl (mW cI cZ m0 m1 m2 a b m5 m6 th n bg tn sl ht sn o g2 o gw) H := hP
          have hD : va_D (wIn (mW cI cZ m0 m1 m2 m3 m4 m5 m6 th n bg tn sl ht sn o nx kp ow)) (mW cI cZ m0 m1 m2 a b m5 m6 th n bg tn sl ht sn o g2 o gw) := hD
          refine lv_iload_n hx hb dX2_until_71 rfl (lv_at hl 0 rfl) ?_
          refine lv_bipush (v := nI 40) hx hb dX2_until_72 (by decide) ?_
          refine icN_le (tgt := 81) hx hb dX2_until_74 (by decide) (by omega) (by omega) (fun c_74 => ?_) (fun c_74 => absurd c_74 (by omega))
          refine lv_iload_n hx hb dX2_until_81 rfl (lv_at hl 0 rfl) ?_
          exact ret _ (mW cI cZ m0 m1 m2 a b m5 m6 th n bg tn sl ht sn o g2 o gw) _ _ _ _ dX2_until_82 rfl ⟨find_eq hv (by omega) (by rw [← hg]; exact hC), a, b, _, _, hab, rfl⟩ (ab_perm hab) hP hS
  exact lp11 42 0 m3 m4 o nx ow (by omega) (by omega) (Or.inl ⟨rfl, rfl⟩) rfl rfl rfl _ _ hP hD hS _ (lv_sub hl [0, 1, 2, 3] rfl)

end
