/-! the held ways as a list; what the helpers answer over it -/
def Lof (f : Nat → Nat) (c : Nat) : List Nat := (List.range c).map f
theorem Lof_s (f : Nat → Nat) (i : Nat) : Lof f (i + 1) = Lof f i ++ [f i] := by simp [Lof, List.range_succ]
theorem Lof_len (f : Nat → Nat) (c : Nat) : (Lof f c).length = c := by simp [Lof]
theorem Lof_congr {f g : Nat → Nat} {c : Nat} (h : ∀ j, j < c → f j = g j) : Lof f c = Lof g c := by
  refine List.map_congr_left (fun j hj => h j (List.mem_range.mp hj))
theorem Lof_up (f : Nat → Nat) (k v : Nat) : Lof (upN f k v) k = Lof f k := Lof_congr (fun j hj => upN_n f v (by omega))
theorem Lof_mem {f : Nat → Nat} {c x : Nat} : x ∈ Lof f c ↔ ∃ j, j < c ∧ f j = x := by simp [Lof]
theorem Lof_bd {f g : Nat → Nat} {c k : Nat} {P : Nat → Bool} (h : Lof g k = (Lof f c).filter P) (hb : ∀ j, j < c → f j < 1024) : ∀ j, j < k → g j < 1024 := by
  intro j hj
  have : g j ∈ Lof g k := Lof_mem.mpr ⟨j, hj, rfl⟩
  rw [h, List.mem_filter] at this
  obtain ⟨i, hi, e⟩ := Lof_mem.mp this.1
  rw [← e]; exact hb i hi
theorem Lof_le {f g : Nat → Nat} {c k : Nat} {P : Nat → Bool} (h : Lof g k = (Lof f c).filter P) : k ≤ c := by
  have := List.length_filter_le P (Lof f c)
  rw [← h, Lof_len, Lof_len] at this
  exact this
theorem cnt_t {P : Nat → Bool} {f : Nat → Nat} {i a : Nat} (hp : P (f i) = true) (ha : a = (Lof f i).countP P) : a + 1 = (Lof f (i + 1)).countP P := by
  rw [Lof_s, List.countP_append, ← ha]; simp [hp]
theorem cnt_f {P : Nat → Bool} {f : Nat → Nat} {i a : Nat} (hp : P (f i) = false) (ha : a = (Lof f i).countP P) : a = (Lof f (i + 1)).countP P := by
  rw [Lof_s, List.countP_append, ← ha]; simp [hp]
theorem cnt_le {P : Nat → Bool} {f : Nat → Nat} {i a : Nat} (ha : a = (Lof f i).countP P) : a ≤ i := by
  have := List.countP_le_length (p := P) (l := Lof f i)
  rw [Lof_len] at this; omega
theorem flt_t {P : Nat → Bool} {f g : Nat → Nat} {i k : Nat} (hx : g i = f i) (hp : P (g i) = true) (h : Lof g k = (Lof f i).filter P) : Lof (upN g k (g i)) (k + 1) = (Lof f (i + 1)).filter P := by
  rw [Lof_s, Lof_s, List.filter_append, Lof_up, upN_s, h, ← hx]; simp [hp]
theorem flt_f {P : Nat → Bool} {f g : Nat → Nat} {i k : Nat} (hx : g i = f i) (hp : P (g i) = false) (h : Lof g k = (Lof f i).filter P) : Lof g k = (Lof f (i + 1)).filter P := by
  rw [Lof_s, List.filter_append, h, ← hx]; simp [hp]
theorem and_l {a b : Nat} (h : a < 1024) : a &&& b < 1024 := Nat.lt_of_le_of_lt Nat.and_le_left h
theorem and_r {a b : Nat} (h : b < 1024) : a &&& b < 1024 := Nat.lt_of_le_of_lt Nat.and_le_right h
theorem xor_k {a b : Nat} (h : a < 1024) (h2 : b < 1024) : a ^^^ b < 1024 := Nat.xor_lt_two_pow (n := 10) h h2
theorem or_k {a b : Nat} (h : a < 1024) (h2 : b < 1024) : a ||| b < 1024 := Nat.or_lt_two_pow (n := 10) h h2
theorem or_16 {a b : Nat} (h : a < 16) (h2 : b < 16) : a ||| b < 16 := Nat.or_lt_two_pow (n := 4) h h2
theorem lt_31 {a : Nat} (h : a < 1024) : a < 2 ^ 31 := by omega
theorem bI_t {b : Bool} (h : b = true) : nI 1 = bI b := by rw [h]; rfl
theorem bI_f {b : Bool} (h : b = false) : nI 0 = bI b := by rw [h]; rfl
theorem msk_lt {p : Nat} (h : p < 5) : 3 * 2 ^ (p * 2) < 1024 := by
  have : ∀ p, p < 5 → 3 * 2 ^ (p * 2) < 1024 := by decide
  exact this p h
theorem bit_lt (x p : Nat) : 1 * 2 ^ qd x p < 16 := by
  have := qd_lt x p
  have h : ∀ k, k < 4 → 1 * 2 ^ k < 16 := by decide
  exact h _ this
def agr (wn x m : Nat) : Bool := ((x ^^^ wn) &&& m) == 0
def vw (x m : Nat) : Nat := (x &&& m) &&& 1023
theorem vw_lt (x m : Nat) : vw x m < 1024 := Nat.lt_of_le_of_lt Nat.and_le_right (by omega)
def pcol (wn m q : Nat) (L : List Nat) : Nat := L.foldl (fun a x => if agr wn x m then a ||| (1 * 2 ^ qd x q) else a) 0
theorem pcol_t {wn m q : Nat} {f : Nat → Nat} {i a : Nat} (hp : agr wn (f i) m = true) (ha : a = pcol wn m q (Lof f i)) : a ||| (1 * 2 ^ qd (f i) q) = pcol wn m q (Lof f (i + 1)) := by
  rw [Lof_s, pcol, List.foldl_append, ← pcol, ← ha]; simp [hp]
theorem pcol_f {wn m q : Nat} {f : Nat → Nat} {i a : Nat} (hp : agr wn (f i) m = false) (ha : a = pcol wn m q (Lof f i)) : a = pcol wn m q (Lof f (i + 1)) := by
  rw [Lof_s, pcol, List.foldl_append, ← pcol, ← ha]; simp [hp]
theorem pcol_lt (wn m q : Nat) (L : List Nat) : pcol wn m q L < 16 := by
  have : ∀ (L : List Nat) (a : Nat), a < 16 → L.foldl (fun a x => if agr wn x m then a ||| (1 * 2 ^ qd x q) else a) a < 16 := by
    intro L
    induction L with
    | nil => intro a h; exact h
    | cons x t ih =>
      intro a h
      simp only [List.foldl_cons]
      refine ih _ ?_
      split
      · exact or_16 h (bit_lt x q)
      · exact h
  exact this L 0 (by omega)
def ocol (m p : Nat) (L : List Nat) (v : Nat) : Nat := L.foldl (fun a x => if vw x m == v then a ||| (1 * 2 ^ qd x p) else a) 0
theorem ocol_t {m p v : Nat} {f : Nat → Nat} {i : Nat} (hp : vw (f i) m = v) : ocol m p (Lof f i) v ||| (1 * 2 ^ qd (f i) p) = ocol m p (Lof f (i + 1)) v := by
  rw [Lof_s, ocol, ocol, List.foldl_append]; simp [hp]
theorem ocol_f {m p v : Nat} {f : Nat → Nat} {i : Nat} (hp : vw (f i) m ≠ v) : ocol m p (Lof f i) v = ocol m p (Lof f (i + 1)) v := by
  rw [Lof_s, ocol, ocol, List.foldl_append]; simp [hp]
theorem ocol_lt (m p v : Nat) (L : List Nat) : ocol m p L v < 16 := by
  have : ∀ (L : List Nat) (a : Nat), a < 16 → L.foldl (fun a x => if vw x m == v then a ||| (1 * 2 ^ qd x p) else a) a < 16 := by
    intro L
    induction L with
    | nil => intro a h; exact h
    | cons x t ih =>
      intro a h
      simp only [List.foldl_cons]
      refine ih _ ?_
      split
      · exact or_16 h (bit_lt x p)
      · exact h
  exact this L 0 (by omega)
def cert (wn m p : Nat) (L : List Nat) : Bool := one1 (pcol wn m p L)
def wbc (m p : Nat) (L : List Nat) (x : Nat) : Bool := one1 (ocol m p L (vw x m))
def certN (wn : Nat) (s : Nat → Nat) (L : List Nat) : Nat → Nat
  | 0 => 0
  | p + 1 => certN wn s L p + if cert wn (s p) p L then 1 else 0
theorem certN_le (wn : Nat) (s : Nat → Nat) (L : List Nat) : ∀ p, certN wn s L p ≤ p
  | 0 => Nat.le_refl 0
  | p + 1 => by
    have := certN_le wn s L p
    simp only [certN]
    split <;> omega
def turnL (wn m p : Nat) (L : List Nat) : List Nat := if cert wn m p L then (L.filter (fun x => wbc m p L x == true)).filter (fun x => qd x p == qd wn p) else L.filter (fun x => wbc m p L x == false)
def aftN (n p : Nat) : Nat := if p + 1 < n then p + 1 else 0
def allC (wn : Nat) (s : Nat → Nat) (lo hi : Nat) (L : List Nat) : Bool := (List.range hi).all (fun p => decide (p < lo) || cert wn (s p) p L)
theorem allC_t {wn lo hi i : Nat} {s : Nat → Nat} {L : List Nat} (h : ∀ p, lo ≤ p → p < i → cert wn (s p) p L = true) (hi2 : hi ≤ i) : allC wn s lo hi L = true := by
  refine List.all_eq_true.mpr (fun p hp => ?_)
  have := List.mem_range.mp hp
  by_cases hl : p < lo
  · simp [hl]
  · simp [h p (by omega) (by omega)]
theorem allC_f {wn lo hi i : Nat} {s : Nat → Nat} {L : List Nat} (h1 : lo ≤ i) (h2 : i < hi) (h : cert wn (s i) i L = false) : allC wn s lo hi L = false := by
  cases hc : allC wn s lo hi L with
  | false => rfl
  | true =>
    have := List.all_eq_true.mp hc i (List.mem_range.mpr h2)
    rw [h] at this
    simp at this
    omega
/-- behind how many turns (at most k) all from lo to hi are certain -/
def untilL (n wn : Nat) (s : Nat → Nat) (lo hi : Nat) : Nat → List Nat → Nat → Option Nat
  | 0, L, _ => if allC wn s lo hi L then some 0 else none
  | k + 1, L, p => if allC wn s lo hi L then some 0 else (untilL n wn s lo hi k (turnL wn (s p) p L) (aftN n p)).map (· + 1)
def oI : Option Nat → Int32
  | none => -1
  | some v => nI v
theorem nI_hi {hi i : Nat} (h1 : hi < 2 ^ 30) (h2 : i < 2 ^ 30) : nI hi - 1 < nI i ↔ hi ≤ i := by
  rw [Int32.lt_iff_toInt_lt, show (1 : Int32) = nI 1 from rfl, pk_sub_toInt (by omega) (by omega), nI_toInt (by omega)]
  omega
def mskN : Nat → Nat
  | 0 => 0
  | k + 1 => mskN k ||| 3 * 2 ^ (k * 2)
def lkS (s : Nat → Nat) (p i : Nat) : Nat → Nat := fun k => if k < i then s k ||| 3 * 2 ^ (p * 2) else s k
theorem lkS_s (s : Nat → Nat) (p i : Nat) : upN (lkS s p i) i (lkS s p i i ||| 3 * 2 ^ (p * 2)) = lkS s p (i + 1) := by
  funext k
  by_cases h : k = i
  · subst h; simp [upN, lkS]
  · by_cases h2 : k < i
    · simp [upN, lkS, h, h2, show k < i + 1 by omega]
    · simp [upN, lkS, h, h2, show ¬ k < i + 1 by omega]
def addL (p cl : Nat) (L : List Nat) : List Nat := L.map (fun x => x ||| (cl * 2 ^ (p * 2)))
def ocL (p : Nat) (L : List Nat) : Nat → List Nat
  | 0 => L
  | c + 1 => ocL p L c ++ addL p (c + 1) L
section
variable {l : Launch} {dC : Nat → ClassId} {dI : Nat → Nat → Nat} {cI cZ cS cW : ClassId}

set_option maxHeartbeats 4000000 in
set_option maxRecDepth 100000 in
theorem m_X1_hatsIn (h0 h1 h2 h3 h4 h5 h6 p1 p2 n wn t tc sc : Nat) (uw : Bool) (c1 c2 : Nat) (s ow hf tf : Nat → Nat) (x co : Nat) (hn : n ≤ 5) (hx2 : x < 1024) (hco : co < 3) : Mp l yX1_hatsIn ws_X1_hatsIn 1 21 (dC, dI) (tyL cI cZ cS cW) [.ref h0, .int (nI x), .int (nI co)] (gW cI h0 h1 h2 h3 h4 h5 h6 p1 p2 n wn t tc sc uw c1 c2 s ow hf tf) (fun r => r = nI (hatsN n x co)) := by
  refine Mi_of (by decide +kernel) (Nat.le_of_ble_eq_true rfl) ?_
  intro pr ev sx mi ag bl me cd Q ls S hP hK hD hZ hl ret
  obtain ⟨hx, hb, hml, hown, hts⟩ := id S
  have hown : sx.vm.findClass RX1 = some mi.cls := hown
  have hS : va_S (wIn (gW cI h0 h1 h2 h3 h4 h5 h6 p1 p2 n wn t tc sc uw c1 c2 s ow hf tf)) sx.heap sx.heap [] := va_S.rf
  have hl : lv_has ls 5 [(0, .ref h0), (1, .int (nI x)), (2, .int (nI co))] := hl
  refine lv_iconst (v := nI 0) hx hb dX1_hatsIn_0 (by decide) ?_
  refine lv_istore_n (lv' := [(3, .int (nI 0)), (0, .ref h0), (1, .int (nI x)), (2, .int (nI co))]) hx hb dX1_hatsIn_1 rfl hl (by decide) rfl (fun ls hl => ?_)
  refine lv_iconst (v := nI 0) hx hb dX1_hatsIn_2 (by decide) ?_
  refine lv_istore (lv' := [(4, .int (nI 0)), (3, .int (nI 0)), (0, .ref h0), (1, .int (nI x)), (2, .int (nI co))]) hx hb dX1_hatsIn_3 hl (by decide) rfl (fun ls hl => ?_)
  have lp5 : ∀ (kf : Nat) (i : Nat) (a : Nat), n < i + kf → (i ≤ n) → (a = hatsN i x co) → ∀ (H : Heap) (locs : List Loc), va_P (dC, dI) vwCl (gW cI h0 h1 h2 h3 h4 h5 h6 p1 p2 n wn t tc sc uw c1 c2 s ow hf tf) H → va_D (wIn (gW cI h0 h1 h2 h3 h4 h5 h6 p1 p2 n wn t tc sc uw c1 c2 s ow hf tf)) (gW cI h0 h1 h2 h3 h4 h5 h6 p1 p2 n wn t tc sc uw c1 c2 s ow hf tf) → va_S (wIn (gW cI h0 h1 h2 h3 h4 h5 h6 p1 p2 n wn t tc sc uw c1 c2 s ow hf tf)) sx.heap H locs → ∀ ls : Array Slot, lv_has ls 5 [(4, .int (nI i)), (3, .int (nI a)), (0, .ref h0), (1, .int (nI x)), (2, .int (nI co))] → W pr l ev (rmB 1 21) sx mi ag bl me cd H locs 0 0 Q (F0 mi 5 ls []) := by
    intro kf
    induction kf with
    | zero => intro i a hkf hi ha; exact absurd hkf (by omega)
    | succ kf ih5 =>
      intro i a hkf hi ha H locs hP hD hS ls hl
      refine lv_iload hx hb dX1_hatsIn_5 (lv_at hl 0 rfl) ?_
      refine lv_aload_n hx hb dX1_hatsIn_7 rfl (lv_at hl 2 rfl) ?_
      refine va_get (D := (dC, dI)) (ci := 1) (v := .int (nI n)) (C := RX1) (T := TX1) (N := 10) hx hb hts inX1 hown hK hP 0 rfl rfl 4 (by decide) (hts _ q_fl_X1_26) (fun _ h9 => h9) rfl dX1_hatsIn_8 ?_
      refine icN_ge (tgt := 33) hx hb dX1_hatsIn_11 (by decide) (by omega) (by omega) (fun c_11 => ?_) (fun c_11 => ?_)
      · refine lv_iload_n hx hb dX1_hatsIn_33 rfl (lv_at hl 1 rfl) ?_
        exact ret _ (gW cI h0 h1 h2 h3 h4 h5 h6 p1 p2 n wn t tc sc uw c1 c2 s ow hf tf) _ _ _ _ dX1_hatsIn_34 rfl ⟨rfl, by rw [ha, show i = n by omega]⟩ (List.Perm.refl _) hP hS
      · refine lv_iload_n hx hb dX1_hatsIn_14 rfl (lv_at hl 3 rfl) ?_
        refine lv_iload hx hb dX1_hatsIn_15 (lv_at hl 0 rfl) ?_
        refine call_Sp (As := [.int (nI x), .int (nI i)]) (rest := []) S (m_X1_colourIn x i (by omega) (by omega)) g_X1_X1_colourIn hd_X1_colourIn ⟨Nat.le_of_ble_eq_true rfl, Nat.le_of_ble_eq_true rfl⟩ ⟨Nat.zero_le _, Nat.zero_le _⟩ hP hD hK hS hZ [] rfl (by decide) hl.1 rfl (Nat.le_of_ble_eq_true rfl) dX1_hatsIn_17 (fun r H locs hq hP hS => ?_)
        obtain rfl := hq
        refine lv_iload_n hx hb dX1_hatsIn_20 rfl (lv_at hl 4 rfl) ?_
        refine icN_ne (tgt := 27) hx hb dX1_hatsIn_21 (by decide) (by have := qd_lt x i; omega) (by omega) (fun c_21 => ?_) (fun c_21 => ?_)
        · refine lv_iinc (v := nI (i + 1)) (lv' := [(4, .int (nI (i + 1))), (3, .int (nI a)), (0, .ref h0), (1, .int (nI x)), (2, .int (nI co))]) hx hb dX1_hatsIn_27 hl (k := 0) rfl (nI_add _ _) (by decide) rfl (fun ls hl => ?_)
          refine lv_goto (tgt := 5) hx hb dX1_hatsIn_30 (by decide) ?_
          exact ih5 (i + 1) _ (by omega) (by omega) (by simp [hatsN, ha, c_21]) _ _ hP hD hS _ (lv_sub hl [0, 1, 2, 3, 4] rfl)
        · refine lv_iinc (v := nI (a + 1)) (lv' := [(3, .int (nI (a + 1))), (4, .int (nI i)), (0, .ref h0), (1, .int (nI x)), (2, .int (nI co))]) hx hb dX1_hatsIn_24 hl (k := 1) rfl (nI_add _ _) (by decide) rfl (fun ls hl => ?_)
          refine lv_iinc (v := nI (i + 1)) (lv' := [(4, .int (nI (i + 1))), (3, .int (nI (a + 1))), (0, .ref h0), (1, .int (nI x)), (2, .int (nI co))]) hx hb dX1_hatsIn_27 hl (k := 1) rfl (nI_add _ _) (by decide) rfl (fun ls hl => ?_)
          refine lv_goto (tgt := 5) hx hb dX1_hatsIn_30 (by decide) ?_
          exact ih5 (i + 1) _ (by omega) (by omega) (by simp [hatsN, ha, c_21]) _ _ hP hD hS _ (lv_sub hl [0, 1, 2, 3, 4] rfl)
  exact lp5 (n + 1) 0 0 (by omega) (by omega) rfl _ _ hP hD hS _ (lv_sub hl [0, 1, 2, 3, 4] rfl)

set_option maxHeartbeats 4000000 in
set_option maxRecDepth 100000 in
theorem m_X1_seenHatsOf (h0 h1 h2 h3 h4 h5 h6 p1 p2 n wn t tc sc : Nat) (uw : Bool) (c1 c2 : Nat) (s ow hf tf : Nat → Nat) (j : Nat) (hj : j < 5) : Mp l yX1_seenHatsOf ws_X1_seenHatsOf 0 0 (dC, dI) (tyL cI cZ cS cW) [.ref h0, .int (nI j)] (gW cI h0 h1 h2 h3 h4 h5 h6 p1 p2 n wn t tc sc uw c1 c2 s ow hf tf) (fun r => r = nI (s j)) := by
  refine Mi_of (by decide +kernel) (Nat.le_of_ble_eq_true rfl) ?_
  intro pr ev sx mi ag bl me cd Q ls S hP hK hD hZ hl ret
  obtain ⟨hx, hb, hml, hown, hts⟩ := id S
  have hown : sx.vm.findClass RX1 = some mi.cls := hown
  have hS : va_S (wIn (gW cI h0 h1 h2 h3 h4 h5 h6 p1 p2 n wn t tc sc uw c1 c2 s ow hf tf)) sx.heap sx.heap [] := va_S.rf
  have hl : lv_has ls 2 [(0, .ref h0), (1, .int (nI j))] := hl
  refine lv_iload_n hx hb dX1_seenHatsOf_0 rfl (lv_at hl 1 rfl) ?_
  refine ifN_lt (tgt := 22) hx hb dX1_seenHatsOf_1 (by decide) (by omega) (fun c_1 => absurd c_1 id) (fun c_1 => ?_)
  refine lv_iload_n hx hb dX1_seenHatsOf_4 rfl (lv_at hl 1 rfl) ?_
  refine lv_aload_n hx hb dX1_seenHatsOf_5 rfl (lv_at hl 0 rfl) ?_
  refine va_get (D := (dC, dI)) (ci := 1) (v := .ref h3) (C := RX1) (T := TX1) (N := 10) hx hb hts inX1 hown hK hP 0 rfl rfl 2 (by decide) (hts _ q_fl_X1_19) (fun _ h9 => h9) rfl dX1_seenHatsOf_6 ?_
  refine va_alen (v := nI 5) hx hb hK hP 3 0 rfl rfl rfl dX1_seenHatsOf_9 ?_
  refine icN_ge (tgt := 22) hx hb dX1_seenHatsOf_10 (by decide) (by omega) (by omega) (fun c_10 => absurd c_10 (by omega)) (fun c_10 => ?_)
  refine lv_aload_n hx hb dX1_seenHatsOf_13 rfl (lv_at hl 0 rfl) ?_
  refine va_get (D := (dC, dI)) (ci := 1) (v := .ref h3) (C := RX1) (T := TX1) (N := 10) hx hb hts inX1 hown hK hP 0 rfl rfl 2 (by decide) (hts _ q_fl_X1_19) (fun _ h9 => h9) rfl dX1_seenHatsOf_14 ?_
  refine lv_iload_n hx hb dX1_seenHatsOf_17 rfl (lv_at hl 1 rfl) ?_
  refine ia_ld hx hb hK hP 3 0 rfl rfl (j := j) (by omega) (by decide) dX1_seenHatsOf_18 ?_
  refine lv_goto (tgt := 23) hx hb dX1_seenHatsOf_19 (by decide) ?_
  exact ret _ (gW cI h0 h1 h2 h3 h4 h5 h6 p1 p2 n wn t tc sc uw c1 c2 s ow hf tf) _ _ _ _ dX1_seenHatsOf_23 rfl ⟨rfl, rfl⟩ (List.Perm.refl _) hP hS

set_option maxHeartbeats 4000000 in
set_option maxRecDepth 100000 in
theorem m_X1_setSeenHatsOf (h0 h1 h2 h3 h4 h5 h6 p1 p2 n wn t tc sc : Nat) (uw : Bool) (c1 c2 : Nat) (s ow hf tf : Nat → Nat) (j v : Nat) (hj : j < 5) : Mv l yX1_setSeenHatsOf ws_X1_setSeenHatsOf 0 0 (dC, dI) (tyL cI cZ cS cW) [.ref h0, .int (nI j), .int (nI v)] (gW cI h0 h1 h2 h3 h4 h5 h6 p1 p2 n wn t tc sc uw c1 c2 s ow hf tf) (fun u => u = gW cI h0 h1 h2 h3 h4 h5 h6 p1 p2 n wn t tc sc uw c1 c2 (upN s j v) ow hf tf) := by
  refine Mv_of (by decide +kernel) (Nat.le_of_ble_eq_true rfl) ?_
  intro pr ev sx mi ag bl me cd Q ls S hP hK hD hZ hl ret
  obtain ⟨hx, hb, hml, hown, hts⟩ := id S
  have hown : sx.vm.findClass RX1 = some mi.cls := hown
  have hS : va_S (wIn (gW cI h0 h1 h2 h3 h4 h5 h6 p1 p2 n wn t tc sc uw c1 c2 s ow hf tf)) sx.heap sx.heap [] := va_S.rf
  have hl : lv_has ls 3 [(0, .ref h0), (1, .int (nI j)), (2, .int (nI v))] := hl
  refine lv_iload_n hx hb dX1_setSeenHatsOf_0 rfl (lv_at hl 1 rfl) ?_
  refine ifN_lt (tgt := 20) hx hb dX1_setSeenHatsOf_1 (by decide) (by omega) (fun c_1 => absurd c_1 id) (fun c_1 => ?_)
  refine lv_iload_n hx hb dX1_setSeenHatsOf_4 rfl (lv_at hl 1 rfl) ?_
  refine lv_aload_n hx hb dX1_setSeenHatsOf_5 rfl (lv_at hl 0 rfl) ?_
  refine va_get (D := (dC, dI)) (ci := 1) (v := .ref h3) (C := RX1) (T := TX1) (N := 10) hx hb hts inX1 hown hK hP 0 rfl rfl 2 (by decide) (hts _ q_fl_X1_19) (fun _ h9 => h9) rfl dX1_setSeenHatsOf_6 ?_
  refine va_alen (v := nI 5) hx hb hK hP 3 0 rfl rfl rfl dX1_setSeenHatsOf_9 ?_
  refine icN_ge (tgt := 20) hx hb dX1_setSeenHatsOf_10 (by decide) (by omega) (by omega) (fun c_10 => absurd c_10 (by omega)) (fun c_10 => ?_)
  refine lv_aload_n hx hb dX1_setSeenHatsOf_13 rfl (lv_at hl 0 rfl) ?_
  refine va_get (D := (dC, dI)) (ci := 1) (v := .ref h3) (C := RX1) (T := TX1) (N := 10) hx hb hts inX1 hown hK hP 0 rfl rfl 2 (by decide) (hts _ q_fl_X1_19) (fun _ h9 => h9) rfl dX1_setSeenHatsOf_14 ?_
  refine lv_iload_n hx hb dX1_setSeenHatsOf_17 rfl (lv_at hl 1 rfl) ?_
  refine lv_iload_n hx hb dX1_setSeenHatsOf_18 rfl (lv_at hl 2 rfl) ?_
  refine ia_st hx hb hK hP hD hS 3 0 rfl rfl (j := j) (v := v) (by omega) (by decide) dX1_setSeenHatsOf_19 (fun H locs hP hD hS => ?_)
  have hP : va_P (dC, dI) vwCl (gW cI h0 h1 h2 h3 h4 h5 h6 p1 p2 n wn t tc sc uw c1 c2 (upN s j v) ow hf tf) H := hP
  have hD : va_D (wIn (gW cI h0 h1 h2 h3 h4 h5 h6 p1 p2 n wn t tc sc uw c1 c2 s ow hf tf)) (gW cI h0 h1 h2 h3 h4 h5 h6 p1 p2 n wn t tc sc uw c1 c2 (upN s j v) ow hf tf) := hD
  exact ret (gW cI h0 h1 h2 h3 h4 h5 h6 p1 p2 n wn t tc sc uw c1 c2 (upN s j v) ow hf tf) _ _ _ _ dX1_setSeenHatsOf_20 rfl (List.Perm.refl _) hP hS

set_option maxHeartbeats 4000000 in
set_option maxRecDepth 100000 in
theorem m_X1_ownColours (h0 h1 h2 h3 h4 h5 h6 p1 p2 n wn t tc sc : Nat) (uw : Bool) (c1 c2 : Nat) (s ow hf tf : Nat → Nat) (j : Nat) (hj : j < 1024) : Mp l yX1_ownColours ws_X1_ownColours 0 0 (dC, dI) (tyL cI cZ cS cW) [.ref h0, .int (nI j)] (gW cI h0 h1 h2 h3 h4 h5 h6 p1 p2 n wn t tc sc uw c1 c2 s ow hf tf) (fun r => r = nI (ow j)) := by
  refine Mi_of (by decide +kernel) (Nat.le_of_ble_eq_true rfl) ?_
  intro pr ev sx mi ag bl me cd Q ls S hP hK hD hZ hl ret
  obtain ⟨hx, hb, hml, hown, hts⟩ := id S
  have hown : sx.vm.findClass RX1 = some mi.cls := hown
  have hS : va_S (wIn (gW cI h0 h1 h2 h3 h4 h5 h6 p1 p2 n wn t tc sc uw c1 c2 s ow hf tf)) sx.heap sx.heap [] := va_S.rf
  have hl : lv_has ls 2 [(0, .ref h0), (1, .int (nI j))] := hl
  refine lv_iload_n hx hb dX1_ownColours_0 rfl (lv_at hl 1 rfl) ?_
  refine ifN_lt (tgt := 22) hx hb dX1_ownColours_1 (by decide) (by omega) (fun c_1 => absurd c_1 id) (fun c_1 => ?_)
  refine lv_iload_n hx hb dX1_ownColours_4 rfl (lv_at hl 1 rfl) ?_
  refine lv_aload_n hx hb dX1_ownColours_5 rfl (lv_at hl 0 rfl) ?_
  refine va_get (D := (dC, dI)) (ci := 1) (v := .ref h4) (C := RX1) (T := TX1) (N := 10) hx hb hts inX1 hown hK hP 0 rfl rfl 3 (by decide) (hts _ q_fl_X1_23) (fun _ h9 => h9) rfl dX1_ownColours_6 ?_
  refine va_alen (v := nI 1024) hx hb hK hP 4 0 rfl rfl rfl dX1_ownColours_9 ?_
  refine icN_ge (tgt := 22) hx hb dX1_ownColours_10 (by decide) (by omega) (by omega) (fun c_10 => absurd c_10 (by omega)) (fun c_10 => ?_)
  refine lv_aload_n hx hb dX1_ownColours_13 rfl (lv_at hl 0 rfl) ?_
  refine va_get (D := (dC, dI)) (ci := 1) (v := .ref h4) (C := RX1) (T := TX1) (N := 10) hx hb hts inX1 hown hK hP 0 rfl rfl 3 (by decide) (hts _ q_fl_X1_23) (fun _ h9 => h9) rfl dX1_ownColours_14 ?_
  refine lv_iload_n hx hb dX1_ownColours_17 rfl (lv_at hl 1 rfl) ?_
  refine ia_ld hx hb hK hP 4 0 rfl rfl (j := j) (by omega) (by decide) dX1_ownColours_18 ?_
  refine lv_goto (tgt := 23) hx hb dX1_ownColours_19 (by decide) ?_
  exact ret _ (gW cI h0 h1 h2 h3 h4 h5 h6 p1 p2 n wn t tc sc uw c1 c2 s ow hf tf) _ _ _ _ dX1_ownColours_23 rfl ⟨rfl, rfl⟩ (List.Perm.refl _) hP hS

set_option maxHeartbeats 4000000 in
set_option maxRecDepth 100000 in
theorem m_X1_setOwnColours (h0 h1 h2 h3 h4 h5 h6 p1 p2 n wn t tc sc : Nat) (uw : Bool) (c1 c2 : Nat) (s ow hf tf : Nat → Nat) (j v : Nat) (hj : j < 1024) : Mv l yX1_setOwnColours ws_X1_setOwnColours 0 0 (dC, dI) (tyL cI cZ cS cW) [.ref h0, .int (nI j), .int (nI v)] (gW cI h0 h1 h2 h3 h4 h5 h6 p1 p2 n wn t tc sc uw c1 c2 s ow hf tf) (fun u => u = gW cI h0 h1 h2 h3 h4 h5 h6 p1 p2 n wn t tc sc uw c1 c2 s (upN ow j v) hf tf) := by
  refine Mv_of (by decide +kernel) (Nat.le_of_ble_eq_true rfl) ?_
  intro pr ev sx mi ag bl me cd Q ls S hP hK hD hZ hl ret
  obtain ⟨hx, hb, hml, hown, hts⟩ := id S
  have hown : sx.vm.findClass RX1 = some mi.cls := hown
  have hS : va_S (wIn (gW cI h0 h1 h2 h3 h4 h5 h6 p1 p2 n wn t tc sc uw c1 c2 s ow hf tf)) sx.heap sx.heap [] := va_S.rf
  have hl : lv_has ls 3 [(0, .ref h0), (1, .int (nI j)), (2, .int (nI v))] := hl
  refine lv_iload_n hx hb dX1_setOwnColours_0 rfl (lv_at hl 1 rfl) ?_
  refine ifN_lt (tgt := 20) hx hb dX1_setOwnColours_1 (by decide) (by omega) (fun c_1 => absurd c_1 id) (fun c_1 => ?_)
  refine lv_iload_n hx hb dX1_setOwnColours_4 rfl (lv_at hl 1 rfl) ?_
  refine lv_aload_n hx hb dX1_setOwnColours_5 rfl (lv_at hl 0 rfl) ?_
  refine va_get (D := (dC, dI)) (ci := 1) (v := .ref h4) (C := RX1) (T := TX1) (N := 10) hx hb hts inX1 hown hK hP 0 rfl rfl 3 (by decide) (hts _ q_fl_X1_23) (fun _ h9 => h9) rfl dX1_setOwnColours_6 ?_
  refine va_alen (v := nI 1024) hx hb hK hP 4 0 rfl rfl rfl dX1_setOwnColours_9 ?_
  refine icN_ge (tgt := 20) hx hb dX1_setOwnColours_10 (by decide) (by omega) (by omega) (fun c_10 => absurd c_10 (by omega)) (fun c_10 => ?_)
  refine lv_aload_n hx hb dX1_setOwnColours_13 rfl (lv_at hl 0 rfl) ?_
  refine va_get (D := (dC, dI)) (ci := 1) (v := .ref h4) (C := RX1) (T := TX1) (N := 10) hx hb hts inX1 hown hK hP 0 rfl rfl 3 (by decide) (hts _ q_fl_X1_23) (fun _ h9 => h9) rfl dX1_setOwnColours_14 ?_
  refine lv_iload_n hx hb dX1_setOwnColours_17 rfl (lv_at hl 1 rfl) ?_
  refine lv_iload_n hx hb dX1_setOwnColours_18 rfl (lv_at hl 2 rfl) ?_
  refine ia_st hx hb hK hP hD hS 4 0 rfl rfl (j := j) (v := v) (by omega) (by decide) dX1_setOwnColours_19 (fun H locs hP hD hS => ?_)
  have hP : va_P (dC, dI) vwCl (gW cI h0 h1 h2 h3 h4 h5 h6 p1 p2 n wn t tc sc uw c1 c2 s (upN ow j v) hf tf) H := hP
  have hD : va_D (wIn (gW cI h0 h1 h2 h3 h4 h5 h6 p1 p2 n wn t tc sc uw c1 c2 s ow hf tf)) (gW cI h0 h1 h2 h3 h4 h5 h6 p1 p2 n wn t tc sc uw c1 c2 s (upN ow j v) hf tf) := hD
  exact ret (gW cI h0 h1 h2 h3 h4 h5 h6 p1 p2 n wn t tc sc uw c1 c2 s (upN ow j v) hf tf) _ _ _ _ dX1_setOwnColours_20 rfl (List.Perm.refl _) hP hS

set_option maxHeartbeats 4000000 in
set_option maxRecDepth 100000 in
theorem m_X1_seesHat (h0 h1 h2 h3 h4 h5 h6 p1 p2 n wn t tc sc : Nat) (uw : Bool) (c1 c2 : Nat) (s ow hf tf : Nat → Nat) (j k : Nat) (hj : j < 5) (hk : k < 5) (hs : ∀ p, p < 5 → s p < 1024) : Mp l yX1_seesHat ws_X1_seesHat 2 40 (dC, dI) (tyL cI cZ cS cW) [.ref h0, .int (nI j), .int (nI k)] (gW cI h0 h1 h2 h3 h4 h5 h6 p1 p2 n wn t tc sc uw c1 c2 s ow hf tf) (fun r => r = bI (!((s j &&& (3 * 2 ^ (k * 2))) == 0))) := by
  refine Mi_of (by decide +kernel) (Nat.le_of_ble_eq_true rfl) ?_
  intro pr ev sx mi ag bl me cd Q ls S hP hK hD hZ hl ret
  obtain ⟨hx, hb, hml, hown, hts⟩ := id S
  have hown : sx.vm.findClass RX1 = some mi.cls := hown
  have hS : va_S (wIn (gW cI h0 h1 h2 h3 h4 h5 h6 p1 p2 n wn t tc sc uw c1 c2 s ow hf tf)) sx.heap sx.heap [] := va_S.rf
  have hl : lv_has ls 3 [(0, .ref h0), (1, .int (nI j)), (2, .int (nI k))] := hl
  refine lv_aload_n hx hb dX1_seesHat_0 rfl (lv_at hl 0 rfl) ?_
  refine lv_iload_n hx hb dX1_seesHat_1 rfl (lv_at hl 1 rfl) ?_
  refine call_Vp (As := [.int (nI j)]) (rest := []) S (m_X1_seenHatsOf h0 h1 h2 h3 h4 h5 h6 p1 p2 n wn t tc sc uw c1 c2 s ow hf tf j (by omega)) g_X1_X1_seenHatsOf hd_X1_seenHatsOf ⟨Nat.le_of_ble_eq_true rfl, Nat.le_of_ble_eq_true rfl⟩ ⟨Nat.zero_le _, Nat.zero_le _⟩ hP hD hK hS hZ [0, 1, 2, 3, 4, 5, 6] rfl (by decide) 0 rfl rfl hl.1 rfl (Nat.le_of_ble_eq_true rfl) dX1_seesHat_2 (fun r H locs hq hP hS => ?_)
  obtain rfl := hq
  refine lv_iload_n hx hb dX1_seesHat_5 rfl (lv_at hl 2 rfl) ?_
  refine call_Sp (As := [.int (nI k)]) (rest := [.int (nI (s j))]) S (m_X1_hatMask k (by omega)) g_X1_X1_hatMask hd_X1_hatMask ⟨Nat.le_of_ble_eq_true rfl, Nat.le_of_ble_eq_true rfl⟩ ⟨Nat.zero_le _, Nat.zero_le _⟩ hP hD hK hS hZ [] rfl (by decide) hl.1 rfl (Nat.le_of_ble_eq_true rfl) dX1_seesHat_6 (fun r H locs hq hP hS => ?_)
  obtain rfl := hq
  refine lv_iand hx hb dX1_seesHat_9 ?_
  refine W_i (y := nI ((s j) &&& (3 * 2 ^ (k * 2)))) (nI_and _ _) ?_
  refine ifN_eq (tgt := 17) hx hb dX1_seesHat_10 (by decide) (lt_31 (and_l (hs j hj))) (fun c_10 => ?_) (fun c_10 => ?_)
  · refine lv_iconst (v := nI 0) hx hb dX1_seesHat_17 (by decide) ?_
    exact ret _ (gW cI h0 h1 h2 h3 h4 h5 h6 p1 p2 n wn t tc sc uw c1 c2 s ow hf tf) _ _ _ _ dX1_seesHat_18 rfl ⟨rfl, bI_f (by simp [c_10])⟩ (List.Perm.refl _) hP hS
  · refine lv_iconst (v := nI 1) hx hb dX1_seesHat_13 (by decide) ?_
    refine lv_goto (tgt := 18) hx hb dX1_seesHat_14 (by decide) ?_
    exact ret _ (gW cI h0 h1 h2 h3 h4 h5 h6 p1 p2 n wn t tc sc uw c1 c2 s ow hf tf) _ _ _ _ dX1_seesHat_18 rfl ⟨rfl, bI_t (by simp [c_10])⟩ (List.Perm.refl _) hP hS

set_option maxHeartbeats 4000000 in
set_option maxRecDepth 100000 in
theorem m_X1_lookAtEachOther (h0 h1 h2 h3 h4 h5 h6 p1 p2 n wn t tc sc : Nat) (uw : Bool) (c1 c2 : Nat) (s ow hf tf : Nat → Nat) (j : Nat) (hj : j < 5) : Mv l yX1_lookAtEachOther ws_X1_lookAtEachOther 2 40 (dC, dI) (tyL cI cZ cS cW) [.ref h0, .int (nI j)] (gW cI h0 h1 h2 h3 h4 h5 h6 p1 p2 n wn t tc sc uw c1 c2 s ow hf tf) (fun u => u = gW cI h0 h1 h2 h3 h4 h5 h6 p1 p2 n wn t tc sc uw c1 c2 (upN (lkS s j j) j (mskN j)) ow hf tf) := by
  refine Mv_of (by decide +kernel) (Nat.le_of_ble_eq_true rfl) ?_
  intro pr ev sx mi ag bl me cd Q ls S hP hK hD hZ hl ret
  obtain ⟨hx, hb, hml, hown, hts⟩ := id S
  have hown : sx.vm.findClass RX1 = some mi.cls := hown
  have hS : va_S (wIn (gW cI h0 h1 h2 h3 h4 h5 h6 p1 p2 n wn t tc sc uw c1 c2 s ow hf tf)) sx.heap sx.heap [] := va_S.rf
  have hl : lv_has ls 4 [(0, .ref h0), (1, .int (nI j))] := hl
  refine lv_iconst (v := nI 0) hx hb dX1_lookAtEachOther_0 (by decide) ?_
  refine lv_istore_n (lv' := [(2, .int (nI 0)), (0, .ref h0), (1, .int (nI j))]) hx hb dX1_lookAtEachOther_1 rfl hl (by decide) rfl (fun ls hl => ?_)
  refine lv_iconst (v := nI 0) hx hb dX1_lookAtEachOther_2 (by decide) ?_
  refine lv_istore_n (lv' := [(3, .int (nI 0)), (2, .int (nI 0)), (0, .ref h0), (1, .int (nI j))]) hx hb dX1_lookAtEachOther_3 rfl hl (by decide) rfl (fun ls hl => ?_)
  have lp4 : ∀ (kf : Nat) (i : Nat) (a : Nat) (g : Nat → Nat), j < i + kf → (i ≤ j) → (a = mskN i) → (g = lkS s j i) → ∀ (H : Heap) (locs : List Loc), va_P (dC, dI) vwCl (gW cI h0 h1 h2 h3 h4 h5 h6 p1 p2 n wn t tc sc uw c1 c2 g ow hf tf) H → va_D (wIn (gW cI h0 h1 h2 h3 h4 h5 h6 p1 p2 n wn t tc sc uw c1 c2 s ow hf tf)) (gW cI h0 h1 h2 h3 h4 h5 h6 p1 p2 n wn t tc sc uw c1 c2 g ow hf tf) → va_S (wIn (gW cI h0 h1 h2 h3 h4 h5 h6 p1 p2 n wn t tc sc uw c1 c2 s ow hf tf)) sx.heap H locs → ∀ ls : Array Slot, lv_has ls 4 [(3, .int (nI i)), (2, .int (nI a)), (0, .ref h0), (1, .int (nI j))] → W pr l ev (rmB 2 40) sx mi ag bl me cd H locs 0 0 Q (F0 mi 4 ls []) := by
    intro kf
    induction kf with
    | zero => intro i a g hkf hi ha hg; exact absurd hkf (by omega)
    | succ kf ih4 =>
      intro i a g hkf hi ha hg H locs hP hD hS ls hl
      refine lv_iload_n hx hb dX1_lookAtEachOther_4 rfl (lv_at hl 0 rfl) ?_
      refine lv_iload_n hx hb dX1_lookAtEachOther_5 rfl (lv_at hl 3 rfl) ?_
      refine icN_ge (tgt := 37) hx hb dX1_lookAtEachOther_6 (by decide) (by omega) (by omega) (fun c_6 => ?_) (fun c_6 => ?_)
      · refine lv_aload_n hx hb dX1_lookAtEachOther_37 rfl (lv_at hl 2 rfl) ?_
        refine lv_iload_n hx hb dX1_lookAtEachOther_38 rfl (lv_at hl 3 rfl) ?_
        refine lv_iload_n hx hb dX1_lookAtEachOther_39 rfl (lv_at hl 1 rfl) ?_
        refine call_Vv (As := [.int (nI j), .int (nI a)]) (wr := []) (rest := []) S (m_X1_setSeenHatsOf h0 h1 h2 h3 h4 h5 h6 p1 p2 n wn t tc sc uw c1 c2 g ow hf tf j a (by omega)) g_X1_X1_setSeenHatsOf hd_X1_setSeenHatsOf ⟨Nat.le_of_ble_eq_true rfl, Nat.le_of_ble_eq_true rfl⟩ ⟨Nat.zero_le _, Nat.zero_le _⟩ hP hD hK hS hZ [0, 1, 2, 3, 4, 5, 6] [] rfl rfl (by decide) 0 rfl rfl hl.1 rfl (Nat.le_of_ble_eq_true rfl) dX1_lookAtEachOther_40 (fun u H locs hq hP hD hS => ?_)
        obtain rfl := hq
        have hP : va_P (dC, dI) vwCl (gW cI h0 h1 h2 h3 h4 h5 h6 p1 p2 n wn t tc sc uw c1 c2 (upN g j a) ow hf tf) H := hP
        have hD : va_D (wIn (gW cI h0 h1 h2 h3 h4 h5 h6 p1 p2 n wn t tc sc uw c1 c2 s ow hf tf)) (gW cI h0 h1 h2 h3 h4 h5 h6 p1 p2 n wn t tc sc uw c1 c2 (upN g j a) ow hf tf) := hD
        exact ret (gW cI h0 h1 h2 h3 h4 h5 h6 p1 p2 n wn t tc sc uw c1 c2 (upN g j a) ow hf tf) _ _ _ _ dX1_lookAtEachOther_43 (by rw [ha, hg, show i = j by omega]) (List.Perm.refl _) hP hS
      · refine lv_aload_n hx hb dX1_lookAtEachOther_9 rfl (lv_at hl 2 rfl) ?_
        refine lv_iload_n hx hb dX1_lookAtEachOther_10 rfl (lv_at hl 0 rfl) ?_
        refine lv_aload_n hx hb dX1_lookAtEachOther_11 rfl (lv_at hl 2 rfl) ?_
        refine lv_iload_n hx hb dX1_lookAtEachOther_12 rfl (lv_at hl 0 rfl) ?_
        refine call_Vp (As := [.int (nI i)]) (rest := [.int (nI i), .ref h0]) S (m_X1_seenHatsOf h0 h1 h2 h3 h4 h5 h6 p1 p2 n wn t tc sc uw c1 c2 g ow hf tf i (by omega)) g_X1_X1_seenHatsOf hd_X1_seenHatsOf ⟨Nat.le_of_ble_eq_true rfl, Nat.le_of_ble_eq_true rfl⟩ ⟨Nat.zero_le _, Nat.zero_le _⟩ hP hD hK hS hZ [0, 1, 2, 3, 4, 5, 6] rfl (by decide) 0 rfl rfl hl.1 rfl (Nat.le_of_ble_eq_true rfl) dX1_lookAtEachOther_13 (fun r H locs hq hP hS => ?_)
        obtain rfl := hq
        refine lv_iload_n hx hb dX1_lookAtEachOther_16 rfl (lv_at hl 3 rfl) ?_
        refine call_Sp (As := [.int (nI j)]) (rest := [.int (nI (g i)), .int (nI i), .ref h0]) S (m_X1_hatMask j (by omega)) g_X1_X1_hatMask hd_X1_hatMask ⟨Nat.le_of_ble_eq_true rfl, Nat.le_of_ble_eq_true rfl⟩ ⟨Nat.zero_le _, Nat.zero_le _⟩ hP hD hK hS hZ [] rfl (by decide) hl.1 rfl (Nat.le_of_ble_eq_true rfl) dX1_lookAtEachOther_17 (fun r H locs hq hP hS => ?_)
        obtain rfl := hq
        refine lv_ior hx hb dX1_lookAtEachOther_20 ?_
        refine W_i (y := nI ((g i) ||| (3 * 2 ^ (j * 2)))) (nI_or _ _) ?_
        refine call_Vv (As := [.int (nI i), .int (nI ((g i) ||| (3 * 2 ^ (j * 2))))]) (wr := []) (rest := []) S (m_X1_setSeenHatsOf h0 h1 h2 h3 h4 h5 h6 p1 p2 n wn t tc sc uw c1 c2 g ow hf tf i ((g i) ||| (3 * 2 ^ (j * 2))) (by omega)) g_X1_X1_setSeenHatsOf hd_X1_setSeenHatsOf ⟨Nat.le_of_ble_eq_true rfl, Nat.le_of_ble_eq_true rfl⟩ ⟨Nat.zero_le _, Nat.zero_le _⟩ hP hD hK hS hZ [0, 1, 2, 3, 4, 5, 6] [] rfl rfl (by decide) 0 rfl rfl hl.1 rfl (Nat.le_of_ble_eq_true rfl) dX1_lookAtEachOther_21 (fun u H locs hq hP hD hS => ?_)
        obtain rfl := hq
        have hP : va_P (dC, dI) vwCl (gW cI h0 h1 h2 h3 h4 h5 h6 p1 p2 n wn t tc sc uw c1 c2 (upN g i ((g i) ||| (3 * 2 ^ (j * 2)))) ow hf tf) H := hP
        have hD : va_D (wIn (gW cI h0 h1 h2 h3 h4 h5 h6 p1 p2 n wn t tc sc uw c1 c2 s ow hf tf)) (gW cI h0 h1 h2 h3 h4 h5 h6 p1 p2 n wn t tc sc uw c1 c2 (upN g i ((g i) ||| (3 * 2 ^ (j * 2)))) ow hf tf) := hD
        refine lv_iload_n hx hb dX1_lookAtEachOther_24 rfl (lv_at hl 1 rfl) ?_
        refine lv_iload_n hx hb dX1_lookAtEachOther_25 rfl (lv_at hl 0 rfl) ?_
        refine call_Sp (As := [.int (nI i)]) (rest := [.int (nI a)]) S (m_X1_hatMask i (by omega)) g_X1_X1_hatMask hd_X1_hatMask ⟨Nat.le_of_ble_eq_true rfl, Nat.le_of_ble_eq_true rfl⟩ ⟨Nat.zero_le _, Nat.zero_le _⟩ hP hD hK hS hZ [] rfl (by decide) hl.1 rfl (Nat.le_of_ble_eq_true rfl) dX1_lookAtEachOther_26 (fun r H locs hq hP hS => ?_)
        obtain rfl := hq
        refine lv_ior hx hb dX1_lookAtEachOther_29 ?_
        refine W_i (y := nI (a ||| (3 * 2 ^ (i * 2)))) (nI_or _ _) ?_
        refine lv_istore_n (lv' := [(2, .int (nI (a ||| (3 * 2 ^ (i * 2))))), (3, .int (nI i)), (0, .ref h0), (1, .int (nI j))]) hx hb dX1_lookAtEachOther_30 rfl hl (by decide) rfl (fun ls hl => ?_)
        refine lv_iinc (v := nI (i + 1)) (lv' := [(3, .int (nI (i + 1))), (2, .int (nI (a ||| (3 * 2 ^ (i * 2))))), (0, .ref h0), (1, .int (nI j))]) hx hb dX1_lookAtEachOther_31 hl (k := 1) rfl (nI_add _ _) (by decide) rfl (fun ls hl => ?_)
        refine lv_goto (tgt := 4) hx hb dX1_lookAtEachOther_34 (by decide) ?_
        exact ih4 (i + 1) _ _ (by omega) (by omega) (by rw [ha]; rfl) (by rw [hg]; exact lkS_s s j i) _ _ hP hD hS _ (lv_sub hl [0, 1, 2, 3] rfl)
  exact lp4 (j + 1) 0 0 s (by omega) (by omega) rfl (by funext k; simp [lkS]) _ _ hP hD hS _ (lv_sub hl [0, 1, 2, 3] rfl)

set_option maxHeartbeats 4000000 in
set_option maxRecDepth 100000 in
theorem m_X1_viewOf (h0 h1 h2 h3 h4 h5 h6 p1 p2 n wn t tc sc : Nat) (uw : Bool) (c1 c2 : Nat) (s ow hf tf : Nat → Nat) (x j : Nat) (hj : j < 5) : Mp l yX1_viewOf ws_X1_viewOf 1 21 (dC, dI) (tyL cI cZ cS cW) [.ref h0, .int (nI x), .int (nI j)] (gW cI h0 h1 h2 h3 h4 h5 h6 p1 p2 n wn t tc sc uw c1 c2 s ow hf tf) (fun r => r = nI (vw x (s j))) := by
  refine Mi_of (by decide +kernel) (Nat.le_of_ble_eq_true rfl) ?_
  intro pr ev sx mi ag bl me cd Q ls S hP hK hD hZ hl ret
  obtain ⟨hx, hb, hml, hown, hts⟩ := id S
  have hown : sx.vm.findClass RX1 = some mi.cls := hown
  have hS : va_S (wIn (gW cI h0 h1 h2 h3 h4 h5 h6 p1 p2 n wn t tc sc uw c1 c2 s ow hf tf)) sx.heap sx.heap [] := va_S.rf
  have hl : lv_has ls 3 [(0, .ref h0), (1, .int (nI x)), (2, .int (nI j))] := hl
  refine lv_iload_n hx hb dX1_viewOf_0 rfl (lv_at hl 1 rfl) ?_
  refine lv_aload_n hx hb dX1_viewOf_1 rfl (lv_at hl 0 rfl) ?_
  refine lv_iload_n hx hb dX1_viewOf_2 rfl (lv_at hl 2 rfl) ?_
  refine call_Vp (As := [.int (nI j)]) (rest := [.int (nI x)]) S (m_X1_seenHatsOf h0 h1 h2 h3 h4 h5 h6 p1 p2 n wn t tc sc uw c1 c2 s ow hf tf j (by omega)) g_X1_X1_seenHatsOf hd_X1_seenHatsOf ⟨Nat.le_of_ble_eq_true rfl, Nat.le_of_ble_eq_true rfl⟩ ⟨Nat.zero_le _, Nat.zero_le _⟩ hP hD hK hS hZ [0, 1, 2, 3, 4, 5, 6] rfl (by decide) 0 rfl rfl hl.1 rfl (Nat.le_of_ble_eq_true rfl) dX1_viewOf_3 (fun r H locs hq hP hS => ?_)
  obtain rfl := hq
  refine lv_iand hx hb dX1_viewOf_6 ?_
  refine W_i (y := nI (x &&& (s j))) (nI_and _ _) ?_
  refine lv_sipush (v := nI 1023) hx hb dX1_viewOf_7 (by decide) ?_
  refine lv_iand hx hb dX1_viewOf_10 ?_
  refine W_i (y := nI ((x &&& (s j)) &&& 1023)) (nI_and _ _) ?_
  exact ret _ (gW cI h0 h1 h2 h3 h4 h5 h6 p1 p2 n wn t tc sc uw c1 c2 s ow hf tf) _ _ _ _ dX1_viewOf_11 rfl ⟨rfl, rfl⟩ (List.Perm.refl _) hP hS

set_option maxHeartbeats 4000000 in
set_option maxRecDepth 100000 in
theorem m_X1_agreesWithNow (h0 h1 h2 h3 h4 h5 h6 p1 p2 n wn t tc sc : Nat) (uw : Bool) (c1 c2 : Nat) (s ow hf tf : Nat → Nat) (x k : Nat) (hx2 : x < 1024) (hw : wn < 1024) : Mp l yX1_agreesWithNow ws_X1_agreesWithNow 0 0 (dC, dI) (tyL cI cZ cS cW) [.ref h0, .int (nI x), .int (nI k)] (gW cI h0 h1 h2 h3 h4 h5 h6 p1 p2 n wn t tc sc uw c1 c2 s ow hf tf) (fun r => r = bI (agr wn x k)) := by
  refine Mi_of (by decide +kernel) (Nat.le_of_ble_eq_true rfl) ?_
  intro pr ev sx mi ag bl me cd Q ls S hP hK hD hZ hl ret
  obtain ⟨hx, hb, hml, hown, hts⟩ := id S
  have hown : sx.vm.findClass RX1 = some mi.cls := hown
  have hS : va_S (wIn (gW cI h0 h1 h2 h3 h4 h5 h6 p1 p2 n wn t tc sc uw c1 c2 s ow hf tf)) sx.heap sx.heap [] := va_S.rf
  have hl : lv_has ls 3 [(0, .ref h0), (1, .int (nI x)), (2, .int (nI k))] := hl
  refine lv_iload_n hx hb dX1_agreesWithNow_0 rfl (lv_at hl 1 rfl) ?_
  refine lv_aload_n hx hb dX1_agreesWithNow_1 rfl (lv_at hl 0 rfl) ?_
  refine va_get (D := (dC, dI)) (ci := 1) (v := .int (nI wn)) (C := RX1) (T := TX1) (N := 10) hx hb hts inX1 hown hK hP 0 rfl rfl 5 (by decide) (hts _ q_fl_X1_30) (fun _ h9 => h9) rfl dX1_agreesWithNow_2 ?_
  refine lv_ixor hx hb dX1_agreesWithNow_5 ?_
  refine W_i (y := nI (x ^^^ wn)) (nI_xor _ _) ?_
  refine lv_iload_n hx hb dX1_agreesWithNow_6 rfl (lv_at hl 2 rfl) ?_
  refine lv_iand hx hb dX1_agreesWithNow_7 ?_
  refine W_i (y := nI ((x ^^^ wn) &&& k)) (nI_and _ _) ?_
  refine ifN_ne (tgt := 15) hx hb dX1_agreesWithNow_8 (by decide) (lt_31 (and_l (xor_k hx2 hw))) (fun c_8 => ?_) (fun c_8 => ?_)
  · refine lv_iconst (v := nI 0) hx hb dX1_agreesWithNow_15 (by decide) ?_
    exact ret _ (gW cI h0 h1 h2 h3 h4 h5 h6 p1 p2 n wn t tc sc uw c1 c2 s ow hf tf) _ _ _ _ dX1_agreesWithNow_16 rfl ⟨rfl, bI_f (by simp [agr, c_8])⟩ (List.Perm.refl _) hP hS
  · refine lv_iconst (v := nI 1) hx hb dX1_agreesWithNow_11 (by decide) ?_
    refine lv_goto (tgt := 16) hx hb dX1_agreesWithNow_12 (by decide) ?_
    exact ret _ (gW cI h0 h1 h2 h3 h4 h5 h6 p1 p2 n wn t tc sc uw c1 c2 s ow hf tf) _ _ _ _ dX1_agreesWithNow_16 rfl ⟨rfl, bI_t (by simp [agr, c_8])⟩ (List.Perm.refl _) hP hS

end
