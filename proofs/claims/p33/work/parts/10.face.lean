/-! what the public methods answer -/
theorem xch_lt {x p q : Nat} (hx : x < 1024) (hp : p < 5) (hq : q < 5) : xch x p q < 1024 := by
  have h4 : ∀ a, a < 4 → ∀ p, p < 5 → a * 2 ^ (p * 2) < 1024 := by decide
  have ha : qd x p ^^^ qd x q < 4 := Nat.xor_lt_two_pow (n := 2) (qd_lt x p) (qd_lt x q)
  exact xor_k (xor_k hx (h4 _ ha p hp)) (h4 _ ha q hq)
def canL : Nat → List Nat
  | 0 => [0]
  | i + 1 => ocL i (canL i) 2
theorem p3_81 : ∀ i, i < 5 → 3 ^ i ≤ 81 := by decide
def naming (n c : Nat) (L : List Nat) : Nat := L.countP (fun x => !(hatsN n x c == 0))
theorem naming_le (n c : Nat) (f : Nat → Nat) (k : Nat) : naming n c (Lof f k) ≤ k := by
  have := List.countP_le_length (p := fun x => !(hatsN n x c == 0)) (l := Lof f k)
  rw [Lof_len] at this; exact this
def bstN (n wn : Nat) (L : List Nat) : Nat → Option Nat × Nat
  | 0 => (none, 244)
  | c + 1 => if hatsN n wn c ≠ 0 ∧ naming n c L < (bstN n wn L c).2 then (some c, naming n c L) else bstN n wn L c
def possN (wn m : Nat) (L : List Nat) : Nat := L.countP (fun x => agr wn x m)
theorem possN_le (wn m : Nat) (f : Nat → Nat) (k : Nat) : possN wn m (Lof f k) ≤ k := by
  have := List.countP_le_length (p := fun x => agr wn x m) (l := Lof f k)
  rw [Lof_len] at this; exact this
def sumP (wn : Nat) (s : Nat → Nat) (L : List Nat) : Nat → Nat
  | 0 => 0
  | p + 1 => sumP wn s L p + possN wn (s p) L
theorem sumP_le (wn : Nat) (s : Nat → Nat) (f : Nat → Nat) (k : Nat) : ∀ p, sumP wn s (Lof f k) p ≤ p * k
  | 0 => by simp [sumP]
  | p + 1 => by
    have := sumP_le wn s f k p
    have h2 := possN_le wn (s p) f k
    simp only [sumP, Nat.succ_mul]; omega
theorem dok1 : ∀ a, a < 1216 → vf_n64 (FP.ddiv (FP.i2d (nI a)) (FP.i2d (nI 1))) := by unfold vf_n64; decide +kernel
theorem dok2 : ∀ a, a < 1216 → vf_n64 (FP.ddiv (FP.i2d (nI a)) (FP.i2d (nI 2))) := by unfold vf_n64; decide +kernel
theorem dok3 : ∀ a, a < 1216 → vf_n64 (FP.ddiv (FP.i2d (nI a)) (FP.i2d (nI 3))) := by unfold vf_n64; decide +kernel
theorem dok4 : ∀ a, a < 1216 → vf_n64 (FP.ddiv (FP.i2d (nI a)) (FP.i2d (nI 4))) := by unfold vf_n64; decide +kernel
theorem dok5 : ∀ a, a < 1216 → vf_n64 (FP.ddiv (FP.i2d (nI a)) (FP.i2d (nI 5))) := by unfold vf_n64; decide +kernel
theorem ddiv_ok {a n : Nat} (h1 : 0 < n) (h2 : n ≤ 5) (ha : a ≤ n * 243) : vf_n64 (FP.ddiv (FP.i2d (nI a)) (FP.i2d (nI n))) := by
  rcases (show n = 1 ∨ n = 2 ∨ n = 3 ∨ n = 4 ∨ n = 5 by omega) with rfl | rfl | rfl | rfl | rfl
  · exact dok1 a (by omega)
  · exact dok2 a (by omega)
  · exact dok3 a (by omega)
  · exact dok4 a (by omega)
  · exact dok5 a (by omega)
def meanN (n sum : Nat) : UInt64 := if n = 0 then FP.dconst0 else FP.ddiv (FP.i2d (nI sum)) (FP.i2d (nI n))
def sureL (wn m mo k : Nat) (L : List Nat) : Bool := L.all (fun x => !agr wn x m || wbc mo k L x)
theorem sure_t {wn m mo k c : Nat} {f : Nat → Nat} (h : ∀ j, j < c → agr wn (f j) m = true → wbc mo k (Lof f c) (f j) = true) : sureL wn m mo k (Lof f c) = true := by
  refine List.all_eq_true.mpr (fun x hx => ?_)
  obtain ⟨j, hj, rfl⟩ := Lof_mem.mp hx
  cases ha : agr wn (f j) m with
  | false => simp
  | true => simp [h j hj ha]
theorem sure_f {wn m mo k c i : Nat} {f : Nat → Nat} (hi : i < c) (ha : agr wn (f i) m = true) (hb : wbc mo k (Lof f c) (f i) = false) : sureL wn m mo k (Lof f c) = false := by
  cases hc : sureL wn m mo k (Lof f c) with
  | false => rfl
  | true =>
    have := List.all_eq_true.mp hc (f i) (Lof_mem.mpr ⟨i, hi, rfl⟩)
    rw [ha, hb] at this
    exact absurd this (by decide)
theorem nb_t {x : Nat} (h : x ≠ 0) : (!(x == 0)) = true := by simp [h]
theorem nb_f {x : Nat} (h : x = 0) : (!(x == 0)) = false := by simp [h]
def toldL (wn p : Nat) (L : List Nat) : List Nat := L.filter (fun x => qd x p == qd wn p)
def seeN (s : Nat → Nat) (p k : Nat) : Bool := !((s p &&& (3 * 2 ^ (k * 2))) == 0)
def knwN (wn m k : Nat) (L : List Nat) : Bool := one1 (pcol wn m k L)
def allN (wn p : Nat) (L : List Nat) : Bool := L.countP (fun x => qd x p == qd wn p) == L.length
def dg (d : Int64) (x : Int32) : Int64 := d * 31 + x.toInt64
def dgB (d : Int64) (b : Bool) : Int64 := d * 31 + (if b then 1 else 0)
def dgO (wn : Nat) (s : Nat → Nat) (L : List Nat) (p : Nat) (d : Int64) : Nat → Int64
  | 0 => d
  | k + 1 => dgB (dgB (dgB (dgO wn s L p d k) (seeN s p k)) (knwN wn (s p) k L)) (sureL wn (s p) (s k) k L)
def dgP (n wn : Nat) (s : Nat → Nat) (L : List Nat) (p : Nat) (d : Int64) : Int64 :=
  dgO wn s L p (dg (dgB (dgB (dg (dg d (nI (qd wn p))) (nI (possN wn (s p) L))) (cert wn (s p) p L)) (allN wn p L)) (nI (certN wn s (toldL wn p L) n))) n
def dgA (n wn : Nat) (s : Nat → Nat) (L : List Nat) (d : Int64) : Nat → Int64
  | 0 => d
  | p + 1 => dgP n wn s L p (dgA n wn s L d p)
def whoI (n t : Nat) : Int32 := if n = 0 then -1 else nI t
def aftI (n wn t : Nat) (s : Nat → Nat) (L : List Nat) : Int32 := if n = 0 then 0 else nI (turnL wn (s t) t L).length
def digN (n wn t tc sc : Nat) (s : Nat → Nat) (L : List Nat) : Int64 :=
  dgA n wn s L (dg (dg (dg (dg (dg (dg (dg (dg 2053 (nI n)) (nI tc)) (nI sc)) (whoI n t)) (nI L.length)) (nI (certN wn s L n))) (oI (bstN n wn L 3).1)) (aftI n wn t s L)) n
section
variable {l : Launch} {dC : Nat → ClassId} {dI : Nat → Nat → Nat} {cI cZ cS cW : ClassId}

set_option maxHeartbeats 4000000 in
set_option maxRecDepth 100000 in
theorem m_X1_requirePlayer (h0 h1 h2 h3 h4 h5 h6 p1 p2 n wn t tc sc : Nat) (uw : Bool) (c1 c2 : Nat) (s ow hf tf : Nat → Nat) (j : Nat) (hj : j < n) (hn : n ≤ 5) : Mv l yX1_requirePlayer ws_X1_requirePlayer 0 0 (dC, dI) (tyL cI cZ cS cW) [.ref h0, .int (nI j)] (gW cI h0 h1 h2 h3 h4 h5 h6 p1 p2 n wn t tc sc uw c1 c2 s ow hf tf) (fun u => u = gW cI h0 h1 h2 h3 h4 h5 h6 p1 p2 n wn t tc sc uw c1 c2 s ow hf tf) := by
  refine Mv_of (by decide +kernel) (Nat.le_of_ble_eq_true rfl) ?_
  intro pr ev sx mi ag bl me cd Q ls S hP hK hD hZ hl ret
  obtain ⟨hx, hb, hml, hown, hts⟩ := id S
  have hown : sx.vm.findClass RX1 = some mi.cls := hown
  have hS : va_S (wIn (gW cI h0 h1 h2 h3 h4 h5 h6 p1 p2 n wn t tc sc uw c1 c2 s ow hf tf)) sx.heap sx.heap [] := va_S.rf
  have hl : lv_has ls 2 [(0, .ref h0), (1, .int (nI j))] := hl
  refine lv_iload_n hx hb dX1_requirePlayer_0 rfl (lv_at hl 1 rfl) ?_
  refine ifN_lt (tgt := 12) hx hb dX1_requirePlayer_1 (by decide) (by omega) (fun c_1 => absurd c_1 id) (fun c_1 => ?_)
  refine lv_iload_n hx hb dX1_requirePlayer_4 rfl (lv_at hl 1 rfl) ?_
  refine lv_aload_n hx hb dX1_requirePlayer_5 rfl (lv_at hl 0 rfl) ?_
  refine va_get (D := (dC, dI)) (ci := 1) (v := .int (nI n)) (C := RX1) (T := TX1) (N := 10) hx hb hts inX1 hown hK hP 0 rfl rfl 4 (by decide) (hts _ q_fl_X1_26) (fun _ h9 => h9) rfl dX1_requirePlayer_6 ?_
  refine icN_lt (tgt := 22) hx hb dX1_requirePlayer_9 (by decide) (by omega) (by omega) (fun c_9 => ?_) (fun c_9 => absurd c_9 (by omega))
  exact ret (gW cI h0 h1 h2 h3 h4 h5 h6 p1 p2 n wn t tc sc uw c1 c2 s ow hf tf) _ _ _ _ dX1_requirePlayer_22 rfl (List.Perm.refl _) hP hS

set_option maxHeartbeats 4000000 in
set_option maxRecDepth 100000 in
theorem m_X1_requireTwoPlayers (h0 h1 h2 h3 h4 h5 h6 p1 p2 n wn t tc sc : Nat) (uw : Bool) (c1 c2 : Nat) (s ow hf tf : Nat → Nat) (j k : Nat) (hj : j < n) (hk : k < n) (hn : n ≤ 5) (hjk : j ≠ k) : Mv l yX1_requireTwoPlayers ws_X1_requireTwoPlayers 1 21 (dC, dI) (tyL cI cZ cS cW) [.ref h0, .int (nI j), .int (nI k)] (gW cI h0 h1 h2 h3 h4 h5 h6 p1 p2 n wn t tc sc uw c1 c2 s ow hf tf) (fun u => u = gW cI h0 h1 h2 h3 h4 h5 h6 p1 p2 n wn t tc sc uw c1 c2 s ow hf tf) := by
  refine Mv_of (by decide +kernel) (Nat.le_of_ble_eq_true rfl) ?_
  intro pr ev sx mi ag bl me cd Q ls S hP hK hD hZ hl ret
  obtain ⟨hx, hb, hml, hown, hts⟩ := id S
  have hown : sx.vm.findClass RX1 = some mi.cls := hown
  have hS : va_S (wIn (gW cI h0 h1 h2 h3 h4 h5 h6 p1 p2 n wn t tc sc uw c1 c2 s ow hf tf)) sx.heap sx.heap [] := va_S.rf
  have hl : lv_has ls 3 [(0, .ref h0), (1, .int (nI j)), (2, .int (nI k))] := hl
  refine lv_aload_n hx hb dX1_requireTwoPlayers_0 rfl (lv_at hl 0 rfl) ?_
  refine lv_iload_n hx hb dX1_requireTwoPlayers_1 rfl (lv_at hl 1 rfl) ?_
  refine call_Vv (As := [.int (nI j)]) (wr := []) (rest := []) S (m_X1_requirePlayer h0 h1 h2 h3 h4 h5 h6 p1 p2 n wn t tc sc uw c1 c2 s ow hf tf j (by omega) hn) g_X1_X1_requirePlayer hd_X1_requirePlayer ⟨Nat.le_of_ble_eq_true rfl, Nat.le_of_ble_eq_true rfl⟩ ⟨Nat.zero_le _, Nat.zero_le _⟩ hP hD hK hS hZ [0, 1, 2, 3, 4, 5, 6] [] rfl rfl (by decide) 0 rfl rfl hl.1 rfl (Nat.le_of_ble_eq_true rfl) dX1_requireTwoPlayers_2 (fun u H locs hq hP hD hS => ?_)
  obtain rfl := hq
  have hP : va_P (dC, dI) vwCl (gW cI h0 h1 h2 h3 h4 h5 h6 p1 p2 n wn t tc sc uw c1 c2 s ow hf tf) H := hP
  have hD : va_D (wIn (gW cI h0 h1 h2 h3 h4 h5 h6 p1 p2 n wn t tc sc uw c1 c2 s ow hf tf)) (gW cI h0 h1 h2 h3 h4 h5 h6 p1 p2 n wn t tc sc uw c1 c2 s ow hf tf) := hD
  refine lv_aload_n hx hb dX1_requireTwoPlayers_5 rfl (lv_at hl 0 rfl) ?_
  refine lv_iload_n hx hb dX1_requireTwoPlayers_6 rfl (lv_at hl 2 rfl) ?_
  refine call_Vv (As := [.int (nI k)]) (wr := []) (rest := []) S (m_X1_requirePlayer h0 h1 h2 h3 h4 h5 h6 p1 p2 n wn t tc sc uw c1 c2 s ow hf tf k (by omega) hn) g_X1_X1_requirePlayer hd_X1_requirePlayer ⟨Nat.le_of_ble_eq_true rfl, Nat.le_of_ble_eq_true rfl⟩ ⟨Nat.zero_le _, Nat.zero_le _⟩ hP hD hK hS hZ [0, 1, 2, 3, 4, 5, 6] [] rfl rfl (by decide) 0 rfl rfl hl.1 rfl (Nat.le_of_ble_eq_true rfl) dX1_requireTwoPlayers_7 (fun u H locs hq hP hD hS => ?_)
  obtain rfl := hq
  have hP : va_P (dC, dI) vwCl (gW cI h0 h1 h2 h3 h4 h5 h6 p1 p2 n wn t tc sc uw c1 c2 s ow hf tf) H := hP
  have hD : va_D (wIn (gW cI h0 h1 h2 h3 h4 h5 h6 p1 p2 n wn t tc sc uw c1 c2 s ow hf tf)) (gW cI h0 h1 h2 h3 h4 h5 h6 p1 p2 n wn t tc sc uw c1 c2 s ow hf tf) := hD
  refine lv_iload_n hx hb dX1_requireTwoPlayers_10 rfl (lv_at hl 1 rfl) ?_
  refine lv_iload_n hx hb dX1_requireTwoPlayers_11 rfl (lv_at hl 2 rfl) ?_
  refine icN_ne (tgt := 25) hx hb dX1_requireTwoPlayers_12 (by decide) (by omega) (by omega) (fun c_12 => ?_) (fun c_12 => absurd c_12 hjk)
  exact ret (gW cI h0 h1 h2 h3 h4 h5 h6 p1 p2 n wn t tc sc uw c1 c2 s ow hf tf) _ _ _ _ dX1_requireTwoPlayers_25 rfl (List.Perm.refl _) hP hS

set_option maxHeartbeats 4000000 in
set_option maxRecDepth 100000 in
theorem m_X1_requireSomePlayer (h0 h1 h2 h3 h4 h5 h6 p1 p2 n wn t tc sc : Nat) (uw : Bool) (c1 c2 : Nat) (s ow hf tf : Nat → Nat) (h0n : 0 < n) (hn : n ≤ 5) : Mv l yX1_requireSomePlayer ws_X1_requireSomePlayer 0 0 (dC, dI) (tyL cI cZ cS cW) [.ref h0] (gW cI h0 h1 h2 h3 h4 h5 h6 p1 p2 n wn t tc sc uw c1 c2 s ow hf tf) (fun u => u = gW cI h0 h1 h2 h3 h4 h5 h6 p1 p2 n wn t tc sc uw c1 c2 s ow hf tf) := by
  refine Mv_of (by decide +kernel) (Nat.le_of_ble_eq_true rfl) ?_
  intro pr ev sx mi ag bl me cd Q ls S hP hK hD hZ hl ret
  obtain ⟨hx, hb, hml, hown, hts⟩ := id S
  have hown : sx.vm.findClass RX1 = some mi.cls := hown
  have hS : va_S (wIn (gW cI h0 h1 h2 h3 h4 h5 h6 p1 p2 n wn t tc sc uw c1 c2 s ow hf tf)) sx.heap sx.heap [] := va_S.rf
  have hl : lv_has ls 1 [(0, .ref h0)] := hl
  refine lv_aload_n hx hb dX1_requireSomePlayer_0 rfl (lv_at hl 0 rfl) ?_
  refine va_get (D := (dC, dI)) (ci := 1) (v := .int (nI n)) (C := RX1) (T := TX1) (N := 10) hx hb hts inX1 hown hK hP 0 rfl rfl 4 (by decide) (hts _ q_fl_X1_26) (fun _ h9 => h9) rfl dX1_requireSomePlayer_1 ?_
  refine ifN_gt (tgt := 17) hx hb dX1_requireSomePlayer_4 (by decide) (by omega) (fun c_4 => ?_) (fun c_4 => absurd c_4 (by omega))
  exact ret (gW cI h0 h1 h2 h3 h4 h5 h6 p1 p2 n wn t tc sc uw c1 c2 s ow hf tf) _ _ _ _ dX1_requireSomePlayer_17 rfl (List.Perm.refl _) hP hS

set_option maxHeartbeats 4000000 in
set_option maxRecDepth 100000 in
theorem m_X1_requireColour (co : Nat) (hco : co < 3) : Mv l yX1_requireColour ws_X1_requireColour 0 0 (dC, dI) (tyL cI cZ cS cW) [.int (nI co)] ([]) (fun u => u = []) := by
  refine Mv_of (by decide +kernel) (Nat.le_of_ble_eq_true rfl) ?_
  intro pr ev sx mi ag bl me cd Q ls S hP hK hD hZ hl ret
  obtain ⟨hx, hb, hml, hown, hts⟩ := id S
  have hown : sx.vm.findClass RX1 = some mi.cls := hown
  have hS : va_S (wIn ([])) sx.heap sx.heap [] := va_S.rf
  have hl : lv_has ls 1 [(0, .int (nI co))] := hl
  refine lv_iload_n hx hb dX1_requireColour_0 rfl (lv_at hl 0 rfl) ?_
  refine ifN_lt (tgt := 9) hx hb dX1_requireColour_1 (by decide) (by omega) (fun c_1 => absurd c_1 id) (fun c_1 => ?_)
  refine lv_iload_n hx hb dX1_requireColour_4 rfl (lv_at hl 0 rfl) ?_
  refine lv_iconst (v := nI 3) hx hb dX1_requireColour_5 (by decide) ?_
  refine icN_lt (tgt := 19) hx hb dX1_requireColour_6 (by decide) (by omega) (by omega) (fun c_6 => ?_) (fun c_6 => absurd c_6 (by omega))
  exact ret ([]) _ _ _ _ dX1_requireColour_19 rfl (List.Perm.refl _) hP hS

set_option maxHeartbeats 4000000 in
set_option maxRecDepth 100000 in
theorem m_X1_requireMany (co : Nat) (hco : co < 6) : Mv l yX1_requireMany ws_X1_requireMany 0 0 (dC, dI) (tyL cI cZ cS cW) [.int (nI co)] ([]) (fun u => u = []) := by
  refine Mv_of (by decide +kernel) (Nat.le_of_ble_eq_true rfl) ?_
  intro pr ev sx mi ag bl me cd Q ls S hP hK hD hZ hl ret
  obtain ⟨hx, hb, hml, hown, hts⟩ := id S
  have hown : sx.vm.findClass RX1 = some mi.cls := hown
  have hS : va_S (wIn ([])) sx.heap sx.heap [] := va_S.rf
  have hl : lv_has ls 1 [(0, .int (nI co))] := hl
  refine lv_iload_n hx hb dX1_requireMany_0 rfl (lv_at hl 0 rfl) ?_
  refine ifN_lt (tgt := 9) hx hb dX1_requireMany_1 (by decide) (by omega) (fun c_1 => absurd c_1 id) (fun c_1 => ?_)
  refine lv_iload_n hx hb dX1_requireMany_4 rfl (lv_at hl 0 rfl) ?_
  refine lv_iconst (v := nI 5) hx hb dX1_requireMany_5 (by decide) ?_
  refine icN_le (tgt := 19) hx hb dX1_requireMany_6 (by decide) (by omega) (by omega) (fun c_6 => ?_) (fun c_6 => absurd c_6 (by omega))
  exact ret ([]) _ _ _ _ dX1_requireMany_19 rfl (List.Perm.refl _) hP hS

set_option maxHeartbeats 4000000 in
set_option maxRecDepth 100000 in
theorem m_X1_players (h0 h1 h2 h3 h4 h5 h6 n wn t tc sc : Nat) (uw : Bool) (c1 c2 : Nat) (s ow hf tf : Nat → Nat)  (hn : n ≤ 5) (hw : wn < 1024) (hs : ∀ p, p < 5 → s p < 1024) (hc1 : c1 ≤ 243) (hb1 : ∀ j, j < c1 → hf j < 1024) : Mp l yX1_players ws_X1_players 0 0 (dC, dI) (tyL cI cZ cS cW) [.ref h0] (gW cI h0 h1 h2 h3 h4 h5 h6 h1 h2 n wn t tc sc uw c1 c2 s ow hf tf) (fun r => r = nI n) := by
  refine Mi_of (by decide +kernel) (Nat.le_of_ble_eq_true rfl) ?_
  intro pr ev sx mi ag bl me cd Q ls S hP hK hD hZ hl ret
  obtain ⟨hx, hb, hml, hown, hts⟩ := id S
  have hown : sx.vm.findClass RX1 = some mi.cls := hown
  have hS : va_S (wIn (gW cI h0 h1 h2 h3 h4 h5 h6 h1 h2 n wn t tc sc uw c1 c2 s ow hf tf)) sx.heap sx.heap [] := va_S.rf
  have hl : lv_has ls 1 [(0, .ref h0)] := hl
  refine lv_aload_n hx hb dX1_players_0 rfl (lv_at hl 0 rfl) ?_
  refine va_get (D := (dC, dI)) (ci := 1) (v := .int (nI n)) (C := RX1) (T := TX1) (N := 10) hx hb hts inX1 hown hK hP 0 rfl rfl 4 (by decide) (hts _ q_fl_X1_26) (fun _ h9 => h9) rfl dX1_players_1 ?_
  exact ret _ (gW cI h0 h1 h2 h3 h4 h5 h6 h1 h2 n wn t tc sc uw c1 c2 s ow hf tf) _ _ _ _ dX1_players_4 rfl ⟨rfl, rfl⟩ (List.Perm.refl _) hP hS

set_option maxHeartbeats 4000000 in
set_option maxRecDepth 100000 in
theorem m_X1_turnsTaken (h0 h1 h2 h3 h4 h5 h6 n wn t tc sc : Nat) (uw : Bool) (c1 c2 : Nat) (s ow hf tf : Nat → Nat)  (hn : n ≤ 5) (hw : wn < 1024) (hs : ∀ p, p < 5 → s p < 1024) (hc1 : c1 ≤ 243) (hb1 : ∀ j, j < c1 → hf j < 1024) : Mp l yX1_turnsTaken ws_X1_turnsTaken 0 0 (dC, dI) (tyL cI cZ cS cW) [.ref h0] (gW cI h0 h1 h2 h3 h4 h5 h6 h1 h2 n wn t tc sc uw c1 c2 s ow hf tf) (fun r => r = nI tc) := by
  refine Mi_of (by decide +kernel) (Nat.le_of_ble_eq_true rfl) ?_
  intro pr ev sx mi ag bl me cd Q ls S hP hK hD hZ hl ret
  obtain ⟨hx, hb, hml, hown, hts⟩ := id S
  have hown : sx.vm.findClass RX1 = some mi.cls := hown
  have hS : va_S (wIn (gW cI h0 h1 h2 h3 h4 h5 h6 h1 h2 n wn t tc sc uw c1 c2 s ow hf tf)) sx.heap sx.heap [] := va_S.rf
  have hl : lv_has ls 1 [(0, .ref h0)] := hl
  refine lv_aload_n hx hb dX1_turnsTaken_0 rfl (lv_at hl 0 rfl) ?_
  refine va_get (D := (dC, dI)) (ci := 1) (v := .int (nI tc)) (C := RX1) (T := TX1) (N := 10) hx hb hts inX1 hown hK hP 0 rfl rfl 7 (by decide) (hts _ q_fl_X1_36) (fun _ h9 => h9) rfl dX1_turnsTaken_1 ?_
  exact ret _ (gW cI h0 h1 h2 h3 h4 h5 h6 h1 h2 n wn t tc sc uw c1 c2 s ow hf tf) _ _ _ _ dX1_turnsTaken_4 rfl ⟨rfl, rfl⟩ (List.Perm.refl _) hP hS

set_option maxHeartbeats 4000000 in
set_option maxRecDepth 100000 in
theorem m_X1_silentTurns (h0 h1 h2 h3 h4 h5 h6 n wn t tc sc : Nat) (uw : Bool) (c1 c2 : Nat) (s ow hf tf : Nat → Nat)  (hn : n ≤ 5) (hw : wn < 1024) (hs : ∀ p, p < 5 → s p < 1024) (hc1 : c1 ≤ 243) (hb1 : ∀ j, j < c1 → hf j < 1024) : Mp l yX1_silentTurns ws_X1_silentTurns 0 0 (dC, dI) (tyL cI cZ cS cW) [.ref h0] (gW cI h0 h1 h2 h3 h4 h5 h6 h1 h2 n wn t tc sc uw c1 c2 s ow hf tf) (fun r => r = nI sc) := by
  refine Mi_of (by decide +kernel) (Nat.le_of_ble_eq_true rfl) ?_
  intro pr ev sx mi ag bl me cd Q ls S hP hK hD hZ hl ret
  obtain ⟨hx, hb, hml, hown, hts⟩ := id S
  have hown : sx.vm.findClass RX1 = some mi.cls := hown
  have hS : va_S (wIn (gW cI h0 h1 h2 h3 h4 h5 h6 h1 h2 n wn t tc sc uw c1 c2 s ow hf tf)) sx.heap sx.heap [] := va_S.rf
  have hl : lv_has ls 1 [(0, .ref h0)] := hl
  refine lv_aload_n hx hb dX1_silentTurns_0 rfl (lv_at hl 0 rfl) ?_
  refine va_get (D := (dC, dI)) (ci := 1) (v := .int (nI sc)) (C := RX1) (T := TX1) (N := 10) hx hb hts inX1 hown hK hP 0 rfl rfl 8 (by decide) (hts _ q_fl_X1_39) (fun _ h9 => h9) rfl dX1_silentTurns_1 ?_
  exact ret _ (gW cI h0 h1 h2 h3 h4 h5 h6 h1 h2 n wn t tc sc uw c1 c2 s ow hf tf) _ _ _ _ dX1_silentTurns_4 rfl ⟨rfl, rfl⟩ (List.Perm.refl _) hP hS

set_option maxHeartbeats 4000000 in
set_option maxRecDepth 100000 in
theorem m_X1_playerInTurn (h0 h1 h2 h3 h4 h5 h6 n wn t tc sc : Nat) (uw : Bool) (c1 c2 : Nat) (s ow hf tf : Nat → Nat)  (hn : n ≤ 5) (hw : wn < 1024) (hs : ∀ p, p < 5 → s p < 1024) (hc1 : c1 ≤ 243) (hb1 : ∀ j, j < c1 → hf j < 1024) : Mp l yX1_playerInTurn ws_X1_playerInTurn 0 0 (dC, dI) (tyL cI cZ cS cW) [.ref h0] (gW cI h0 h1 h2 h3 h4 h5 h6 h1 h2 n wn t tc sc uw c1 c2 s ow hf tf) (fun r => r = whoI n t) := by
  refine Mi_of (by decide +kernel) (Nat.le_of_ble_eq_true rfl) ?_
  intro pr ev sx mi ag bl me cd Q ls S hP hK hD hZ hl ret
  obtain ⟨hx, hb, hml, hown, hts⟩ := id S
  have hown : sx.vm.findClass RX1 = some mi.cls := hown
  have hS : va_S (wIn (gW cI h0 h1 h2 h3 h4 h5 h6 h1 h2 n wn t tc sc uw c1 c2 s ow hf tf)) sx.heap sx.heap [] := va_S.rf
  have hl : lv_has ls 1 [(0, .ref h0)] := hl
  refine lv_aload_n hx hb dX1_playerInTurn_0 rfl (lv_at hl 0 rfl) ?_
  refine va_get (D := (dC, dI)) (ci := 1) (v := .int (nI n)) (C := RX1) (T := TX1) (N := 10) hx hb hts inX1 hown hK hP 0 rfl rfl 4 (by decide) (hts _ q_fl_X1_26) (fun _ h9 => h9) rfl dX1_playerInTurn_1 ?_
  refine ifN_le (tgt := 14) hx hb dX1_playerInTurn_4 (by decide) (by omega) (fun c_4 => ?_) (fun c_4 => ?_)
  · refine lv_iconst (v := (-1)) hx hb dX1_playerInTurn_14 (by decide) ?_
    exact ret _ (gW cI h0 h1 h2 h3 h4 h5 h6 h1 h2 n wn t tc sc uw c1 c2 s ow hf tf) _ _ _ _ dX1_playerInTurn_15 rfl ⟨rfl, by rw [whoI, if_pos c_4]⟩ (List.Perm.refl _) hP hS
  · refine lv_aload_n hx hb dX1_playerInTurn_7 rfl (lv_at hl 0 rfl) ?_
    refine va_get (D := (dC, dI)) (ci := 1) (v := .int (nI t)) (C := RX1) (T := TX1) (N := 10) hx hb hts inX1 hown hK hP 0 rfl rfl 6 (by decide) (hts _ q_fl_X1_33) (fun _ h9 => h9) rfl dX1_playerInTurn_8 ?_
    refine lv_goto (tgt := 15) hx hb dX1_playerInTurn_11 (by decide) ?_
    exact ret _ (gW cI h0 h1 h2 h3 h4 h5 h6 h1 h2 n wn t tc sc uw c1 c2 s ow hf tf) _ _ _ _ dX1_playerInTurn_15 rfl ⟨rfl, by rw [whoI, if_neg (by omega)]⟩ (List.Perm.refl _) hP hS

set_option maxHeartbeats 4000000 in
set_option maxRecDepth 100000 in
theorem m_X1_hatOf (h0 h1 h2 h3 h4 h5 h6 n wn t tc sc : Nat) (uw : Bool) (c1 c2 : Nat) (s ow hf tf : Nat → Nat) (j : Nat) (hj : j < n) (hn : n ≤ 5) (hw : wn < 1024) (hs : ∀ p, p < 5 → s p < 1024) (hc1 : c1 ≤ 243) (hb1 : ∀ j, j < c1 → hf j < 1024) : Mp l yX1_hatOf ws_X1_hatOf 1 21 (dC, dI) (tyL cI cZ cS cW) [.ref h0, .int (nI j)] (gW cI h0 h1 h2 h3 h4 h5 h6 h1 h2 n wn t tc sc uw c1 c2 s ow hf tf) (fun r => r = nI (qd wn j)) := by
  refine Mi_of (by decide +kernel) (Nat.le_of_ble_eq_true rfl) ?_
  intro pr ev sx mi ag bl me cd Q ls S hP hK hD hZ hl ret
  obtain ⟨hx, hb, hml, hown, hts⟩ := id S
  have hown : sx.vm.findClass RX1 = some mi.cls := hown
  have hS : va_S (wIn (gW cI h0 h1 h2 h3 h4 h5 h6 h1 h2 n wn t tc sc uw c1 c2 s ow hf tf)) sx.heap sx.heap [] := va_S.rf
  have hl : lv_has ls 2 [(0, .ref h0), (1, .int (nI j))] := hl
  refine lv_aload_n hx hb dX1_hatOf_0 rfl (lv_at hl 0 rfl) ?_
  refine lv_iload_n hx hb dX1_hatOf_1 rfl (lv_at hl 1 rfl) ?_
  refine call_Vv (As := [.int (nI j)]) (wr := []) (rest := []) S (m_X1_requirePlayer h0 h1 h2 h3 h4 h5 h6 h1 h2 n wn t tc sc uw c1 c2 s ow hf tf j (by omega) hn) g_X1_X1_requirePlayer hd_X1_requirePlayer ⟨Nat.le_of_ble_eq_true rfl, Nat.le_of_ble_eq_true rfl⟩ ⟨Nat.zero_le _, Nat.zero_le _⟩ hP hD hK hS hZ [0, 1, 2, 3, 4, 5, 6] [] rfl rfl (by decide) 0 rfl rfl hl.1 rfl (Nat.le_of_ble_eq_true rfl) dX1_hatOf_2 (fun u H locs hq hP hD hS => ?_)
  obtain rfl := hq
  have hP : va_P (dC, dI) vwCl (gW cI h0 h1 h2 h3 h4 h5 h6 h1 h2 n wn t tc sc uw c1 c2 s ow hf tf) H := hP
  have hD : va_D (wIn (gW cI h0 h1 h2 h3 h4 h5 h6 h1 h2 n wn t tc sc uw c1 c2 s ow hf tf)) (gW cI h0 h1 h2 h3 h4 h5 h6 h1 h2 n wn t tc sc uw c1 c2 s ow hf tf) := hD
  refine lv_aload_n hx hb dX1_hatOf_5 rfl (lv_at hl 0 rfl) ?_
  refine va_get (D := (dC, dI)) (ci := 1) (v := .int (nI wn)) (C := RX1) (T := TX1) (N := 10) hx hb hts inX1 hown hK hP 0 rfl rfl 5 (by decide) (hts _ q_fl_X1_30) (fun _ h9 => h9) rfl dX1_hatOf_6 ?_
  refine lv_iload_n hx hb dX1_hatOf_9 rfl (lv_at hl 1 rfl) ?_
  refine call_Sp (As := [.int (nI wn), .int (nI j)]) (rest := []) S (m_X1_colourIn wn j hw (by omega)) g_X1_X1_colourIn hd_X1_colourIn ⟨Nat.le_of_ble_eq_true rfl, Nat.le_of_ble_eq_true rfl⟩ ⟨Nat.zero_le _, Nat.zero_le _⟩ hP hD hK hS hZ [] rfl (by decide) hl.1 rfl (Nat.le_of_ble_eq_true rfl) dX1_hatOf_10 (fun r H locs hq hP hS => ?_)
  obtain rfl := hq
  exact ret _ (gW cI h0 h1 h2 h3 h4 h5 h6 h1 h2 n wn t tc sc uw c1 c2 s ow hf tf) _ _ _ _ dX1_hatOf_13 rfl ⟨rfl, rfl⟩ (List.Perm.refl _) hP hS

set_option maxHeartbeats 4000000 in
set_option maxRecDepth 100000 in
theorem m_X1_sees (h0 h1 h2 h3 h4 h5 h6 n wn t tc sc : Nat) (uw : Bool) (c1 c2 : Nat) (s ow hf tf : Nat → Nat) (j k : Nat) (hj : j < n) (hk : k < n) (hn : n ≤ 5) (hw : wn < 1024) (hs : ∀ p, p < 5 → s p < 1024) (hc1 : c1 ≤ 243) (hb1 : ∀ j, j < c1 → hf j < 1024) : Mp l yX1_sees ws_X1_sees 3 62 (dC, dI) (tyL cI cZ cS cW) [.ref h0, .int (nI j), .int (nI k)] (gW cI h0 h1 h2 h3 h4 h5 h6 h1 h2 n wn t tc sc uw c1 c2 s ow hf tf) (fun r => r = bI (seeN s j k)) := by
  refine Mi_of (by decide +kernel) (Nat.le_of_ble_eq_true rfl) ?_
  intro pr ev sx mi ag bl me cd Q ls S hP hK hD hZ hl ret
  obtain ⟨hx, hb, hml, hown, hts⟩ := id S
  have hown : sx.vm.findClass RX1 = some mi.cls := hown
  have hS : va_S (wIn (gW cI h0 h1 h2 h3 h4 h5 h6 h1 h2 n wn t tc sc uw c1 c2 s ow hf tf)) sx.heap sx.heap [] := va_S.rf
  have hl : lv_has ls 3 [(0, .ref h0), (1, .int (nI j)), (2, .int (nI k))] := hl
  refine lv_aload_n hx hb dX1_sees_0 rfl (lv_at hl 0 rfl) ?_
  refine lv_iload_n hx hb dX1_sees_1 rfl (lv_at hl 1 rfl) ?_
  refine call_Vv (As := [.int (nI j)]) (wr := []) (rest := []) S (m_X1_requirePlayer h0 h1 h2 h3 h4 h5 h6 h1 h2 n wn t tc sc uw c1 c2 s ow hf tf j (by omega) hn) g_X1_X1_requirePlayer hd_X1_requirePlayer ⟨Nat.le_of_ble_eq_true rfl, Nat.le_of_ble_eq_true rfl⟩ ⟨Nat.zero_le _, Nat.zero_le _⟩ hP hD hK hS hZ [0, 1, 2, 3, 4, 5, 6] [] rfl rfl (by decide) 0 rfl rfl hl.1 rfl (Nat.le_of_ble_eq_true rfl) dX1_sees_2 (fun u H locs hq hP hD hS => ?_)
  obtain rfl := hq
  have hP : va_P (dC, dI) vwCl (gW cI h0 h1 h2 h3 h4 h5 h6 h1 h2 n wn t tc sc uw c1 c2 s ow hf tf) H := hP
  have hD : va_D (wIn (gW cI h0 h1 h2 h3 h4 h5 h6 h1 h2 n wn t tc sc uw c1 c2 s ow hf tf)) (gW cI h0 h1 h2 h3 h4 h5 h6 h1 h2 n wn t tc sc uw c1 c2 s ow hf tf) := hD
  refine lv_aload_n hx hb dX1_sees_5 rfl (lv_at hl 0 rfl) ?_
  refine lv_iload_n hx hb dX1_sees_6 rfl (lv_at hl 2 rfl) ?_
  refine call_Vv (As := [.int (nI k)]) (wr := []) (rest := []) S (m_X1_requirePlayer h0 h1 h2 h3 h4 h5 h6 h1 h2 n wn t tc sc uw c1 c2 s ow hf tf k (by omega) hn) g_X1_X1_requirePlayer hd_X1_requirePlayer ⟨Nat.le_of_ble_eq_true rfl, Nat.le_of_ble_eq_true rfl⟩ ⟨Nat.zero_le _, Nat.zero_le _⟩ hP hD hK hS hZ [0, 1, 2, 3, 4, 5, 6] [] rfl rfl (by decide) 0 rfl rfl hl.1 rfl (Nat.le_of_ble_eq_true rfl) dX1_sees_7 (fun u H locs hq hP hD hS => ?_)
  obtain rfl := hq
  have hP : va_P (dC, dI) vwCl (gW cI h0 h1 h2 h3 h4 h5 h6 h1 h2 n wn t tc sc uw c1 c2 s ow hf tf) H := hP
  have hD : va_D (wIn (gW cI h0 h1 h2 h3 h4 h5 h6 h1 h2 n wn t tc sc uw c1 c2 s ow hf tf)) (gW cI h0 h1 h2 h3 h4 h5 h6 h1 h2 n wn t tc sc uw c1 c2 s ow hf tf) := hD
  refine lv_aload_n hx hb dX1_sees_10 rfl (lv_at hl 0 rfl) ?_
  refine lv_iload_n hx hb dX1_sees_11 rfl (lv_at hl 1 rfl) ?_
  refine lv_iload_n hx hb dX1_sees_12 rfl (lv_at hl 2 rfl) ?_
  refine call_Vp (As := [.int (nI j), .int (nI k)]) (rest := []) S (m_X1_seesHat h0 h1 h2 h3 h4 h5 h6 h1 h2 n wn t tc sc uw c1 c2 s ow hf tf j k (by omega) (by omega) hs) g_X1_X1_seesHat hd_X1_seesHat ⟨Nat.le_of_ble_eq_true rfl, Nat.le_of_ble_eq_true rfl⟩ ⟨Nat.zero_le _, Nat.zero_le _⟩ hP hD hK hS hZ [0, 1, 2, 3, 4, 5, 6] rfl (by decide) 0 rfl rfl hl.1 rfl (Nat.le_of_ble_eq_true rfl) dX1_sees_13 (fun r H locs hq hP hS => ?_)
  obtain rfl := hq
  exact ret _ (gW cI h0 h1 h2 h3 h4 h5 h6 h1 h2 n wn t tc sc uw c1 c2 s ow hf tf) _ _ _ _ dX1_sees_16 (bI_nar _) ⟨rfl, rfl⟩ (List.Perm.refl _) hP hS

set_option maxHeartbeats 4000000 in
set_option maxRecDepth 100000 in
theorem m_X1_hatsOf (h0 h1 h2 h3 h4 h5 h6 n wn t tc sc : Nat) (uw : Bool) (c1 c2 : Nat) (s ow hf tf : Nat → Nat) (co : Nat) (hco : co < 3) (hn : n ≤ 5) (hw : wn < 1024) (hs : ∀ p, p < 5 → s p < 1024) (hc1 : c1 ≤ 243) (hb1 : ∀ j, j < c1 → hf j < 1024) : Mp l yX1_hatsOf ws_X1_hatsOf 2 45 (dC, dI) (tyL cI cZ cS cW) [.ref h0, .int (nI co)] (gW cI h0 h1 h2 h3 h4 h5 h6 h1 h2 n wn t tc sc uw c1 c2 s ow hf tf) (fun r => r = nI (hatsN n wn co)) := by
  refine Mi_of (by decide +kernel) (Nat.le_of_ble_eq_true rfl) ?_
  intro pr ev sx mi ag bl me cd Q ls S hP hK hD hZ hl ret
  obtain ⟨hx, hb, hml, hown, hts⟩ := id S
  have hown : sx.vm.findClass RX1 = some mi.cls := hown
  have hS : va_S (wIn (gW cI h0 h1 h2 h3 h4 h5 h6 h1 h2 n wn t tc sc uw c1 c2 s ow hf tf)) sx.heap sx.heap [] := va_S.rf
  have hl : lv_has ls 2 [(0, .ref h0), (1, .int (nI co))] := hl
  refine lv_iload_n hx hb dX1_hatsOf_0 rfl (lv_at hl 1 rfl) ?_
  refine call_Sv (As := [.int (nI co)]) (wr := [(h0, .inr (1, [.ref h1, .ref h2, .ref h3, .ref h4, .int (nI n), .int (nI wn), .int (nI t), .int (nI tc), .int (nI sc), .int (bI uw)])), (h1, .inr (0, [.ref h5, .int (nI c1)])), (h2, .inr (0, [.ref h6, .int (nI c2)])), (h3, .inl (cI, 5, .inl (fun k => nI (s k)))), (h4, .inl (cI, 1024, .inl (fun k => nI (ow k)))), (h5, .inl (cI, 243, .inl (fun k => nI (hf k)))), (h6, .inl (cI, 243, .inl (fun k => nI (tf k))))]) (rest := []) S (m_X1_requireColour co (by omega)) g_X1_X1_requireColour hd_X1_requireColour ⟨Nat.le_of_ble_eq_true rfl, Nat.le_of_ble_eq_true rfl⟩ ⟨Nat.zero_le _, Nat.zero_le _⟩ hP hD hK hS hZ [] [0, 1, 2, 3, 4, 5, 6] rfl rfl (by decide) hl.1 rfl (Nat.le_of_ble_eq_true rfl) dX1_hatsOf_1 (fun u H locs hq hP hD hS => ?_)
  obtain rfl := hq
  have hP : va_P (dC, dI) vwCl (gW cI h0 h1 h2 h3 h4 h5 h6 h1 h2 n wn t tc sc uw c1 c2 s ow hf tf) H := hP
  have hD : va_D (wIn (gW cI h0 h1 h2 h3 h4 h5 h6 h1 h2 n wn t tc sc uw c1 c2 s ow hf tf)) (gW cI h0 h1 h2 h3 h4 h5 h6 h1 h2 n wn t tc sc uw c1 c2 s ow hf tf) := hD
  refine lv_aload_n hx hb dX1_hatsOf_4 rfl (lv_at hl 0 rfl) ?_
  refine lv_aload_n hx hb dX1_hatsOf_5 rfl (lv_at hl 0 rfl) ?_
  refine va_get (D := (dC, dI)) (ci := 1) (v := .int (nI wn)) (C := RX1) (T := TX1) (N := 10) hx hb hts inX1 hown hK hP 0 rfl rfl 5 (by decide) (hts _ q_fl_X1_30) (fun _ h9 => h9) rfl dX1_hatsOf_6 ?_
  refine lv_iload_n hx hb dX1_hatsOf_9 rfl (lv_at hl 1 rfl) ?_
  refine call_Vp (As := [.int (nI wn), .int (nI co)]) (rest := []) S (m_X1_hatsIn h0 h1 h2 h3 h4 h5 h6 h1 h2 n wn t tc sc uw c1 c2 s ow hf tf wn co hn hw (by omega)) g_X1_X1_hatsIn hd_X1_hatsIn ⟨Nat.le_of_ble_eq_true rfl, Nat.le_of_ble_eq_true rfl⟩ ⟨Nat.zero_le _, Nat.zero_le _⟩ hP hD hK hS hZ [0, 1, 2, 3, 4, 5, 6] rfl (by decide) 0 rfl rfl hl.1 rfl (Nat.le_of_ble_eq_true rfl) dX1_hatsOf_10 (fun r H locs hq hP hS => ?_)
  obtain rfl := hq
  exact ret _ (gW cI h0 h1 h2 h3 h4 h5 h6 h1 h2 n wn t tc sc uw c1 c2 s ow hf tf) _ _ _ _ dX1_hatsOf_13 rfl ⟨rfl, rfl⟩ (List.Perm.refl _) hP hS

set_option maxHeartbeats 4000000 in
set_option maxRecDepth 100000 in
theorem m_X1_openWays (h0 h1 h2 h3 h4 h5 h6 n wn t tc sc : Nat) (uw : Bool) (c1 c2 : Nat) (s ow hf tf : Nat → Nat)  (hn : n ≤ 5) (hw : wn < 1024) (hs : ∀ p, p < 5 → s p < 1024) (hc1 : c1 ≤ 243) (hb1 : ∀ j, j < c1 → hf j < 1024) : Mp l yX1_openWays ws_X1_openWays 1 20 (dC, dI) (tyL cI cZ cS cW) [.ref h0] (gW cI h0 h1 h2 h3 h4 h5 h6 h1 h2 n wn t tc sc uw c1 c2 s ow hf tf) (fun r => r = nI c1) := by
  refine Mi_of (by decide +kernel) (Nat.le_of_ble_eq_true rfl) ?_
  intro pr ev sx mi ag bl me cd Q ls S hP hK hD hZ hl ret
  obtain ⟨hx, hb, hml, hown, hts⟩ := id S
  have hown : sx.vm.findClass RX1 = some mi.cls := hown
  have hS : va_S (wIn (gW cI h0 h1 h2 h3 h4 h5 h6 h1 h2 n wn t tc sc uw c1 c2 s ow hf tf)) sx.heap sx.heap [] := va_S.rf
  have hl : lv_has ls 1 [(0, .ref h0)] := hl
  refine lv_aload_n hx hb dX1_openWays_0 rfl (lv_at hl 0 rfl) ?_
  refine va_get (D := (dC, dI)) (ci := 1) (v := .ref h1) (C := RX1) (T := TX1) (N := 10) hx hb hts inX1 hown hK hP 0 rfl rfl 0 (by decide) (hts _ q_fl_X1_10) (fun _ h9 => h9) rfl dX1_openWays_1 ?_
  refine call_Vp (As := []) (rest := []) S (m_X0_count h1 h5 c1 hf) g_X1_X0_count hd_X0_count ⟨Nat.le_of_ble_eq_true rfl, Nat.le_of_ble_eq_true rfl⟩ ⟨Nat.zero_le _, Nat.zero_le _⟩ hP hD hK hS hZ [1, 5] rfl (by decide) 0 rfl rfl hl.1 rfl (Nat.le_of_ble_eq_true rfl) dX1_openWays_4 (fun r H locs hq hP hS => ?_)
  obtain rfl := hq
  exact ret _ (gW cI h0 h1 h2 h3 h4 h5 h6 h1 h2 n wn t tc sc uw c1 c2 s ow hf tf) _ _ _ _ dX1_openWays_7 rfl ⟨rfl, rfl⟩ (List.Perm.refl _) hP hS

set_option maxHeartbeats 4000000 in
set_option maxRecDepth 100000 in
theorem m_X1_openWaysWith (h0 h1 h2 h3 h4 h5 h6 n wn t tc sc : Nat) (uw : Bool) (c1 c2 : Nat) (s ow hf tf : Nat → Nat) (j co : Nat) (hj : j < n) (hco : co < 3) (hn : n ≤ 5) (hw : wn < 1024) (hs : ∀ p, p < 5 → s p < 1024) (hc1 : c1 ≤ 243) (hb1 : ∀ j, j < c1 → hf j < 1024) : Mp l yX1_openWaysWith ws_X1_openWaysWith 2 45 (dC, dI) (tyL cI cZ cS cW) [.ref h0, .int (nI j), .int (nI co)] (gW cI h0 h1 h2 h3 h4 h5 h6 h1 h2 n wn t tc sc uw c1 c2 s ow hf tf) (fun r => r = nI ((Lof hf c1).countP (fun x => qd x j == co))) := by
  refine Mi_of (by decide +kernel) (Nat.le_of_ble_eq_true rfl) ?_
  intro pr ev sx mi ag bl me cd Q ls S hP hK hD hZ hl ret
  obtain ⟨hx, hb, hml, hown, hts⟩ := id S
  have hown : sx.vm.findClass RX1 = some mi.cls := hown
  have hS : va_S (wIn (gW cI h0 h1 h2 h3 h4 h5 h6 h1 h2 n wn t tc sc uw c1 c2 s ow hf tf)) sx.heap sx.heap [] := va_S.rf
  have hl : lv_has ls 3 [(0, .ref h0), (1, .int (nI j)), (2, .int (nI co))] := hl
  refine lv_aload_n hx hb dX1_openWaysWith_0 rfl (lv_at hl 0 rfl) ?_
  refine lv_iload_n hx hb dX1_openWaysWith_1 rfl (lv_at hl 1 rfl) ?_
  refine call_Vv (As := [.int (nI j)]) (wr := []) (rest := []) S (m_X1_requirePlayer h0 h1 h2 h3 h4 h5 h6 h1 h2 n wn t tc sc uw c1 c2 s ow hf tf j (by omega) hn) g_X1_X1_requirePlayer hd_X1_requirePlayer ⟨Nat.le_of_ble_eq_true rfl, Nat.le_of_ble_eq_true rfl⟩ ⟨Nat.zero_le _, Nat.zero_le _⟩ hP hD hK hS hZ [0, 1, 2, 3, 4, 5, 6] [] rfl rfl (by decide) 0 rfl rfl hl.1 rfl (Nat.le_of_ble_eq_true rfl) dX1_openWaysWith_2 (fun u H locs hq hP hD hS => ?_)
  obtain rfl := hq
  have hP : va_P (dC, dI) vwCl (gW cI h0 h1 h2 h3 h4 h5 h6 h1 h2 n wn t tc sc uw c1 c2 s ow hf tf) H := hP
  have hD : va_D (wIn (gW cI h0 h1 h2 h3 h4 h5 h6 h1 h2 n wn t tc sc uw c1 c2 s ow hf tf)) (gW cI h0 h1 h2 h3 h4 h5 h6 h1 h2 n wn t tc sc uw c1 c2 s ow hf tf) := hD
  refine lv_iload_n hx hb dX1_openWaysWith_5 rfl (lv_at hl 2 rfl) ?_
  refine call_Sv (As := [.int (nI co)]) (wr := [(h0, .inr (1, [.ref h1, .ref h2, .ref h3, .ref h4, .int (nI n), .int (nI wn), .int (nI t), .int (nI tc), .int (nI sc), .int (bI uw)])), (h1, .inr (0, [.ref h5, .int (nI c1)])), (h2, .inr (0, [.ref h6, .int (nI c2)])), (h3, .inl (cI, 5, .inl (fun k => nI (s k)))), (h4, .inl (cI, 1024, .inl (fun k => nI (ow k)))), (h5, .inl (cI, 243, .inl (fun k => nI (hf k)))), (h6, .inl (cI, 243, .inl (fun k => nI (tf k))))]) (rest := []) S (m_X1_requireColour co (by omega)) g_X1_X1_requireColour hd_X1_requireColour ⟨Nat.le_of_ble_eq_true rfl, Nat.le_of_ble_eq_true rfl⟩ ⟨Nat.zero_le _, Nat.zero_le _⟩ hP hD hK hS hZ [] [0, 1, 2, 3, 4, 5, 6] rfl rfl (by decide) hl.1 rfl (Nat.le_of_ble_eq_true rfl) dX1_openWaysWith_6 (fun u H locs hq hP hD hS => ?_)
  obtain rfl := hq
  have hP : va_P (dC, dI) vwCl (gW cI h0 h1 h2 h3 h4 h5 h6 h1 h2 n wn t tc sc uw c1 c2 s ow hf tf) H := hP
  have hD : va_D (wIn (gW cI h0 h1 h2 h3 h4 h5 h6 h1 h2 n wn t tc sc uw c1 c2 s ow hf tf)) (gW cI h0 h1 h2 h3 h4 h5 h6 h1 h2 n wn t tc sc uw c1 c2 s ow hf tf) := hD
  refine lv_aload_n hx hb dX1_openWaysWith_9 rfl (lv_at hl 0 rfl) ?_
  refine lv_iload_n hx hb dX1_openWaysWith_10 rfl (lv_at hl 1 rfl) ?_
  refine lv_iload_n hx hb dX1_openWaysWith_11 rfl (lv_at hl 2 rfl) ?_
  refine call_Vp (As := [.int (nI j), .int (nI co)]) (rest := []) S (m_X1_countWithHat h0 h1 h2 h3 h4 h5 h6 h2 n wn t tc sc uw c1 c2 s ow hf tf j co (by omega) (by omega) hc1 hb1) g_X1_X1_countWithHat hd_X1_countWithHat ⟨Nat.le_of_ble_eq_true rfl, Nat.le_of_ble_eq_true rfl⟩ ⟨Nat.zero_le _, Nat.zero_le _⟩ hP hD hK hS hZ [0, 1, 2, 3, 4, 5, 6] rfl (by decide) 0 rfl rfl hl.1 rfl (Nat.le_of_ble_eq_true rfl) dX1_openWaysWith_12 (fun r H locs hq hP hS => ?_)
  obtain rfl := hq
  exact ret _ (gW cI h0 h1 h2 h3 h4 h5 h6 h1 h2 n wn t tc sc uw c1 c2 s ow hf tf) _ _ _ _ dX1_openWaysWith_15 rfl ⟨rfl, rfl⟩ (List.Perm.refl _) hP hS

set_option maxHeartbeats 4000000 in
set_option maxRecDepth 100000 in
theorem m_X1_isKnownToAll (h0 h1 h2 h3 h4 h5 h6 n wn t tc sc : Nat) (uw : Bool) (c1 c2 : Nat) (s ow hf tf : Nat → Nat) (j : Nat) (hj : j < n) (hn : n ≤ 5) (hw : wn < 1024) (hs : ∀ p, p < 5 → s p < 1024) (hc1 : c1 ≤ 243) (hb1 : ∀ j, j < c1 → hf j < 1024) : Mp l yX1_isKnownToAll ws_X1_isKnownToAll 2 45 (dC, dI) (tyL cI cZ cS cW) [.ref h0, .int (nI j)] (gW cI h0 h1 h2 h3 h4 h5 h6 h1 h2 n wn t tc sc uw c1 c2 s ow hf tf) (fun r => r = bI (allN wn j (Lof hf c1))) := by
  refine Mi_of (by decide +kernel) (Nat.le_of_ble_eq_true rfl) ?_
  intro pr ev sx mi ag bl me cd Q ls S hP hK hD hZ hl ret
  obtain ⟨hx, hb, hml, hown, hts⟩ := id S
  have hown : sx.vm.findClass RX1 = some mi.cls := hown
  have hS : va_S (wIn (gW cI h0 h1 h2 h3 h4 h5 h6 h1 h2 n wn t tc sc uw c1 c2 s ow hf tf)) sx.heap sx.heap [] := va_S.rf
  have hl : lv_has ls 2 [(0, .ref h0), (1, .int (nI j))] := hl
  refine lv_aload_n hx hb dX1_isKnownToAll_0 rfl (lv_at hl 0 rfl) ?_
  refine lv_iload_n hx hb dX1_isKnownToAll_1 rfl (lv_at hl 1 rfl) ?_
  refine call_Vv (As := [.int (nI j)]) (wr := []) (rest := []) S (m_X1_requirePlayer h0 h1 h2 h3 h4 h5 h6 h1 h2 n wn t tc sc uw c1 c2 s ow hf tf j (by omega) hn) g_X1_X1_requirePlayer hd_X1_requirePlayer ⟨Nat.le_of_ble_eq_true rfl, Nat.le_of_ble_eq_true rfl⟩ ⟨Nat.zero_le _, Nat.zero_le _⟩ hP hD hK hS hZ [0, 1, 2, 3, 4, 5, 6] [] rfl rfl (by decide) 0 rfl rfl hl.1 rfl (Nat.le_of_ble_eq_true rfl) dX1_isKnownToAll_2 (fun u H locs hq hP hD hS => ?_)
  obtain rfl := hq
  have hP : va_P (dC, dI) vwCl (gW cI h0 h1 h2 h3 h4 h5 h6 h1 h2 n wn t tc sc uw c1 c2 s ow hf tf) H := hP
  have hD : va_D (wIn (gW cI h0 h1 h2 h3 h4 h5 h6 h1 h2 n wn t tc sc uw c1 c2 s ow hf tf)) (gW cI h0 h1 h2 h3 h4 h5 h6 h1 h2 n wn t tc sc uw c1 c2 s ow hf tf) := hD
  refine lv_aload_n hx hb dX1_isKnownToAll_5 rfl (lv_at hl 0 rfl) ?_
  refine lv_iload_n hx hb dX1_isKnownToAll_6 rfl (lv_at hl 1 rfl) ?_
  refine lv_aload_n hx hb dX1_isKnownToAll_7 rfl (lv_at hl 0 rfl) ?_
  refine va_get (D := (dC, dI)) (ci := 1) (v := .int (nI wn)) (C := RX1) (T := TX1) (N := 10) hx hb hts inX1 hown hK hP 0 rfl rfl 5 (by decide) (hts _ q_fl_X1_30) (fun _ h9 => h9) rfl dX1_isKnownToAll_8 ?_
  refine lv_iload_n hx hb dX1_isKnownToAll_11 rfl (lv_at hl 1 rfl) ?_
  refine call_Sp (As := [.int (nI wn), .int (nI j)]) (rest := [.int (nI j), .ref h0]) S (m_X1_colourIn wn j hw (by omega)) g_X1_X1_colourIn hd_X1_colourIn ⟨Nat.le_of_ble_eq_true rfl, Nat.le_of_ble_eq_true rfl⟩ ⟨Nat.zero_le _, Nat.zero_le _⟩ hP hD hK hS hZ [] rfl (by decide) hl.1 rfl (Nat.le_of_ble_eq_true rfl) dX1_isKnownToAll_12 (fun r H locs hq hP hS => ?_)
  obtain rfl := hq
  refine call_Vp (As := [.int (nI j), .int (nI (qd wn j))]) (rest := []) S (m_X1_countWithHat h0 h1 h2 h3 h4 h5 h6 h2 n wn t tc sc uw c1 c2 s ow hf tf j (qd wn j) (by omega) (qd_lt _ _) hc1 hb1) g_X1_X1_countWithHat hd_X1_countWithHat ⟨Nat.le_of_ble_eq_true rfl, Nat.le_of_ble_eq_true rfl⟩ ⟨Nat.zero_le _, Nat.zero_le _⟩ hP hD hK hS hZ [0, 1, 2, 3, 4, 5, 6] rfl (by decide) 0 rfl rfl hl.1 rfl (Nat.le_of_ble_eq_true rfl) dX1_isKnownToAll_15 (fun r H locs hq hP hS => ?_)
  obtain rfl := hq
  refine lv_aload_n hx hb dX1_isKnownToAll_18 rfl (lv_at hl 0 rfl) ?_
  refine va_get (D := (dC, dI)) (ci := 1) (v := .ref h1) (C := RX1) (T := TX1) (N := 10) hx hb hts inX1 hown hK hP 0 rfl rfl 0 (by decide) (hts _ q_fl_X1_10) (fun _ h9 => h9) rfl dX1_isKnownToAll_19 ?_
  refine call_Vp (As := []) (rest := [.int (nI ((Lof hf c1).countP (fun x => qd x j == (qd wn j))))]) S (m_X0_count h1 h5 c1 hf) g_X1_X0_count hd_X0_count ⟨Nat.le_of_ble_eq_true rfl, Nat.le_of_ble_eq_true rfl⟩ ⟨Nat.zero_le _, Nat.zero_le _⟩ hP hD hK hS hZ [1, 5] rfl (by decide) 0 rfl rfl hl.1 rfl (Nat.le_of_ble_eq_true rfl) dX1_isKnownToAll_22 (fun r H locs hq hP hS => ?_)
  obtain rfl := hq
  refine icN_ne (tgt := 32) hx hb dX1_isKnownToAll_25 (by decide) (by have := List.countP_le_length (p := fun x => qd x j == qd wn j) (l := Lof hf c1); rw [Lof_len] at this; omega) (by omega) (fun c_25 => ?_) (fun c_25 => ?_)
  · refine lv_iconst (v := nI 0) hx hb dX1_isKnownToAll_32 (by decide) ?_
    exact ret _ (gW cI h0 h1 h2 h3 h4 h5 h6 h1 h2 n wn t tc sc uw c1 c2 s ow hf tf) _ _ _ _ dX1_isKnownToAll_33 rfl ⟨rfl, bI_f (by simp [allN, Lof_len, c_25])⟩ (List.Perm.refl _) hP hS
  · refine lv_iconst (v := nI 1) hx hb dX1_isKnownToAll_28 (by decide) ?_
    refine lv_goto (tgt := 33) hx hb dX1_isKnownToAll_29 (by decide) ?_
    exact ret _ (gW cI h0 h1 h2 h3 h4 h5 h6 h1 h2 n wn t tc sc uw c1 c2 s ow hf tf) _ _ _ _ dX1_isKnownToAll_33 rfl ⟨rfl, bI_t (by simp [allN, Lof_len, c_25])⟩ (List.Perm.refl _) hP hS

set_option maxHeartbeats 4000000 in
set_option maxRecDepth 100000 in
theorem m_X1_possibleWays (h0 h1 h2 h3 h4 h5 h6 n wn t tc sc : Nat) (uw : Bool) (c1 c2 : Nat) (s ow hf tf : Nat → Nat) (j : Nat) (hj : j < n) (hn : n ≤ 5) (hw : wn < 1024) (hs : ∀ p, p < 5 → s p < 1024) (hc1 : c1 ≤ 243) (hb1 : ∀ j, j < c1 → hf j < 1024) : Mp l yX1_possibleWays ws_X1_possibleWays 2 46 (dC, dI) (tyL cI cZ cS cW) [.ref h0, .int (nI j)] (gW cI h0 h1 h2 h3 h4 h5 h6 h1 h2 n wn t tc sc uw c1 c2 s ow hf tf) (fun r => r = nI (possN wn (s j) (Lof hf c1))) := by
  refine Mi_of (by decide +kernel) (Nat.le_of_ble_eq_true rfl) ?_
  intro pr ev sx mi ag bl me cd Q ls S hP hK hD hZ hl ret
  obtain ⟨hx, hb, hml, hown, hts⟩ := id S
  have hown : sx.vm.findClass RX1 = some mi.cls := hown
  have hS : va_S (wIn (gW cI h0 h1 h2 h3 h4 h5 h6 h1 h2 n wn t tc sc uw c1 c2 s ow hf tf)) sx.heap sx.heap [] := va_S.rf
  have hl : lv_has ls 2 [(0, .ref h0), (1, .int (nI j))] := hl
  refine lv_aload_n hx hb dX1_possibleWays_0 rfl (lv_at hl 0 rfl) ?_
  refine lv_iload_n hx hb dX1_possibleWays_1 rfl (lv_at hl 1 rfl) ?_
  refine call_Vv (As := [.int (nI j)]) (wr := []) (rest := []) S (m_X1_requirePlayer h0 h1 h2 h3 h4 h5 h6 h1 h2 n wn t tc sc uw c1 c2 s ow hf tf j (by omega) hn) g_X1_X1_requirePlayer hd_X1_requirePlayer ⟨Nat.le_of_ble_eq_true rfl, Nat.le_of_ble_eq_true rfl⟩ ⟨Nat.zero_le _, Nat.zero_le _⟩ hP hD hK hS hZ [0, 1, 2, 3, 4, 5, 6] [] rfl rfl (by decide) 0 rfl rfl hl.1 rfl (Nat.le_of_ble_eq_true rfl) dX1_possibleWays_2 (fun u H locs hq hP hD hS => ?_)
  obtain rfl := hq
  have hP : va_P (dC, dI) vwCl (gW cI h0 h1 h2 h3 h4 h5 h6 h1 h2 n wn t tc sc uw c1 c2 s ow hf tf) H := hP
  have hD : va_D (wIn (gW cI h0 h1 h2 h3 h4 h5 h6 h1 h2 n wn t tc sc uw c1 c2 s ow hf tf)) (gW cI h0 h1 h2 h3 h4 h5 h6 h1 h2 n wn t tc sc uw c1 c2 s ow hf tf) := hD
  refine lv_aload_n hx hb dX1_possibleWays_5 rfl (lv_at hl 0 rfl) ?_
  refine lv_iload_n hx hb dX1_possibleWays_6 rfl (lv_at hl 1 rfl) ?_
  refine call_Vp (As := [.int (nI j)]) (rest := []) S (m_X1_countPossible h0 h1 h2 h3 h4 h5 h6 h2 n wn t tc sc uw c1 c2 s ow hf tf j (by omega) hw hc1 hb1) g_X1_X1_countPossible hd_X1_countPossible ⟨Nat.le_of_ble_eq_true rfl, Nat.le_of_ble_eq_true rfl⟩ ⟨Nat.zero_le _, Nat.zero_le _⟩ hP hD hK hS hZ [0, 1, 2, 3, 4, 5, 6] rfl (by decide) 0 rfl rfl hl.1 rfl (Nat.le_of_ble_eq_true rfl) dX1_possibleWays_7 (fun r H locs hq hP hS => ?_)
  obtain rfl := hq
  exact ret _ (gW cI h0 h1 h2 h3 h4 h5 h6 h1 h2 n wn t tc sc uw c1 c2 s ow hf tf) _ _ _ _ dX1_possibleWays_10 rfl ⟨rfl, rfl⟩ (List.Perm.refl _) hP hS

set_option maxHeartbeats 4000000 in
set_option maxRecDepth 100000 in
theorem m_X1_holdsPossible (h0 h1 h2 h3 h4 h5 h6 n wn t tc sc : Nat) (uw : Bool) (c1 c2 : Nat) (s ow hf tf : Nat → Nat) (j k co : Nat) (hj : j < n) (hk : k < n) (hco : co < 3) (hn : n ≤ 5) (hw : wn < 1024) (hs : ∀ p, p < 5 → s p < 1024) (hc1 : c1 ≤ 243) (hb1 : ∀ j, j < c1 → hf j < 1024) : Mp l yX1_holdsPossible ws_X1_holdsPossible 2 49 (dC, dI) (tyL cI cZ cS cW) [.ref h0, .int (nI j), .int (nI k), .int (nI co)] (gW cI h0 h1 h2 h3 h4 h5 h6 h1 h2 n wn t tc sc uw c1 c2 s ow hf tf) (fun r => r = bI (!((pcol wn (s j) k (Lof hf c1) &&& 1 * 2 ^ co) == 0))) := by
  refine Mi_of (by decide +kernel) (Nat.le_of_ble_eq_true rfl) ?_
  intro pr ev sx mi ag bl me cd Q ls S hP hK hD hZ hl ret
  obtain ⟨hx, hb, hml, hown, hts⟩ := id S
  have hown : sx.vm.findClass RX1 = some mi.cls := hown
  have hS : va_S (wIn (gW cI h0 h1 h2 h3 h4 h5 h6 h1 h2 n wn t tc sc uw c1 c2 s ow hf tf)) sx.heap sx.heap [] := va_S.rf
  have hl : lv_has ls 4 [(0, .ref h0), (1, .int (nI j)), (2, .int (nI k)), (3, .int (nI co))] := hl
  refine lv_aload_n hx hb dX1_holdsPossible_0 rfl (lv_at hl 0 rfl) ?_
  refine lv_iload_n hx hb dX1_holdsPossible_1 rfl (lv_at hl 1 rfl) ?_
  refine call_Vv (As := [.int (nI j)]) (wr := []) (rest := []) S (m_X1_requirePlayer h0 h1 h2 h3 h4 h5 h6 h1 h2 n wn t tc sc uw c1 c2 s ow hf tf j (by omega) hn) g_X1_X1_requirePlayer hd_X1_requirePlayer ⟨Nat.le_of_ble_eq_true rfl, Nat.le_of_ble_eq_true rfl⟩ ⟨Nat.zero_le _, Nat.zero_le _⟩ hP hD hK hS hZ [0, 1, 2, 3, 4, 5, 6] [] rfl rfl (by decide) 0 rfl rfl hl.1 rfl (Nat.le_of_ble_eq_true rfl) dX1_holdsPossible_2 (fun u H locs hq hP hD hS => ?_)
  obtain rfl := hq
  have hP : va_P (dC, dI) vwCl (gW cI h0 h1 h2 h3 h4 h5 h6 h1 h2 n wn t tc sc uw c1 c2 s ow hf tf) H := hP
  have hD : va_D (wIn (gW cI h0 h1 h2 h3 h4 h5 h6 h1 h2 n wn t tc sc uw c1 c2 s ow hf tf)) (gW cI h0 h1 h2 h3 h4 h5 h6 h1 h2 n wn t tc sc uw c1 c2 s ow hf tf) := hD
  refine lv_aload_n hx hb dX1_holdsPossible_5 rfl (lv_at hl 0 rfl) ?_
  refine lv_iload_n hx hb dX1_holdsPossible_6 rfl (lv_at hl 2 rfl) ?_
  refine call_Vv (As := [.int (nI k)]) (wr := []) (rest := []) S (m_X1_requirePlayer h0 h1 h2 h3 h4 h5 h6 h1 h2 n wn t tc sc uw c1 c2 s ow hf tf k (by omega) hn) g_X1_X1_requirePlayer hd_X1_requirePlayer ⟨Nat.le_of_ble_eq_true rfl, Nat.le_of_ble_eq_true rfl⟩ ⟨Nat.zero_le _, Nat.zero_le _⟩ hP hD hK hS hZ [0, 1, 2, 3, 4, 5, 6] [] rfl rfl (by decide) 0 rfl rfl hl.1 rfl (Nat.le_of_ble_eq_true rfl) dX1_holdsPossible_7 (fun u H locs hq hP hD hS => ?_)
  obtain rfl := hq
  have hP : va_P (dC, dI) vwCl (gW cI h0 h1 h2 h3 h4 h5 h6 h1 h2 n wn t tc sc uw c1 c2 s ow hf tf) H := hP
  have hD : va_D (wIn (gW cI h0 h1 h2 h3 h4 h5 h6 h1 h2 n wn t tc sc uw c1 c2 s ow hf tf)) (gW cI h0 h1 h2 h3 h4 h5 h6 h1 h2 n wn t tc sc uw c1 c2 s ow hf tf) := hD
  refine lv_iload_n hx hb dX1_holdsPossible_10 rfl (lv_at hl 3 rfl) ?_
  refine call_Sv (As := [.int (nI co)]) (wr := [(h0, .inr (1, [.ref h1, .ref h2, .ref h3, .ref h4, .int (nI n), .int (nI wn), .int (nI t), .int (nI tc), .int (nI sc), .int (bI uw)])), (h1, .inr (0, [.ref h5, .int (nI c1)])), (h2, .inr (0, [.ref h6, .int (nI c2)])), (h3, .inl (cI, 5, .inl (fun k => nI (s k)))), (h4, .inl (cI, 1024, .inl (fun k => nI (ow k)))), (h5, .inl (cI, 243, .inl (fun k => nI (hf k)))), (h6, .inl (cI, 243, .inl (fun k => nI (tf k))))]) (rest := []) S (m_X1_requireColour co (by omega)) g_X1_X1_requireColour hd_X1_requireColour ⟨Nat.le_of_ble_eq_true rfl, Nat.le_of_ble_eq_true rfl⟩ ⟨Nat.zero_le _, Nat.zero_le _⟩ hP hD hK hS hZ [] [0, 1, 2, 3, 4, 5, 6] rfl rfl (by decide) hl.1 rfl (Nat.le_of_ble_eq_true rfl) dX1_holdsPossible_11 (fun u H locs hq hP hD hS => ?_)
  obtain rfl := hq
  have hP : va_P (dC, dI) vwCl (gW cI h0 h1 h2 h3 h4 h5 h6 h1 h2 n wn t tc sc uw c1 c2 s ow hf tf) H := hP
  have hD : va_D (wIn (gW cI h0 h1 h2 h3 h4 h5 h6 h1 h2 n wn t tc sc uw c1 c2 s ow hf tf)) (gW cI h0 h1 h2 h3 h4 h5 h6 h1 h2 n wn t tc sc uw c1 c2 s ow hf tf) := hD
  refine lv_aload_n hx hb dX1_holdsPossible_14 rfl (lv_at hl 0 rfl) ?_
  refine lv_aload_n hx hb dX1_holdsPossible_15 rfl (lv_at hl 0 rfl) ?_
  refine va_get (D := (dC, dI)) (ci := 1) (v := .ref h1) (C := RX1) (T := TX1) (N := 10) hx hb hts inX1 hown hK hP 0 rfl rfl 0 (by decide) (hts _ q_fl_X1_10) (fun _ h9 => h9) rfl dX1_holdsPossible_16 ?_
  refine lv_iload_n hx hb dX1_holdsPossible_19 rfl (lv_at hl 1 rfl) ?_
  refine lv_iload_n hx hb dX1_holdsPossible_20 rfl (lv_at hl 2 rfl) ?_
  refine call_Vp (As := [.ref h1, .int (nI j), .int (nI k)]) (rest := []) S (m_X1_possibleColours h0 h1 h2 h3 h4 h5 h6 h1 h2 n wn t tc sc uw c1 c2 s ow hf tf j k (by omega) (by omega) hw hc1 hb1) g_X1_X1_possibleColours hd_X1_possibleColours ⟨Nat.le_of_ble_eq_true rfl, Nat.le_of_ble_eq_true rfl⟩ ⟨Nat.zero_le _, Nat.zero_le _⟩ hP hD hK hS hZ [0, 1, 2, 3, 4, 5, 6] rfl (by decide) 0 rfl rfl hl.1 rfl (Nat.le_of_ble_eq_true rfl) dX1_holdsPossible_21 (fun r H locs hq hP hS => ?_)
  obtain rfl := hq
  refine lv_iconst (v := nI 1) hx hb dX1_holdsPossible_24 (by decide) ?_
  refine lv_iload_n hx hb dX1_holdsPossible_25 rfl (lv_at hl 3 rfl) ?_
  refine lv_ishl hx hb dX1_holdsPossible_26 ?_
  refine W_i (y := nI (1 * 2 ^ co)) (nI_shl _ (by omega)) ?_
  refine lv_iand hx hb dX1_holdsPossible_27 ?_
  refine W_i (y := nI ((pcol wn (s j) k (Lof hf c1)) &&& (1 * 2 ^ co))) (nI_and _ _) ?_
  refine ifN_eq (tgt := 35) hx hb dX1_holdsPossible_28 (by decide) (lt_31 (and_l (by have := pcol_lt wn (s j) k (Lof hf c1); omega))) (fun c_28 => ?_) (fun c_28 => ?_)
  · refine lv_iconst (v := nI 0) hx hb dX1_holdsPossible_35 (by decide) ?_
    exact ret _ (gW cI h0 h1 h2 h3 h4 h5 h6 h1 h2 n wn t tc sc uw c1 c2 s ow hf tf) _ _ _ _ dX1_holdsPossible_36 rfl ⟨rfl, bI_f (nb_f c_28)⟩ (List.Perm.refl _) hP hS
  · refine lv_iconst (v := nI 1) hx hb dX1_holdsPossible_31 (by decide) ?_
    refine lv_goto (tgt := 36) hx hb dX1_holdsPossible_32 (by decide) ?_
    exact ret _ (gW cI h0 h1 h2 h3 h4 h5 h6 h1 h2 n wn t tc sc uw c1 c2 s ow hf tf) _ _ _ _ dX1_holdsPossible_36 rfl ⟨rfl, bI_t (nb_t c_28)⟩ (List.Perm.refl _) hP hS

set_option maxHeartbeats 4000000 in
set_option maxRecDepth 100000 in
theorem m_X1_isCertain (h0 h1 h2 h3 h4 h5 h6 n wn t tc sc : Nat) (uw : Bool) (c1 c2 : Nat) (s ow hf tf : Nat → Nat) (j : Nat) (hj : j < n) (hn : n ≤ 5) (hw : wn < 1024) (hs : ∀ p, p < 5 → s p < 1024) (hc1 : c1 ≤ 243) (hb1 : ∀ j, j < c1 → hf j < 1024) : Mp l yX1_isCertain ws_X1_isCertain 3 71 (dC, dI) (tyL cI cZ cS cW) [.ref h0, .int (nI j)] (gW cI h0 h1 h2 h3 h4 h5 h6 h1 h2 n wn t tc sc uw c1 c2 s ow hf tf) (fun r => r = bI (cert wn (s j) j (Lof hf c1))) := by
  refine Mi_of (by decide +kernel) (Nat.le_of_ble_eq_true rfl) ?_
  intro pr ev sx mi ag bl me cd Q ls S hP hK hD hZ hl ret
  obtain ⟨hx, hb, hml, hown, hts⟩ := id S
  have hown : sx.vm.findClass RX1 = some mi.cls := hown
  have hS : va_S (wIn (gW cI h0 h1 h2 h3 h4 h5 h6 h1 h2 n wn t tc sc uw c1 c2 s ow hf tf)) sx.heap sx.heap [] := va_S.rf
  have hl : lv_has ls 2 [(0, .ref h0), (1, .int (nI j))] := hl
  refine lv_aload_n hx hb dX1_isCertain_0 rfl (lv_at hl 0 rfl) ?_
  refine lv_iload_n hx hb dX1_isCertain_1 rfl (lv_at hl 1 rfl) ?_
  refine call_Vv (As := [.int (nI j)]) (wr := []) (rest := []) S (m_X1_requirePlayer h0 h1 h2 h3 h4 h5 h6 h1 h2 n wn t tc sc uw c1 c2 s ow hf tf j (by omega) hn) g_X1_X1_requirePlayer hd_X1_requirePlayer ⟨Nat.le_of_ble_eq_true rfl, Nat.le_of_ble_eq_true rfl⟩ ⟨Nat.zero_le _, Nat.zero_le _⟩ hP hD hK hS hZ [0, 1, 2, 3, 4, 5, 6] [] rfl rfl (by decide) 0 rfl rfl hl.1 rfl (Nat.le_of_ble_eq_true rfl) dX1_isCertain_2 (fun u H locs hq hP hD hS => ?_)
  obtain rfl := hq
  have hP : va_P (dC, dI) vwCl (gW cI h0 h1 h2 h3 h4 h5 h6 h1 h2 n wn t tc sc uw c1 c2 s ow hf tf) H := hP
  have hD : va_D (wIn (gW cI h0 h1 h2 h3 h4 h5 h6 h1 h2 n wn t tc sc uw c1 c2 s ow hf tf)) (gW cI h0 h1 h2 h3 h4 h5 h6 h1 h2 n wn t tc sc uw c1 c2 s ow hf tf) := hD
  refine lv_aload_n hx hb dX1_isCertain_5 rfl (lv_at hl 0 rfl) ?_
  refine lv_aload_n hx hb dX1_isCertain_6 rfl (lv_at hl 0 rfl) ?_
  refine va_get (D := (dC, dI)) (ci := 1) (v := .ref h1) (C := RX1) (T := TX1) (N := 10) hx hb hts inX1 hown hK hP 0 rfl rfl 0 (by decide) (hts _ q_fl_X1_10) (fun _ h9 => h9) rfl dX1_isCertain_7 ?_
  refine lv_iload_n hx hb dX1_isCertain_10 rfl (lv_at hl 1 rfl) ?_
  refine call_Vp (As := [.ref h1, .int (nI j)]) (rest := []) S (m_X1_isCertainBy h0 h1 h2 h3 h4 h5 h6 h1 h2 n wn t tc sc uw c1 c2 s ow hf tf j (by omega) hw hc1 hb1) g_X1_X1_isCertainBy hd_X1_isCertainBy ⟨Nat.le_of_ble_eq_true rfl, Nat.le_of_ble_eq_true rfl⟩ ⟨Nat.zero_le _, Nat.zero_le _⟩ hP hD hK hS hZ [0, 1, 2, 3, 4, 5, 6] rfl (by decide) 0 rfl rfl hl.1 rfl (Nat.le_of_ble_eq_true rfl) dX1_isCertain_11 (fun r H locs hq hP hS => ?_)
  obtain rfl := hq
  exact ret _ (gW cI h0 h1 h2 h3 h4 h5 h6 h1 h2 n wn t tc sc uw c1 c2 s ow hf tf) _ _ _ _ dX1_isCertain_14 (bI_nar _) ⟨rfl, rfl⟩ (List.Perm.refl _) hP hS

set_option maxHeartbeats 4000000 in
set_option maxRecDepth 100000 in
theorem m_X1_knowsHatOf (h0 h1 h2 h3 h4 h5 h6 n wn t tc sc : Nat) (uw : Bool) (c1 c2 : Nat) (s ow hf tf : Nat → Nat) (j k : Nat) (hj : j < n) (hk : k < n) (hn : n ≤ 5) (hw : wn < 1024) (hs : ∀ p, p < 5 → s p < 1024) (hc1 : c1 ≤ 243) (hb1 : ∀ j, j < c1 → hf j < 1024) : Mp l yX1_knowsHatOf ws_X1_knowsHatOf 2 49 (dC, dI) (tyL cI cZ cS cW) [.ref h0, .int (nI j), .int (nI k)] (gW cI h0 h1 h2 h3 h4 h5 h6 h1 h2 n wn t tc sc uw c1 c2 s ow hf tf) (fun r => r = bI (knwN wn (s j) k (Lof hf c1))) := by
  refine Mi_of (by decide +kernel) (Nat.le_of_ble_eq_true rfl) ?_
  intro pr ev sx mi ag bl me cd Q ls S hP hK hD hZ hl ret
  obtain ⟨hx, hb, hml, hown, hts⟩ := id S
  have hown : sx.vm.findClass RX1 = some mi.cls := hown
  have hS : va_S (wIn (gW cI h0 h1 h2 h3 h4 h5 h6 h1 h2 n wn t tc sc uw c1 c2 s ow hf tf)) sx.heap sx.heap [] := va_S.rf
  have hl : lv_has ls 3 [(0, .ref h0), (1, .int (nI j)), (2, .int (nI k))] := hl
  refine lv_aload_n hx hb dX1_knowsHatOf_0 rfl (lv_at hl 0 rfl) ?_
  refine lv_iload_n hx hb dX1_knowsHatOf_1 rfl (lv_at hl 1 rfl) ?_
  refine call_Vv (As := [.int (nI j)]) (wr := []) (rest := []) S (m_X1_requirePlayer h0 h1 h2 h3 h4 h5 h6 h1 h2 n wn t tc sc uw c1 c2 s ow hf tf j (by omega) hn) g_X1_X1_requirePlayer hd_X1_requirePlayer ⟨Nat.le_of_ble_eq_true rfl, Nat.le_of_ble_eq_true rfl⟩ ⟨Nat.zero_le _, Nat.zero_le _⟩ hP hD hK hS hZ [0, 1, 2, 3, 4, 5, 6] [] rfl rfl (by decide) 0 rfl rfl hl.1 rfl (Nat.le_of_ble_eq_true rfl) dX1_knowsHatOf_2 (fun u H locs hq hP hD hS => ?_)
  obtain rfl := hq
  have hP : va_P (dC, dI) vwCl (gW cI h0 h1 h2 h3 h4 h5 h6 h1 h2 n wn t tc sc uw c1 c2 s ow hf tf) H := hP
  have hD : va_D (wIn (gW cI h0 h1 h2 h3 h4 h5 h6 h1 h2 n wn t tc sc uw c1 c2 s ow hf tf)) (gW cI h0 h1 h2 h3 h4 h5 h6 h1 h2 n wn t tc sc uw c1 c2 s ow hf tf) := hD
  refine lv_aload_n hx hb dX1_knowsHatOf_5 rfl (lv_at hl 0 rfl) ?_
  refine lv_iload_n hx hb dX1_knowsHatOf_6 rfl (lv_at hl 2 rfl) ?_
  refine call_Vv (As := [.int (nI k)]) (wr := []) (rest := []) S (m_X1_requirePlayer h0 h1 h2 h3 h4 h5 h6 h1 h2 n wn t tc sc uw c1 c2 s ow hf tf k (by omega) hn) g_X1_X1_requirePlayer hd_X1_requirePlayer ⟨Nat.le_of_ble_eq_true rfl, Nat.le_of_ble_eq_true rfl⟩ ⟨Nat.zero_le _, Nat.zero_le _⟩ hP hD hK hS hZ [0, 1, 2, 3, 4, 5, 6] [] rfl rfl (by decide) 0 rfl rfl hl.1 rfl (Nat.le_of_ble_eq_true rfl) dX1_knowsHatOf_7 (fun u H locs hq hP hD hS => ?_)
  obtain rfl := hq
  have hP : va_P (dC, dI) vwCl (gW cI h0 h1 h2 h3 h4 h5 h6 h1 h2 n wn t tc sc uw c1 c2 s ow hf tf) H := hP
  have hD : va_D (wIn (gW cI h0 h1 h2 h3 h4 h5 h6 h1 h2 n wn t tc sc uw c1 c2 s ow hf tf)) (gW cI h0 h1 h2 h3 h4 h5 h6 h1 h2 n wn t tc sc uw c1 c2 s ow hf tf) := hD
  refine lv_aload_n hx hb dX1_knowsHatOf_10 rfl (lv_at hl 0 rfl) ?_
  refine lv_aload_n hx hb dX1_knowsHatOf_11 rfl (lv_at hl 0 rfl) ?_
  refine va_get (D := (dC, dI)) (ci := 1) (v := .ref h1) (C := RX1) (T := TX1) (N := 10) hx hb hts inX1 hown hK hP 0 rfl rfl 0 (by decide) (hts _ q_fl_X1_10) (fun _ h9 => h9) rfl dX1_knowsHatOf_12 ?_
  refine lv_iload_n hx hb dX1_knowsHatOf_15 rfl (lv_at hl 1 rfl) ?_
  refine lv_iload_n hx hb dX1_knowsHatOf_16 rfl (lv_at hl 2 rfl) ?_
  refine call_Vp (As := [.ref h1, .int (nI j), .int (nI k)]) (rest := []) S (m_X1_possibleColours h0 h1 h2 h3 h4 h5 h6 h1 h2 n wn t tc sc uw c1 c2 s ow hf tf j k (by omega) (by omega) hw hc1 hb1) g_X1_X1_possibleColours hd_X1_possibleColours ⟨Nat.le_of_ble_eq_true rfl, Nat.le_of_ble_eq_true rfl⟩ ⟨Nat.zero_le _, Nat.zero_le _⟩ hP hD hK hS hZ [0, 1, 2, 3, 4, 5, 6] rfl (by decide) 0 rfl rfl hl.1 rfl (Nat.le_of_ble_eq_true rfl) dX1_knowsHatOf_17 (fun r H locs hq hP hS => ?_)
  obtain rfl := hq
  refine call_Sp (As := [.int (nI (pcol wn (s j) k (Lof hf c1)))]) (rest := []) S (m_X1_isOneColour (pcol wn (s j) k (Lof hf c1)) (pcol_lt _ _ _ _)) g_X1_X1_isOneColour hd_X1_isOneColour ⟨Nat.le_of_ble_eq_true rfl, Nat.le_of_ble_eq_true rfl⟩ ⟨Nat.zero_le _, Nat.zero_le _⟩ hP hD hK hS hZ [] rfl (by decide) hl.1 rfl (Nat.le_of_ble_eq_true rfl) dX1_knowsHatOf_20 (fun r H locs hq hP hS => ?_)
  obtain rfl := hq
  exact ret _ (gW cI h0 h1 h2 h3 h4 h5 h6 h1 h2 n wn t tc sc uw c1 c2 s ow hf tf) _ _ _ _ dX1_knowsHatOf_23 (bI_nar _) ⟨rfl, rfl⟩ (List.Perm.refl _) hP hS

set_option maxHeartbeats 4000000 in
set_option maxRecDepth 100000 in
theorem m_X1_knowsCertain (h0 h1 h2 h3 h4 h5 h6 n wn t tc sc : Nat) (uw : Bool) (c1 c2 : Nat) (s ow hf tf : Nat → Nat) (j k : Nat) (hj : j < n) (hk : k < n) (hn : n ≤ 5) (hw : wn < 1024) (hs : ∀ p, p < 5 → s p < 1024) (hc1 : c1 ≤ 243) (hb1 : ∀ j, j < c1 → hf j < 1024) : Mi l yX1_knowsCertain ws_X1_knowsCertain 3 68 (dC, dI) (tyL cI cZ cS cW) [.ref h0, .int (nI j), .int (nI k)] (gW cI h0 h1 h2 h3 h4 h5 h6 h1 h2 n wn t tc sc uw c1 c2 s ow hf tf) (fun r u => r = bI (sureL wn (s j) (s k) k (Lof hf c1)) ∧ ∃ og : Nat → Nat, u = gW cI h0 h1 h2 h3 h4 h5 h6 h1 h2 n wn t tc sc uw c1 c2 s og hf tf) := by
  refine Mi_of (by decide +kernel) (Nat.le_of_ble_eq_true rfl) ?_
  intro pr ev sx mi ag bl me cd Q ls S hP hK hD hZ hl ret
  obtain ⟨hx, hb, hml, hown, hts⟩ := id S
  have hown : sx.vm.findClass RX1 = some mi.cls := hown
  have hS : va_S (wIn (gW cI h0 h1 h2 h3 h4 h5 h6 h1 h2 n wn t tc sc uw c1 c2 s ow hf tf)) sx.heap sx.heap [] := va_S.rf
  have hl : lv_has ls 6 [(0, .ref h0), (1, .int (nI j)), (2, .int (nI k))] := hl
  refine lv_aload_n hx hb dX1_knowsCertain_0 rfl (lv_at hl 0 rfl) ?_
  refine lv_iload_n hx hb dX1_knowsCertain_1 rfl (lv_at hl 1 rfl) ?_
  refine call_Vv (As := [.int (nI j)]) (wr := []) (rest := []) S (m_X1_requirePlayer h0 h1 h2 h3 h4 h5 h6 h1 h2 n wn t tc sc uw c1 c2 s ow hf tf j (by omega) hn) g_X1_X1_requirePlayer hd_X1_requirePlayer ⟨Nat.le_of_ble_eq_true rfl, Nat.le_of_ble_eq_true rfl⟩ ⟨Nat.zero_le _, Nat.zero_le _⟩ hP hD hK hS hZ [0, 1, 2, 3, 4, 5, 6] [] rfl rfl (by decide) 0 rfl rfl hl.1 rfl (Nat.le_of_ble_eq_true rfl) dX1_knowsCertain_2 (fun u H locs hq hP hD hS => ?_)
  obtain rfl := hq
  have hP : va_P (dC, dI) vwCl (gW cI h0 h1 h2 h3 h4 h5 h6 h1 h2 n wn t tc sc uw c1 c2 s ow hf tf) H := hP
  have hD : va_D (wIn (gW cI h0 h1 h2 h3 h4 h5 h6 h1 h2 n wn t tc sc uw c1 c2 s ow hf tf)) (gW cI h0 h1 h2 h3 h4 h5 h6 h1 h2 n wn t tc sc uw c1 c2 s ow hf tf) := hD
  refine lv_aload_n hx hb dX1_knowsCertain_5 rfl (lv_at hl 0 rfl) ?_
  refine lv_iload_n hx hb dX1_knowsCertain_6 rfl (lv_at hl 2 rfl) ?_
  refine call_Vv (As := [.int (nI k)]) (wr := []) (rest := []) S (m_X1_requirePlayer h0 h1 h2 h3 h4 h5 h6 h1 h2 n wn t tc sc uw c1 c2 s ow hf tf k (by omega) hn) g_X1_X1_requirePlayer hd_X1_requirePlayer ⟨Nat.le_of_ble_eq_true rfl, Nat.le_of_ble_eq_true rfl⟩ ⟨Nat.zero_le _, Nat.zero_le _⟩ hP hD hK hS hZ [0, 1, 2, 3, 4, 5, 6] [] rfl rfl (by decide) 0 rfl rfl hl.1 rfl (Nat.le_of_ble_eq_true rfl) dX1_knowsCertain_7 (fun u H locs hq hP hD hS => ?_)
  obtain rfl := hq
  have hP : va_P (dC, dI) vwCl (gW cI h0 h1 h2 h3 h4 h5 h6 h1 h2 n wn t tc sc uw c1 c2 s ow hf tf) H := hP
  have hD : va_D (wIn (gW cI h0 h1 h2 h3 h4 h5 h6 h1 h2 n wn t tc sc uw c1 c2 s ow hf tf)) (gW cI h0 h1 h2 h3 h4 h5 h6 h1 h2 n wn t tc sc uw c1 c2 s ow hf tf) := hD
  refine lv_aload_n hx hb dX1_knowsCertain_10 rfl (lv_at hl 0 rfl) ?_
  refine lv_aload_n hx hb dX1_knowsCertain_11 rfl (lv_at hl 0 rfl) ?_
  refine va_get (D := (dC, dI)) (ci := 1) (v := .ref h1) (C := RX1) (T := TX1) (N := 10) hx hb hts inX1 hown hK hP 0 rfl rfl 0 (by decide) (hts _ q_fl_X1_10) (fun _ h9 => h9) rfl dX1_knowsCertain_12 ?_
  refine lv_iload_n hx hb dX1_knowsCertain_15 rfl (lv_at hl 2 rfl) ?_
  refine call_Vv (As := [.ref h1, .int (nI k)]) (wr := []) (rest := []) S (m_X1_noteOwnColours h0 h1 h2 h3 h4 h5 h6 h1 h2 n wn t tc sc uw c1 c2 s ow hf tf k (by omega) hc1 hb1) g_X1_X1_noteOwnColours hd_X1_noteOwnColours ⟨Nat.le_of_ble_eq_true rfl, Nat.le_of_ble_eq_true rfl⟩ ⟨Nat.zero_le _, Nat.zero_le _⟩ hP hD hK hS hZ [0, 1, 2, 3, 4, 5, 6] [] rfl rfl (by decide) 0 rfl rfl hl.1 rfl (Nat.le_of_ble_eq_true rfl) dX1_knowsCertain_16 (fun u H locs hq hP hD hS => ?_)
  obtain ⟨og, rfl, hog⟩ := hq
  have hP : va_P (dC, dI) vwCl (gW cI h0 h1 h2 h3 h4 h5 h6 h1 h2 n wn t tc sc uw c1 c2 s og hf tf) H := hP
  have hD : va_D (wIn (gW cI h0 h1 h2 h3 h4 h5 h6 h1 h2 n wn t tc sc uw c1 c2 s ow hf tf)) (gW cI h0 h1 h2 h3 h4 h5 h6 h1 h2 n wn t tc sc uw c1 c2 s og hf tf) := hD
  refine lv_aload_n hx hb dX1_knowsCertain_19 rfl (lv_at hl 0 rfl) ?_
  refine lv_iload_n hx hb dX1_knowsCertain_20 rfl (lv_at hl 1 rfl) ?_
  refine call_Vp (As := [.int (nI j)]) (rest := []) S (m_X1_seenHatsOf h0 h1 h2 h3 h4 h5 h6 h1 h2 n wn t tc sc uw c1 c2 s og hf tf j (by omega)) g_X1_X1_seenHatsOf hd_X1_seenHatsOf ⟨Nat.le_of_ble_eq_true rfl, Nat.le_of_ble_eq_true rfl⟩ ⟨Nat.zero_le _, Nat.zero_le _⟩ hP hD hK hS hZ [0, 1, 2, 3, 4, 5, 6] rfl (by decide) 0 rfl rfl hl.1 rfl (Nat.le_of_ble_eq_true rfl) dX1_knowsCertain_21 (fun r H locs hq hP hS => ?_)
  obtain rfl := hq
  refine lv_istore_n (lv' := [(3, .int (nI (s j))), (0, .ref h0), (1, .int (nI j)), (2, .int (nI k))]) hx hb dX1_knowsCertain_24 rfl hl (by decide) rfl (fun ls hl => ?_)
  refine lv_iconst (v := nI 0) hx hb dX1_knowsCertain_25 (by decide) ?_
  refine lv_istore (lv' := [(4, .int (nI 0)), (3, .int (nI (s j))), (0, .ref h0), (1, .int (nI j)), (2, .int (nI k))]) hx hb dX1_knowsCertain_26 hl (by decide) rfl (fun ls hl => ?_)
  have lp28 : ∀ (kf : Nat) (i : Nat), c1 < i + kf → (i ≤ c1) → (∀ j2, j2 < i → agr wn (hf j2) (s j) = true → wbc (s k) k (Lof hf c1) (hf j2) = true) → ∀ (H : Heap) (locs : List Loc), va_P (dC, dI) vwCl (gW cI h0 h1 h2 h3 h4 h5 h6 h1 h2 n wn t tc sc uw c1 c2 s og hf tf) H → va_D (wIn (gW cI h0 h1 h2 h3 h4 h5 h6 h1 h2 n wn t tc sc uw c1 c2 s ow hf tf)) (gW cI h0 h1 h2 h3 h4 h5 h6 h1 h2 n wn t tc sc uw c1 c2 s og hf tf) → va_S (wIn (gW cI h0 h1 h2 h3 h4 h5 h6 h1 h2 n wn t tc sc uw c1 c2 s ow hf tf)) sx.heap H locs → ∀ ls : Array Slot, lv_has ls 6 [(4, .int (nI i)), (3, .int (nI (s j))), (0, .ref h0), (1, .int (nI j)), (2, .int (nI k))] → W pr l ev (rmB 3 68) sx mi ag bl me cd H locs 0 0 Q (F0 mi 28 ls []) := by
    intro kf
    induction kf with
    | zero => intro i hkf hi hall; exact absurd hkf (by omega)
    | succ kf ih28 =>
      intro i hkf hi hall H locs hP hD hS ls hl
      refine lv_iload hx hb dX1_knowsCertain_28 (lv_at hl 0 rfl) ?_
      refine lv_aload_n hx hb dX1_knowsCertain_30 rfl (lv_at hl 2 rfl) ?_
      refine va_get (D := (dC, dI)) (ci := 1) (v := .ref h1) (C := RX1) (T := TX1) (N := 10) hx hb hts inX1 hown hK hP 0 rfl rfl 0 (by decide) (hts _ q_fl_X1_10) (fun _ h9 => h9) rfl dX1_knowsCertain_31 ?_
      refine call_Vp (As := []) (rest := [.int (nI i)]) S (m_X0_count h1 h5 c1 hf) g_X1_X0_count hd_X0_count ⟨Nat.le_of_ble_eq_true rfl, Nat.le_of_ble_eq_true rfl⟩ ⟨Nat.zero_le _, Nat.zero_le _⟩ hP hD hK hS hZ [1, 5] rfl (by decide) 0 rfl rfl hl.1 rfl (Nat.le_of_ble_eq_true rfl) dX1_knowsCertain_34 (fun r H locs hq hP hS => ?_)
      obtain rfl := hq
      refine icN_ge (tgt := 79) hx hb dX1_knowsCertain_37 (by decide) (by omega) (by omega) (fun c_37 => ?_) (fun c_37 => ?_)
      · refine lv_iconst (v := nI 1) hx hb dX1_knowsCertain_79 (by decide) ?_
        exact ret _ (gW cI h0 h1 h2 h3 h4 h5 h6 h1 h2 n wn t tc sc uw c1 c2 s og hf tf) _ _ _ _ dX1_knowsCertain_80 rfl ⟨bI_t (sure_t (fun j2 hj2 ha2 => hall j2 (by omega) ha2)), og, rfl⟩ (List.Perm.refl _) hP hS
      · refine lv_aload_n hx hb dX1_knowsCertain_40 rfl (lv_at hl 2 rfl) ?_
        refine va_get (D := (dC, dI)) (ci := 1) (v := .ref h1) (C := RX1) (T := TX1) (N := 10) hx hb hts inX1 hown hK hP 0 rfl rfl 0 (by decide) (hts _ q_fl_X1_10) (fun _ h9 => h9) rfl dX1_knowsCertain_41 ?_
        refine lv_iload hx hb dX1_knowsCertain_44 (lv_at hl 0 rfl) ?_
        refine call_Vp (As := [.int (nI i)]) (rest := []) S (m_X0_at h1 h5 c1 hf i (by omega)) g_X1_X0_at hd_X0_at ⟨Nat.le_of_ble_eq_true rfl, Nat.le_of_ble_eq_true rfl⟩ ⟨Nat.zero_le _, Nat.zero_le _⟩ hP hD hK hS hZ [1, 5] rfl (by decide) 0 rfl rfl hl.1 rfl (Nat.le_of_ble_eq_true rfl) dX1_knowsCertain_46 (fun r H locs hq hP hS => ?_)
        obtain rfl := hq
        refine lv_istore (lv' := [(5, .int (nI (hf i))), (4, .int (nI i)), (3, .int (nI (s j))), (0, .ref h0), (1, .int (nI j)), (2, .int (nI k))]) hx hb dX1_knowsCertain_49 hl (by decide) rfl (fun ls hl => ?_)
        refine lv_aload_n hx hb dX1_knowsCertain_51 rfl (lv_at hl 3 rfl) ?_
        refine lv_iload hx hb dX1_knowsCertain_52 (lv_at hl 0 rfl) ?_
        refine lv_iload_n hx hb dX1_knowsCertain_54 rfl (lv_at hl 2 rfl) ?_
        refine call_Vp (As := [.int (nI (hf i)), .int (nI (s j))]) (rest := []) S (m_X1_agreesWithNow h0 h1 h2 h3 h4 h5 h6 h1 h2 n wn t tc sc uw c1 c2 s og hf tf (hf i) (s j) (hb1 _ (by omega)) hw) g_X1_X1_agreesWithNow hd_X1_agreesWithNow ⟨Nat.le_of_ble_eq_true rfl, Nat.le_of_ble_eq_true rfl⟩ ⟨Nat.zero_le _, Nat.zero_le _⟩ hP hD hK hS hZ [0, 1, 2, 3, 4, 5, 6] rfl (by decide) 0 rfl rfl hl.1 rfl (Nat.le_of_ble_eq_true rfl) dX1_knowsCertain_55 (fun r H locs hq hP hS => ?_)
        obtain rfl := hq
        refine ifB_eq (tgt := 73) hx hb dX1_knowsCertain_58 (by decide) (fun c_58 => ?_) (fun c_58 => ?_)
        · refine lv_iinc (v := nI (i + 1)) (lv' := [(4, .int (nI (i + 1))), (5, .int (nI (hf i))), (3, .int (nI (s j))), (0, .ref h0), (1, .int (nI j)), (2, .int (nI k))]) hx hb dX1_knowsCertain_73 hl (k := 1) rfl (nI_add _ _) (by decide) rfl (fun ls hl => ?_)
          refine lv_goto (tgt := 28) hx hb dX1_knowsCertain_76 (by decide) ?_
          exact ih28 (i + 1) (by omega) (by omega) (fun j2 h2 ha2 => by rcases Nat.lt_or_ge j2 i with q | q; (· exact hall j2 q ha2); (· rw [show j2 = i by omega] at ha2 ⊢; rw [c_58] at ha2; exact absurd ha2 (by decide))) _ _ hP hD hS _ (lv_sub hl [0, 2, 3, 4, 5] rfl)
        · refine lv_aload_n hx hb dX1_knowsCertain_61 rfl (lv_at hl 3 rfl) ?_
          refine lv_iload hx hb dX1_knowsCertain_62 (lv_at hl 0 rfl) ?_
          refine lv_iload_n hx hb dX1_knowsCertain_64 rfl (lv_at hl 5 rfl) ?_
          refine call_Vp (As := [.int (nI (hf i)), .int (nI k)]) (rest := []) S (m_X1_wouldBeCertain h0 h1 h2 h3 h4 h5 h6 h1 h2 n wn t tc sc uw c1 c2 s og hf tf (hf i) k (by omega) (by rw [hog i (by omega)]; exact ocol_lt _ _ _ _)) g_X1_X1_wouldBeCertain hd_X1_wouldBeCertain ⟨Nat.le_of_ble_eq_true rfl, Nat.le_of_ble_eq_true rfl⟩ ⟨Nat.zero_le _, Nat.zero_le _⟩ hP hD hK hS hZ [0, 1, 2, 3, 4, 5, 6] rfl (by decide) 0 rfl rfl hl.1 rfl (Nat.le_of_ble_eq_true rfl) dX1_knowsCertain_65 (fun r H locs hq hP hS => ?_)
          obtain rfl : r = bI (wbc (s k) k (Lof hf c1) (hf i)) := by rw [hq, wbc, hog i (by omega)]
          refine ifB_ne (tgt := 73) hx hb dX1_knowsCertain_68 (by decide) (fun c_68 => ?_) (fun c_68 => ?_)
          · refine lv_iinc (v := nI (i + 1)) (lv' := [(4, .int (nI (i + 1))), (5, .int (nI (hf i))), (3, .int (nI (s j))), (0, .ref h0), (1, .int (nI j)), (2, .int (nI k))]) hx hb dX1_knowsCertain_73 hl (k := 1) rfl (nI_add _ _) (by decide) rfl (fun ls hl => ?_)
            refine lv_goto (tgt := 28) hx hb dX1_knowsCertain_76 (by decide) ?_
            exact ih28 (i + 1) (by omega) (by omega) (fun j2 h2 ha2 => by rcases Nat.lt_or_ge j2 i with q | q; (· exact hall j2 q ha2); (· rw [show j2 = i by omega] at ha2 ⊢; exact c_68)) _ _ hP hD hS _ (lv_sub hl [0, 2, 3, 4, 5] rfl)
          · refine lv_iconst (v := nI 0) hx hb dX1_knowsCertain_71 (by decide) ?_
            exact ret _ (gW cI h0 h1 h2 h3 h4 h5 h6 h1 h2 n wn t tc sc uw c1 c2 s og hf tf) _ _ _ _ dX1_knowsCertain_72 rfl ⟨bI_f (sure_f (by omega) c_58 c_68), og, rfl⟩ (List.Perm.refl _) hP hS
  exact lp28 (c1 + 1) 0 (by omega) (by omega) (fun j2 h2 => absurd h2 (by omega)) _ _ hP hD hS _ (lv_sub hl [0, 1, 2, 3, 4] rfl)

set_option maxHeartbeats 4000000 in
set_option maxRecDepth 100000 in
theorem m_X1_certainPlayers (h0 h1 h2 h3 h4 h5 h6 n wn t tc sc : Nat) (uw : Bool) (c1 c2 : Nat) (s ow hf tf : Nat → Nat)  (hn : n ≤ 5) (hw : wn < 1024) (hs : ∀ p, p < 5 → s p < 1024) (hc1 : c1 ≤ 243) (hb1 : ∀ j, j < c1 → hf j < 1024) : Mp l yX1_certainPlayers ws_X1_certainPlayers 4 94 (dC, dI) (tyL cI cZ cS cW) [.ref h0] (gW cI h0 h1 h2 h3 h4 h5 h6 h1 h2 n wn t tc sc uw c1 c2 s ow hf tf) (fun r => r = nI (certN wn s (Lof hf c1) n)) := by
  refine Mi_of (by decide +kernel) (Nat.le_of_ble_eq_true rfl) ?_
  intro pr ev sx mi ag bl me cd Q ls S hP hK hD hZ hl ret
  obtain ⟨hx, hb, hml, hown, hts⟩ := id S
  have hown : sx.vm.findClass RX1 = some mi.cls := hown
  have hS : va_S (wIn (gW cI h0 h1 h2 h3 h4 h5 h6 h1 h2 n wn t tc sc uw c1 c2 s ow hf tf)) sx.heap sx.heap [] := va_S.rf
  have hl : lv_has ls 1 [(0, .ref h0)] := hl
  refine lv_aload_n hx hb dX1_certainPlayers_0 rfl (lv_at hl 0 rfl) ?_
  refine lv_aload_n hx hb dX1_certainPlayers_1 rfl (lv_at hl 0 rfl) ?_
  refine va_get (D := (dC, dI)) (ci := 1) (v := .ref h1) (C := RX1) (T := TX1) (N := 10) hx hb hts inX1 hown hK hP 0 rfl rfl 0 (by decide) (hts _ q_fl_X1_10) (fun _ h9 => h9) rfl dX1_certainPlayers_2 ?_
  refine call_Vp (As := [.ref h1]) (rest := []) S (m_X1_countCertain h0 h1 h2 h3 h4 h5 h6 h1 h2 n wn t tc sc uw c1 c2 s ow hf tf  hn hw hc1 hb1) g_X1_X1_countCertain hd_X1_countCertain ⟨Nat.le_of_ble_eq_true rfl, Nat.le_of_ble_eq_true rfl⟩ ⟨Nat.zero_le _, Nat.zero_le _⟩ hP hD hK hS hZ [0, 1, 2, 3, 4, 5, 6] rfl (by decide) 0 rfl rfl hl.1 rfl (Nat.le_of_ble_eq_true rfl) dX1_certainPlayers_5 (fun r H locs hq hP hS => ?_)
  obtain rfl := hq
  exact ret _ (gW cI h0 h1 h2 h3 h4 h5 h6 h1 h2 n wn t tc sc uw c1 c2 s ow hf tf) _ _ _ _ dX1_certainPlayers_8 rfl ⟨rfl, rfl⟩ (List.Perm.refl _) hP hS





set_option maxHeartbeats 4000000 in
set_option maxRecDepth 100000 in
theorem m_X1_certainIfTold (h0 h1 h2 h3 h4 h5 h6 n wn t tc sc : Nat) (uw : Bool) (c1 c2 : Nat) (s ow hf tf : Nat → Nat) (j : Nat) (hj : j < n) (hn : n ≤ 5) (hw : wn < 1024) (hs : ∀ p, p < 5 → s p < 1024) (hc1 : c1 ≤ 243) (hb1 : ∀ j, j < c1 → hf j < 1024) : Mi l yX1_certainIfTold ws_X1_certainIfTold 4 94 (dC, dI) (tyL cI cZ cS cW) [.ref h0, .int (nI j)] (gW cI h0 h1 h2 h3 h4 h5 h6 h1 h2 n wn t tc sc uw c1 c2 s ow hf tf) (fun r u => r = nI (certN wn s (toldL wn j (Lof hf c1)) n) ∧ ∃ (k : Nat) (g : Nat → Nat), u = gW cI h0 h1 h2 h3 h4 h5 h6 h1 h2 n wn t tc sc uw c1 k s ow hf g) := by
  refine Mi_of (by decide +kernel) (Nat.le_of_ble_eq_true rfl) ?_
  intro pr ev sx mi ag bl me cd Q ls S hP hK hD hZ hl ret
  obtain ⟨hx, hb, hml, hown, hts⟩ := id S
  have hown : sx.vm.findClass RX1 = some mi.cls := hown
  have hS : va_S (wIn (gW cI h0 h1 h2 h3 h4 h5 h6 h1 h2 n wn t tc sc uw c1 c2 s ow hf tf)) sx.heap sx.heap [] := va_S.rf
  have hl : lv_has ls 2 [(0, .ref h0), (1, .int (nI j))] := hl
  refine lv_aload_n hx hb dX1_certainIfTold_0 rfl (lv_at hl 0 rfl) ?_
  refine lv_iload_n hx hb dX1_certainIfTold_1 rfl (lv_at hl 1 rfl) ?_
  refine call_Vv (As := [.int (nI j)]) (wr := []) (rest := []) S (m_X1_requirePlayer h0 h1 h2 h3 h4 h5 h6 h1 h2 n wn t tc sc uw c1 c2 s ow hf tf j (by omega) hn) g_X1_X1_requirePlayer hd_X1_requirePlayer ⟨Nat.le_of_ble_eq_true rfl, Nat.le_of_ble_eq_true rfl⟩ ⟨Nat.zero_le _, Nat.zero_le _⟩ hP hD hK hS hZ [0, 1, 2, 3, 4, 5, 6] [] rfl rfl (by decide) 0 rfl rfl hl.1 rfl (Nat.le_of_ble_eq_true rfl) dX1_certainIfTold_2 (fun u H locs hq hP hD hS => ?_)
  obtain rfl := hq
  have hP : va_P (dC, dI) vwCl (gW cI h0 h1 h2 h3 h4 h5 h6 h1 h2 n wn t tc sc uw c1 c2 s ow hf tf) H := hP
  have hD : va_D (wIn (gW cI h0 h1 h2 h3 h4 h5 h6 h1 h2 n wn t tc sc uw c1 c2 s ow hf tf)) (gW cI h0 h1 h2 h3 h4 h5 h6 h1 h2 n wn t tc sc uw c1 c2 s ow hf tf) := hD
  refine lv_aload_n hx hb dX1_certainIfTold_5 rfl (lv_at hl 0 rfl) ?_
  refine va_get (D := (dC, dI)) (ci := 1) (v := .ref h2) (C := RX1) (T := TX1) (N := 10) hx hb hts inX1 hown hK hP 0 rfl rfl 1 (by decide) (hts _ q_fl_X1_16) (fun _ h9 => h9) rfl dX1_certainIfTold_6 ?_
  refine lv_aload_n hx hb dX1_certainIfTold_9 rfl (lv_at hl 0 rfl) ?_
  refine va_get (D := (dC, dI)) (ci := 1) (v := .ref h1) (C := RX1) (T := TX1) (N := 10) hx hb hts inX1 hown hK hP 0 rfl rfl 0 (by decide) (hts _ q_fl_X1_10) (fun _ h9 => h9) rfl dX1_certainIfTold_10 ?_
  refine call_Vv (As := [.ref h1]) (wr := [(h0, .inr (1, [.ref h1, .ref h2, .ref h3, .ref h4, .int (nI n), .int (nI wn), .int (nI t), .int (nI tc), .int (nI sc), .int (bI uw)])), (h3, .inl (cI, 5, .inl (fun k => nI (s k)))), (h4, .inl (cI, 1024, .inl (fun k => nI (ow k))))]) (rest := []) S (m_X0_copyFrom h2 h6 c2 tf h1 h5 c1 hf hc1) g_X1_X0_copyFrom hd_X0_copyFrom ⟨Nat.le_of_ble_eq_true rfl, Nat.le_of_ble_eq_true rfl⟩ ⟨Nat.zero_le _, Nat.zero_le _⟩ hP hD hK hS hZ [2, 6, 1, 5] [0, 3, 4] rfl rfl (by decide) 0 rfl rfl hl.1 rfl (Nat.le_of_ble_eq_true rfl) dX1_certainIfTold_13 (fun u H locs hq hP hD hS => ?_)
  obtain ⟨nf, rfl, hnf⟩ := hq
  have hP := hP.sub (ws' := gW cI h0 h1 h2 h3 h4 h5 h6 h1 h2 n wn t tc sc uw c1 c1 s ow hf nf) [0, 5, 3, 1, 2, 6, 4] rfl
  have hD := hD.sub (ws' := gW cI h0 h1 h2 h3 h4 h5 h6 h1 h2 n wn t tc sc uw c1 c1 s ow hf nf) [0, 5, 3, 1, 2, 6, 4] (by decide) rfl
  refine lv_aload_n hx hb dX1_certainIfTold_16 rfl (lv_at hl 0 rfl) ?_
  refine va_get (D := (dC, dI)) (ci := 1) (v := .ref h2) (C := RX1) (T := TX1) (N := 10) hx hb hts inX1 hown hK hP 0 rfl rfl 1 (by decide) (hts _ q_fl_X1_16) (fun _ h9 => h9) rfl dX1_certainIfTold_17 ?_
  refine lv_iload_n hx hb dX1_certainIfTold_20 rfl (lv_at hl 1 rfl) ?_
  refine lv_aload_n hx hb dX1_certainIfTold_21 rfl (lv_at hl 0 rfl) ?_
  refine va_get (D := (dC, dI)) (ci := 1) (v := .int (nI wn)) (C := RX1) (T := TX1) (N := 10) hx hb hts inX1 hown hK hP 0 rfl rfl 5 (by decide) (hts _ q_fl_X1_30) (fun _ h9 => h9) rfl dX1_certainIfTold_22 ?_
  refine lv_iload_n hx hb dX1_certainIfTold_25 rfl (lv_at hl 1 rfl) ?_
  refine call_Sp (As := [.int (nI wn), .int (nI j)]) (rest := [.int (nI j), .ref h2]) S (m_X1_colourIn wn j hw (by omega)) g_X1_X1_colourIn hd_X1_colourIn ⟨Nat.le_of_ble_eq_true rfl, Nat.le_of_ble_eq_true rfl⟩ ⟨Nat.zero_le _, Nat.zero_le _⟩ hP hD hK hS hZ [] rfl (by decide) hl.1 rfl (Nat.le_of_ble_eq_true rfl) dX1_certainIfTold_26 (fun r H locs hq hP hS => ?_)
  obtain rfl := hq
  refine call_Sv (As := [.ref h2, .int (nI j), .int (nI (qd wn j))]) (wr := [(h0, .inr (1, [.ref h1, .ref h2, .ref h3, .ref h4, .int (nI n), .int (nI wn), .int (nI t), .int (nI tc), .int (nI sc), .int (bI uw)])), (h1, .inr (0, [.ref h5, .int (nI c1)])), (h3, .inl (cI, 5, .inl (fun k => nI (s k)))), (h4, .inl (cI, 1024, .inl (fun k => nI (ow k)))), (h5, .inl (cI, 243, .inl (fun k => nI (hf k))))]) (rest := []) S (m_X1_keepWithHat h2 h6 c1 nf j (qd wn j) (by omega) (qd_lt _ _) hc1 (fun j hj => by rw [hnf j hj]; exact hb1 j hj)) g_X1_X1_keepWithHat hd_X1_keepWithHat ⟨Nat.le_of_ble_eq_true rfl, Nat.le_of_ble_eq_true rfl⟩ ⟨Nat.zero_le _, Nat.zero_le _⟩ hP hD hK hS hZ [2, 6] [0, 1, 3, 4, 5] rfl rfl (by decide) hl.1 rfl (Nat.le_of_ble_eq_true rfl) dX1_certainIfTold_29 (fun u H locs hq hP hD hS => ?_)
  obtain ⟨k7, g7, rfl, hL7⟩ := hq
  have hP := hP.sub (ws' := gW cI h0 h1 h2 h3 h4 h5 h6 h1 h2 n wn t tc sc uw c1 k7 s ow hf g7) [0, 1, 5, 2, 3, 4, 6] rfl
  have hD := hD.sub (ws' := gW cI h0 h1 h2 h3 h4 h5 h6 h1 h2 n wn t tc sc uw c1 k7 s ow hf g7) [0, 1, 5, 2, 3, 4, 6] (by decide) rfl
  refine lv_aload_n hx hb dX1_certainIfTold_32 rfl (lv_at hl 0 rfl) ?_
  refine lv_aload_n hx hb dX1_certainIfTold_33 rfl (lv_at hl 0 rfl) ?_
  refine va_get (D := (dC, dI)) (ci := 1) (v := .ref h2) (C := RX1) (T := TX1) (N := 10) hx hb hts inX1 hown hK hP 0 rfl rfl 1 (by decide) (hts _ q_fl_X1_16) (fun _ h9 => h9) rfl dX1_certainIfTold_34 ?_
  refine call_Vp (As := [.ref h2]) (rest := []) S (m_X1_countCertain h0 h2 h1 h3 h4 h6 h5 h1 h2 n wn t tc sc uw k7 c1 s ow g7 hf  hn hw (by have := Lof_le hL7; omega) (Lof_bd hL7 (fun j hj => by rw [hnf j hj]; exact hb1 j hj))) g_X1_X1_countCertain hd_X1_countCertain ⟨Nat.le_of_ble_eq_true rfl, Nat.le_of_ble_eq_true rfl⟩ ⟨Nat.zero_le _, Nat.zero_le _⟩ hP hD hK hS hZ [0, 2, 1, 3, 4, 6, 5] rfl (by decide) 0 rfl rfl hl.1 rfl (Nat.le_of_ble_eq_true rfl) dX1_certainIfTold_37 (fun r H locs hq hP hS => ?_)
  obtain rfl := hq
  exact ret _ (gW cI h0 h1 h2 h3 h4 h5 h6 h1 h2 n wn t tc sc uw c1 k7 s ow hf g7) _ _ _ _ dX1_certainIfTold_40 rfl ⟨by rw [hL7, Lof_congr hnf]; rfl, k7, g7, rfl⟩ (List.Perm.refl _) hP hS

set_option maxHeartbeats 4000000 in
set_option maxRecDepth 100000 in
theorem m_X1_meanPossible (h0 h1 h2 h3 h4 h5 h6 n wn t tc sc : Nat) (uw : Bool) (c1 c2 : Nat) (s ow hf tf : Nat → Nat)  (hn : n ≤ 5) (hw : wn < 1024) (hs : ∀ p, p < 5 → s p < 1024) (hc1 : c1 ≤ 243) (hb1 : ∀ j, j < c1 → hf j < 1024) : Md l yX1_meanPossible ws_X1_meanPossible 2 46 (dC, dI) (tyL cI cZ cS cW) [.ref h0] (gW cI h0 h1 h2 h3 h4 h5 h6 h1 h2 n wn t tc sc uw c1 c2 s ow hf tf) (fun r u => r = meanN n (sumP wn s (Lof hf c1) n) ∧ u = gW cI h0 h1 h2 h3 h4 h5 h6 h1 h2 n wn t tc sc uw c1 c2 s ow hf tf) := by
  refine Md_of (by decide +kernel) (Nat.le_of_ble_eq_true rfl) ?_
  intro pr ev sx mi ag bl me cd Q ls S hP hK hD hZ hl ret
  obtain ⟨hx, hb, hml, hown, hts⟩ := id S
  have hown : sx.vm.findClass RX1 = some mi.cls := hown
  have hS : va_S (wIn (gW cI h0 h1 h2 h3 h4 h5 h6 h1 h2 n wn t tc sc uw c1 c2 s ow hf tf)) sx.heap sx.heap [] := va_S.rf
  have hl : lv_has ls 3 [(0, .ref h0)] := hl
  refine lv_aload_n hx hb dX1_meanPossible_0 rfl (lv_at hl 0 rfl) ?_
  refine va_get (D := (dC, dI)) (ci := 1) (v := .int (nI n)) (C := RX1) (T := TX1) (N := 10) hx hb hts inX1 hown hK hP 0 rfl rfl 4 (by decide) (hts _ q_fl_X1_26) (fun _ h9 => h9) rfl dX1_meanPossible_1 ?_
  refine ifN_gt (tgt := 9) hx hb dX1_meanPossible_4 (by decide) (by omega) (fun c_4 => ?_) (fun c_4 => ?_)
  · refine lv_iconst (v := nI 0) hx hb dX1_meanPossible_9 (by decide) ?_
    refine lv_istore_n (lv' := [(1, .int (nI 0)), (0, .ref h0)]) hx hb dX1_meanPossible_10 rfl hl (by decide) rfl (fun ls hl => ?_)
    refine lv_iconst (v := nI 0) hx hb dX1_meanPossible_11 (by decide) ?_
    refine lv_istore_n (lv' := [(2, .int (nI 0)), (1, .int (nI 0)), (0, .ref h0)]) hx hb dX1_meanPossible_12 rfl hl (by decide) rfl (fun ls hl => ?_)
    have lp13 : ∀ (kf : Nat) (i : Nat) (a : Nat), n < i + kf → (i ≤ n) → (a = sumP wn s (Lof hf c1) i) → ∀ (H : Heap) (locs : List Loc), va_P (dC, dI) vwCl (gW cI h0 h1 h2 h3 h4 h5 h6 h1 h2 n wn t tc sc uw c1 c2 s ow hf tf) H → va_D (wIn (gW cI h0 h1 h2 h3 h4 h5 h6 h1 h2 n wn t tc sc uw c1 c2 s ow hf tf)) (gW cI h0 h1 h2 h3 h4 h5 h6 h1 h2 n wn t tc sc uw c1 c2 s ow hf tf) → va_S (wIn (gW cI h0 h1 h2 h3 h4 h5 h6 h1 h2 n wn t tc sc uw c1 c2 s ow hf tf)) sx.heap H locs → ∀ ls : Array Slot, lv_has ls 3 [(2, .int (nI i)), (1, .int (nI a)), (0, .ref h0)] → W pr l ev (rmB 2 46) sx mi ag bl me cd H locs 0 0 Q (F0 mi 13 ls []) := by
      intro kf
      induction kf with
      | zero => intro i a hkf hi ha; exact absurd hkf (by omega)
      | succ kf ih13 =>
        intro i a hkf hi ha H locs hP hD hS ls hl
        refine lv_iload_n hx hb dX1_meanPossible_13 rfl (lv_at hl 0 rfl) ?_
        refine lv_aload_n hx hb dX1_meanPossible_14 rfl (lv_at hl 2 rfl) ?_
        refine va_get (D := (dC, dI)) (ci := 1) (v := .int (nI n)) (C := RX1) (T := TX1) (N := 10) hx hb hts inX1 hown hK hP 0 rfl rfl 4 (by decide) (hts _ q_fl_X1_26) (fun _ h9 => h9) rfl dX1_meanPossible_15 ?_
        refine icN_ge (tgt := 35) hx hb dX1_meanPossible_18 (by decide) (by omega) (by omega) (fun c_18 => ?_) (fun c_18 => ?_)
        · refine lv_iload_n hx hb dX1_meanPossible_35 rfl (lv_at hl 1 rfl) ?_
          refine lv_i2d hx hb dX1_meanPossible_36 ?_
          refine lv_aload_n hx hb dX1_meanPossible_37 rfl (lv_at hl 2 rfl) ?_
          refine va_get (D := (dC, dI)) (ci := 1) (v := .int (nI n)) (C := RX1) (T := TX1) (N := 10) hx hb hts inX1 hown hK hP 0 rfl rfl 4 (by decide) (hts _ q_fl_X1_26) (fun _ h9 => h9) rfl dX1_meanPossible_38 ?_
          refine lv_i2d hx hb dX1_meanPossible_41 ?_
          refine lv_ddiv hx hb dX1_meanPossible_42 (ddiv_ok (by omega) hn (by have := sumP_le wn s hf c1 n; rw [ha, show i = n by omega]; exact Nat.le_trans this (Nat.mul_le_mul_left n hc1))) ?_
          exact ret _ (gW cI h0 h1 h2 h3 h4 h5 h6 h1 h2 n wn t tc sc uw c1 c2 s ow hf tf) _ _ _ _ dX1_meanPossible_43 ⟨by rw [meanN, if_neg (by omega), ha, show i = n by omega], rfl⟩ (List.Perm.refl _) hP hS
        · refine lv_iload_n hx hb dX1_meanPossible_21 rfl (lv_at hl 1 rfl) ?_
          refine lv_aload_n hx hb dX1_meanPossible_22 rfl (lv_at hl 2 rfl) ?_
          refine lv_iload_n hx hb dX1_meanPossible_23 rfl (lv_at hl 0 rfl) ?_
          refine call_Vp (As := [.int (nI i)]) (rest := [.int (nI a)]) S (m_X1_countPossible h0 h1 h2 h3 h4 h5 h6 h2 n wn t tc sc uw c1 c2 s ow hf tf i (by omega) hw hc1 hb1) g_X1_X1_countPossible hd_X1_countPossible ⟨Nat.le_of_ble_eq_true rfl, Nat.le_of_ble_eq_true rfl⟩ ⟨Nat.zero_le _, Nat.zero_le _⟩ hP hD hK hS hZ [0, 1, 2, 3, 4, 5, 6] rfl (by decide) 0 rfl rfl hl.1 rfl (Nat.le_of_ble_eq_true rfl) dX1_meanPossible_24 (fun r H locs hq hP hS => ?_)
          obtain rfl := hq
          refine lv_iadd hx hb dX1_meanPossible_27 ?_
          refine W_i (y := nI (a + ((Lof hf c1).countP (fun x => agr wn x (s i))))) (nI_add _ _) ?_
          refine lv_istore_n (lv' := [(1, .int (nI (a + ((Lof hf c1).countP (fun x => agr wn x (s i)))))), (2, .int (nI i)), (0, .ref h0)]) hx hb dX1_meanPossible_28 rfl hl (by decide) rfl (fun ls hl => ?_)
          refine lv_iinc (v := nI (i + 1)) (lv' := [(2, .int (nI (i + 1))), (1, .int (nI (a + ((Lof hf c1).countP (fun x => agr wn x (s i)))))), (0, .ref h0)]) hx hb dX1_meanPossible_29 hl (k := 1) rfl (nI_add _ _) (by decide) rfl (fun ls hl => ?_)
          refine lv_goto (tgt := 13) hx hb dX1_meanPossible_32 (by decide) ?_
          exact ih13 (i + 1) _ (by omega) (by omega) (by rw [ha]; rfl) _ _ hP hD hS _ (lv_sub hl [0, 1, 2] rfl)
    exact lp13 (n + 1) 0 0 (by omega) (by omega) rfl _ _ hP hD hS _ (lv_sub hl [0, 1, 2] rfl)
  · refine lv_dconst0 hx hb dX1_meanPossible_7 ?_
    exact ret _ (gW cI h0 h1 h2 h3 h4 h5 h6 h1 h2 n wn t tc sc uw c1 c2 s ow hf tf) _ _ _ _ dX1_meanPossible_8 ⟨by rw [meanN, if_pos c_4], rfl⟩ (List.Perm.refl _) hP hS

set_option maxHeartbeats 4000000 in
set_option maxRecDepth 100000 in
theorem m_X1_addPlayer (h0 h1 h2 h3 h4 h5 h6 n wn t tc sc : Nat) (uw : Bool) (c1 c2 : Nat) (s ow hf tf : Nat → Nat) (co : Nat) (hco : co < 3) (hn5 : n < 5) (hu : uw = false) (hc81 : c1 ≤ 81) (hn : n ≤ 5) (hw : wn < 1024) (hs : ∀ p, p < 5 → s p < 1024) (hc1 : c1 ≤ 243) (hb1 : ∀ j, j < c1 → hf j < 1024) : Mi l yX1_addPlayer ws_X1_addPlayer 3 63 (dC, dI) (tyL cI cZ cS cW) [.ref h0, .int (nI co)] (gW cI h0 h1 h2 h3 h4 h5 h6 h1 h2 n wn t tc sc uw c1 c2 s ow hf tf) (fun r u => r = nI n ∧ ∃ g : Nat → Nat, u = gW cI h0 h1 h2 h3 h4 h5 h6 h1 h2 (n + 1) (wn ||| co * 2 ^ (n * 2)) t tc sc uw (3 * c1) c2 (upN (lkS s n n) n (mskN n)) ow g tf ∧ Lof g (3 * c1) = ocL n (Lof hf c1) 2) := by
  refine Mi_of (by decide +kernel) (Nat.le_of_ble_eq_true rfl) ?_
  intro pr ev sx mi ag bl me cd Q ls S hP hK hD hZ hl ret
  obtain ⟨hx, hb, hml, hown, hts⟩ := id S
  have hown : sx.vm.findClass RX1 = some mi.cls := hown
  have hS : va_S (wIn (gW cI h0 h1 h2 h3 h4 h5 h6 h1 h2 n wn t tc sc uw c1 c2 s ow hf tf)) sx.heap sx.heap [] := va_S.rf
  have hl : lv_has ls 3 [(0, .ref h0), (1, .int (nI co))] := hl
  refine lv_iload_n hx hb dX1_addPlayer_0 rfl (lv_at hl 1 rfl) ?_
  refine call_Sv (As := [.int (nI co)]) (wr := [(h0, .inr (1, [.ref h1, .ref h2, .ref h3, .ref h4, .int (nI n), .int (nI wn), .int (nI t), .int (nI tc), .int (nI sc), .int (bI uw)])), (h1, .inr (0, [.ref h5, .int (nI c1)])), (h2, .inr (0, [.ref h6, .int (nI c2)])), (h3, .inl (cI, 5, .inl (fun k => nI (s k)))), (h4, .inl (cI, 1024, .inl (fun k => nI (ow k)))), (h5, .inl (cI, 243, .inl (fun k => nI (hf k)))), (h6, .inl (cI, 243, .inl (fun k => nI (tf k))))]) (rest := []) S (m_X1_requireColour co (by omega)) g_X1_X1_requireColour hd_X1_requireColour ⟨Nat.le_of_ble_eq_true rfl, Nat.le_of_ble_eq_true rfl⟩ ⟨Nat.zero_le _, Nat.zero_le _⟩ hP hD hK hS hZ [] [0, 1, 2, 3, 4, 5, 6] rfl rfl (by decide) hl.1 rfl (Nat.le_of_ble_eq_true rfl) dX1_addPlayer_1 (fun u H locs hq hP hD hS => ?_)
  obtain rfl := hq
  have hP : va_P (dC, dI) vwCl (gW cI h0 h1 h2 h3 h4 h5 h6 h1 h2 n wn t tc sc uw c1 c2 s ow hf tf) H := hP
  have hD : va_D (wIn (gW cI h0 h1 h2 h3 h4 h5 h6 h1 h2 n wn t tc sc uw c1 c2 s ow hf tf)) (gW cI h0 h1 h2 h3 h4 h5 h6 h1 h2 n wn t tc sc uw c1 c2 s ow hf tf) := hD
  refine lv_aload_n hx hb dX1_addPlayer_4 rfl (lv_at hl 0 rfl) ?_
  refine va_get (D := (dC, dI)) (ci := 1) (v := .int (nI n)) (C := RX1) (T := TX1) (N := 10) hx hb hts inX1 hown hK hP 0 rfl rfl 4 (by decide) (hts _ q_fl_X1_26) (fun _ h9 => h9) rfl dX1_addPlayer_5 ?_
  refine lv_iconst (v := nI 5) hx hb dX1_addPlayer_8 (by decide) ?_
  refine icN_ge (tgt := 19) hx hb dX1_addPlayer_9 (by decide) (by omega) (by omega) (fun c_9 => absurd c_9 (by omega)) (fun c_9 => ?_)
  refine lv_aload_n hx hb dX1_addPlayer_12 rfl (lv_at hl 0 rfl) ?_
  refine va_get (D := (dC, dI)) (ci := 1) (v := .int (bI uw)) (C := RX1) (T := TX1) (N := 10) hx hb hts inX1 hown hK hP 0 rfl rfl 9 (by decide) (hts _ q_fl_X1_42) (fun _ h9 => h9) rfl dX1_addPlayer_13 ?_
  refine ifB_eq (tgt := 29) hx hb dX1_addPlayer_16 (by decide) (fun c_16 => ?_) (fun c_16 => absurd c_16 (by rw [hu]; decide))
  refine lv_aload_n hx hb dX1_addPlayer_29 rfl (lv_at hl 0 rfl) ?_
  refine va_get (D := (dC, dI)) (ci := 1) (v := .int (nI n)) (C := RX1) (T := TX1) (N := 10) hx hb hts inX1 hown hK hP 0 rfl rfl 4 (by decide) (hts _ q_fl_X1_26) (fun _ h9 => h9) rfl dX1_addPlayer_30 ?_
  refine lv_istore_n (lv' := [(2, .int (nI n)), (0, .ref h0), (1, .int (nI co))]) hx hb dX1_addPlayer_33 rfl hl (by decide) rfl (fun ls hl => ?_)
  refine lv_aload_n hx hb dX1_addPlayer_34 rfl (lv_at hl 1 rfl) ?_
  refine lv_dup hx hb dX1_addPlayer_35 rfl ?_
  refine va_get (D := (dC, dI)) (ci := 1) (v := .int (nI n)) (C := RX1) (T := TX1) (N := 10) hx hb hts inX1 hown hK hP 0 rfl rfl 4 (by decide) (hts _ q_fl_X1_26) (fun _ h9 => h9) rfl dX1_addPlayer_36 ?_
  refine lv_iconst (v := nI 1) hx hb dX1_addPlayer_39 (by decide) ?_
  refine lv_iadd hx hb dX1_addPlayer_40 ?_
  refine W_i (y := nI (n + 1)) (nI_add _ _) ?_
  refine va_put (D := (dC, dI)) (ci := 1) (v := .int (nI (n + 1))) (ty := .int) (C := RX1) (T := TX1) (N := 10) hx hb hts inX1 tyX1 tyX1_ok nmX1 hown hK hP hD hS 0 rfl rfl 4 (by decide) (hts _ q_fl_X1_26) (fun _ h9 => h9) rfl (by decide +kernel) rfl rfl (Nat.le_of_ble_eq_true rfl) dX1_addPlayer_41 (fun H locs hP hD hS => ?_)
  have hP : va_P (dC, dI) vwCl (gW cI h0 h1 h2 h3 h4 h5 h6 h1 h2 (n + 1) wn t tc sc uw c1 c2 s ow hf tf) H := hP
  have hD : va_D (wIn (gW cI h0 h1 h2 h3 h4 h5 h6 h1 h2 n wn t tc sc uw c1 c2 s ow hf tf)) (gW cI h0 h1 h2 h3 h4 h5 h6 h1 h2 (n + 1) wn t tc sc uw c1 c2 s ow hf tf) := hD
  refine lv_aload_n hx hb dX1_addPlayer_44 rfl (lv_at hl 1 rfl) ?_
  refine lv_aload_n hx hb dX1_addPlayer_45 rfl (lv_at hl 1 rfl) ?_
  refine va_get (D := (dC, dI)) (ci := 1) (v := .int (nI wn)) (C := RX1) (T := TX1) (N := 10) hx hb hts inX1 hown hK hP 0 rfl rfl 5 (by decide) (hts _ q_fl_X1_30) (fun _ h9 => h9) rfl dX1_addPlayer_46 ?_
  refine lv_iload_n hx hb dX1_addPlayer_49 rfl (lv_at hl 2 rfl) ?_
  refine lv_iload_n hx hb dX1_addPlayer_50 rfl (lv_at hl 0 rfl) ?_
  refine call_Sp (As := [.int (nI n)]) (rest := [.int (nI co), .int (nI wn), .ref h0]) S (m_X1_shiftOf n ) g_X1_X1_shiftOf hd_X1_shiftOf ⟨Nat.le_of_ble_eq_true rfl, Nat.le_of_ble_eq_true rfl⟩ ⟨Nat.zero_le _, Nat.zero_le _⟩ hP hD hK hS hZ [] rfl (by decide) hl.1 rfl (Nat.le_of_ble_eq_true rfl) dX1_addPlayer_51 (fun r H locs hq hP hS => ?_)
  obtain rfl := hq
  refine lv_ishl hx hb dX1_addPlayer_54 ?_
  refine W_i (y := nI (co * 2 ^ (n * 2))) (nI_shl _ (by omega)) ?_
  refine lv_ior hx hb dX1_addPlayer_55 ?_
  refine W_i (y := nI (wn ||| (co * 2 ^ (n * 2)))) (nI_or _ _) ?_
  refine va_put (D := (dC, dI)) (ci := 1) (v := .int (nI (wn ||| (co * 2 ^ (n * 2))))) (ty := .int) (C := RX1) (T := TX1) (N := 10) hx hb hts inX1 tyX1 tyX1_ok nmX1 hown hK hP hD hS 0 rfl rfl 5 (by decide) (hts _ q_fl_X1_30) (fun _ h9 => h9) rfl (by decide +kernel) rfl rfl (Nat.le_of_ble_eq_true rfl) dX1_addPlayer_56 (fun H locs hP hD hS => ?_)
  have hP : va_P (dC, dI) vwCl (gW cI h0 h1 h2 h3 h4 h5 h6 h1 h2 (n + 1) (wn ||| (co * 2 ^ (n * 2))) t tc sc uw c1 c2 s ow hf tf) H := hP
  have hD : va_D (wIn (gW cI h0 h1 h2 h3 h4 h5 h6 h1 h2 n wn t tc sc uw c1 c2 s ow hf tf)) (gW cI h0 h1 h2 h3 h4 h5 h6 h1 h2 (n + 1) (wn ||| (co * 2 ^ (n * 2))) t tc sc uw c1 c2 s ow hf tf) := hD
  refine lv_aload_n hx hb dX1_addPlayer_59 rfl (lv_at hl 1 rfl) ?_
  refine lv_iload_n hx hb dX1_addPlayer_60 rfl (lv_at hl 0 rfl) ?_
  refine call_Vv (As := [.int (nI n)]) (wr := []) (rest := []) S (m_X1_lookAtEachOther h0 h1 h2 h3 h4 h5 h6 h1 h2 (n + 1) (wn ||| (co * 2 ^ (n * 2))) t tc sc uw c1 c2 s ow hf tf n (by omega)) g_X1_X1_lookAtEachOther hd_X1_lookAtEachOther ⟨Nat.le_of_ble_eq_true rfl, Nat.le_of_ble_eq_true rfl⟩ ⟨Nat.zero_le _, Nat.zero_le _⟩ hP hD hK hS hZ [0, 1, 2, 3, 4, 5, 6] [] rfl rfl (by decide) 0 rfl rfl hl.1 rfl (Nat.le_of_ble_eq_true rfl) dX1_addPlayer_61 (fun u H locs hq hP hD hS => ?_)
  obtain rfl := hq
  have hP : va_P (dC, dI) vwCl (gW cI h0 h1 h2 h3 h4 h5 h6 h1 h2 (n + 1) (wn ||| (co * 2 ^ (n * 2))) t tc sc uw c1 c2 (upN (lkS s n n) n (mskN n)) ow hf tf) H := hP
  have hD : va_D (wIn (gW cI h0 h1 h2 h3 h4 h5 h6 h1 h2 n wn t tc sc uw c1 c2 s ow hf tf)) (gW cI h0 h1 h2 h3 h4 h5 h6 h1 h2 (n + 1) (wn ||| (co * 2 ^ (n * 2))) t tc sc uw c1 c2 (upN (lkS s n n) n (mskN n)) ow hf tf) := hD
  refine lv_aload_n hx hb dX1_addPlayer_64 rfl (lv_at hl 1 rfl) ?_
  refine lv_iload_n hx hb dX1_addPlayer_65 rfl (lv_at hl 0 rfl) ?_
  refine call_Vv (As := [.int (nI n)]) (wr := []) (rest := []) S (m_X1_openColoursOf h0 h1 h2 h3 h4 h5 h6 h2 (n + 1) (wn ||| (co * 2 ^ (n * 2))) t tc sc uw c1 c2 (upN (lkS s n n) n (mskN n)) ow hf tf n (by omega) (by omega)) g_X1_X1_openColoursOf hd_X1_openColoursOf ⟨Nat.le_of_ble_eq_true rfl, Nat.le_of_ble_eq_true rfl⟩ ⟨Nat.zero_le _, Nat.zero_le _⟩ hP hD hK hS hZ [0, 1, 2, 3, 4, 5, 6] [] rfl rfl (by decide) 0 rfl rfl hl.1 rfl (Nat.le_of_ble_eq_true rfl) dX1_addPlayer_66 (fun u H locs hq hP hD hS => ?_)
  obtain ⟨g4, rfl, hL4⟩ := hq
  have hP : va_P (dC, dI) vwCl (gW cI h0 h1 h2 h3 h4 h5 h6 h1 h2 (n + 1) (wn ||| (co * 2 ^ (n * 2))) t tc sc uw (3 * c1) c2 (upN (lkS s n n) n (mskN n)) ow g4 tf) H := hP
  have hD : va_D (wIn (gW cI h0 h1 h2 h3 h4 h5 h6 h1 h2 n wn t tc sc uw c1 c2 s ow hf tf)) (gW cI h0 h1 h2 h3 h4 h5 h6 h1 h2 (n + 1) (wn ||| (co * 2 ^ (n * 2))) t tc sc uw (3 * c1) c2 (upN (lkS s n n) n (mskN n)) ow g4 tf) := hD
  refine lv_iload_n hx hb dX1_addPlayer_69 rfl (lv_at hl 0 rfl) ?_
  exact ret _ (gW cI h0 h1 h2 h3 h4 h5 h6 h1 h2 (n + 1) (wn ||| (co * 2 ^ (n * 2))) t tc sc uw (3 * c1) c2 (upN (lkS s n n) n (mskN n)) ow g4 tf) _ _ _ _ dX1_addPlayer_70 rfl ⟨rfl, g4, rfl, hL4⟩ (List.Perm.refl _) hP hS

set_option maxHeartbeats 4000000 in
set_option maxRecDepth 100000 in
theorem m_X1_turnAway (h0 h1 h2 h3 h4 h5 h6 n wn t tc sc : Nat) (uw : Bool) (c1 c2 : Nat) (s ow hf tf : Nat → Nat) (j k : Nat) (hj : j < n) (hk : k < n) (hjk : j ≠ k) (hn : n ≤ 5) (hw : wn < 1024) (hs : ∀ p, p < 5 → s p < 1024) (hc1 : c1 ≤ 243) (hb1 : ∀ j, j < c1 → hf j < 1024) : Mi l yX1_turnAway ws_X1_turnAway 3 62 (dC, dI) (tyL cI cZ cS cW) [.ref h0, .int (nI j), .int (nI k)] (gW cI h0 h1 h2 h3 h4 h5 h6 h1 h2 n wn t tc sc uw c1 c2 s ow hf tf) (fun r u => r = bI (seeN (upN s j (s j ^^^ 3 * 2 ^ (k * 2))) j k) ∧ u = gW cI h0 h1 h2 h3 h4 h5 h6 h1 h2 n wn t tc sc uw c1 c2 (upN s j (s j ^^^ 3 * 2 ^ (k * 2))) ow hf tf) := by
  refine Mi_of (by decide +kernel) (Nat.le_of_ble_eq_true rfl) ?_
  intro pr ev sx mi ag bl me cd Q ls S hP hK hD hZ hl ret
  obtain ⟨hx, hb, hml, hown, hts⟩ := id S
  have hown : sx.vm.findClass RX1 = some mi.cls := hown
  have hS : va_S (wIn (gW cI h0 h1 h2 h3 h4 h5 h6 h1 h2 n wn t tc sc uw c1 c2 s ow hf tf)) sx.heap sx.heap [] := va_S.rf
  have hl : lv_has ls 3 [(0, .ref h0), (1, .int (nI j)), (2, .int (nI k))] := hl
  refine lv_aload_n hx hb dX1_turnAway_0 rfl (lv_at hl 0 rfl) ?_
  refine lv_iload_n hx hb dX1_turnAway_1 rfl (lv_at hl 1 rfl) ?_
  refine lv_iload_n hx hb dX1_turnAway_2 rfl (lv_at hl 2 rfl) ?_
  refine call_Vv (As := [.int (nI j), .int (nI k)]) (wr := []) (rest := []) S (m_X1_requireTwoPlayers h0 h1 h2 h3 h4 h5 h6 h1 h2 n wn t tc sc uw c1 c2 s ow hf tf j k (by omega) (by omega) hn hjk) g_X1_X1_requireTwoPlayers hd_X1_requireTwoPlayers ⟨Nat.le_of_ble_eq_true rfl, Nat.le_of_ble_eq_true rfl⟩ ⟨Nat.zero_le _, Nat.zero_le _⟩ hP hD hK hS hZ [0, 1, 2, 3, 4, 5, 6] [] rfl rfl (by decide) 0 rfl rfl hl.1 rfl (Nat.le_of_ble_eq_true rfl) dX1_turnAway_3 (fun u H locs hq hP hD hS => ?_)
  obtain rfl := hq
  have hP : va_P (dC, dI) vwCl (gW cI h0 h1 h2 h3 h4 h5 h6 h1 h2 n wn t tc sc uw c1 c2 s ow hf tf) H := hP
  have hD : va_D (wIn (gW cI h0 h1 h2 h3 h4 h5 h6 h1 h2 n wn t tc sc uw c1 c2 s ow hf tf)) (gW cI h0 h1 h2 h3 h4 h5 h6 h1 h2 n wn t tc sc uw c1 c2 s ow hf tf) := hD
  refine lv_aload_n hx hb dX1_turnAway_6 rfl (lv_at hl 0 rfl) ?_
  refine lv_iload_n hx hb dX1_turnAway_7 rfl (lv_at hl 1 rfl) ?_
  refine lv_aload_n hx hb dX1_turnAway_8 rfl (lv_at hl 0 rfl) ?_
  refine lv_iload_n hx hb dX1_turnAway_9 rfl (lv_at hl 1 rfl) ?_
  refine call_Vp (As := [.int (nI j)]) (rest := [.int (nI j), .ref h0]) S (m_X1_seenHatsOf h0 h1 h2 h3 h4 h5 h6 h1 h2 n wn t tc sc uw c1 c2 s ow hf tf j (by omega)) g_X1_X1_seenHatsOf hd_X1_seenHatsOf ⟨Nat.le_of_ble_eq_true rfl, Nat.le_of_ble_eq_true rfl⟩ ⟨Nat.zero_le _, Nat.zero_le _⟩ hP hD hK hS hZ [0, 1, 2, 3, 4, 5, 6] rfl (by decide) 0 rfl rfl hl.1 rfl (Nat.le_of_ble_eq_true rfl) dX1_turnAway_10 (fun r H locs hq hP hS => ?_)
  obtain rfl := hq
  refine lv_iload_n hx hb dX1_turnAway_13 rfl (lv_at hl 2 rfl) ?_
  refine call_Sp (As := [.int (nI k)]) (rest := [.int (nI (s j)), .int (nI j), .ref h0]) S (m_X1_hatMask k (by omega)) g_X1_X1_hatMask hd_X1_hatMask ⟨Nat.le_of_ble_eq_true rfl, Nat.le_of_ble_eq_true rfl⟩ ⟨Nat.zero_le _, Nat.zero_le _⟩ hP hD hK hS hZ [] rfl (by decide) hl.1 rfl (Nat.le_of_ble_eq_true rfl) dX1_turnAway_14 (fun r H locs hq hP hS => ?_)
  obtain rfl := hq
  refine lv_ixor hx hb dX1_turnAway_17 ?_
  refine W_i (y := nI ((s j) ^^^ (3 * 2 ^ (k * 2)))) (nI_xor _ _) ?_
  refine call_Vv (As := [.int (nI j), .int (nI ((s j) ^^^ (3 * 2 ^ (k * 2))))]) (wr := []) (rest := []) S (m_X1_setSeenHatsOf h0 h1 h2 h3 h4 h5 h6 h1 h2 n wn t tc sc uw c1 c2 s ow hf tf j ((s j) ^^^ (3 * 2 ^ (k * 2))) (by omega)) g_X1_X1_setSeenHatsOf hd_X1_setSeenHatsOf ⟨Nat.le_of_ble_eq_true rfl, Nat.le_of_ble_eq_true rfl⟩ ⟨Nat.zero_le _, Nat.zero_le _⟩ hP hD hK hS hZ [0, 1, 2, 3, 4, 5, 6] [] rfl rfl (by decide) 0 rfl rfl hl.1 rfl (Nat.le_of_ble_eq_true rfl) dX1_turnAway_18 (fun u H locs hq hP hD hS => ?_)
  obtain rfl := hq
  have hP : va_P (dC, dI) vwCl (gW cI h0 h1 h2 h3 h4 h5 h6 h1 h2 n wn t tc sc uw c1 c2 (upN s j ((s j) ^^^ (3 * 2 ^ (k * 2)))) ow hf tf) H := hP
  have hD : va_D (wIn (gW cI h0 h1 h2 h3 h4 h5 h6 h1 h2 n wn t tc sc uw c1 c2 s ow hf tf)) (gW cI h0 h1 h2 h3 h4 h5 h6 h1 h2 n wn t tc sc uw c1 c2 (upN s j ((s j) ^^^ (3 * 2 ^ (k * 2)))) ow hf tf) := hD
  refine lv_aload_n hx hb dX1_turnAway_21 rfl (lv_at hl 0 rfl) ?_
  refine lv_iload_n hx hb dX1_turnAway_22 rfl (lv_at hl 1 rfl) ?_
  refine lv_iload_n hx hb dX1_turnAway_23 rfl (lv_at hl 2 rfl) ?_
  refine call_Vp (As := [.int (nI j), .int (nI k)]) (rest := []) S (m_X1_seesHat h0 h1 h2 h3 h4 h5 h6 h1 h2 n wn t tc sc uw c1 c2 (upN s j ((s j) ^^^ (3 * 2 ^ (k * 2)))) ow hf tf j k (by omega) (by omega) (fun p hp => by by_cases hpj : p = j; (· subst hpj; rw [upN_s]; exact xor_k (hs p hp) (msk_lt (by omega))); (· rw [upN_n _ _ hpj]; exact hs p hp))) g_X1_X1_seesHat hd_X1_seesHat ⟨Nat.le_of_ble_eq_true rfl, Nat.le_of_ble_eq_true rfl⟩ ⟨Nat.zero_le _, Nat.zero_le _⟩ hP hD hK hS hZ [0, 1, 2, 3, 4, 5, 6] rfl (by decide) 0 rfl rfl hl.1 rfl (Nat.le_of_ble_eq_true rfl) dX1_turnAway_24 (fun r H locs hq hP hS => ?_)
  obtain rfl := hq
  exact ret _ (gW cI h0 h1 h2 h3 h4 h5 h6 h1 h2 n wn t tc sc uw c1 c2 (upN s j ((s j) ^^^ (3 * 2 ^ (k * 2)))) ow hf tf) _ _ _ _ dX1_turnAway_27 (bI_nar _) ⟨rfl, rfl⟩ (List.Perm.refl _) hP hS

set_option maxHeartbeats 4000000 in
set_option maxRecDepth 100000 in
theorem m_X1_borrow (h0 h1 h2 h3 h4 h5 h6 n wn t tc sc : Nat) (uw : Bool) (c1 c2 : Nat) (s ow hf tf : Nat → Nat) (j k : Nat) (hj : j < n) (hk : k < n) (hjk : j ≠ k) (hn : n ≤ 5) (hw : wn < 1024) (hs : ∀ p, p < 5 → s p < 1024) (hc1 : c1 ≤ 243) (hb1 : ∀ j, j < c1 → hf j < 1024) : Mi l yX1_borrow ws_X1_borrow 2 44 (dC, dI) (tyL cI cZ cS cW) [.ref h0, .int (nI j), .int (nI k)] (gW cI h0 h1 h2 h3 h4 h5 h6 h1 h2 n wn t tc sc uw c1 c2 s ow hf tf) (fun r u => r = nI (qd (xch wn j k) j) ∧ ∃ g : Nat → Nat, u = gW cI h0 h1 h2 h3 h4 h5 h6 h1 h2 n (xch wn j k) t tc sc true c1 c2 s ow g tf ∧ Lof g c1 = (Lof hf c1).map (fun x => xch x j k)) := by
  refine Mi_of (by decide +kernel) (Nat.le_of_ble_eq_true rfl) ?_
  intro pr ev sx mi ag bl me cd Q ls S hP hK hD hZ hl ret
  obtain ⟨hx, hb, hml, hown, hts⟩ := id S
  have hown : sx.vm.findClass RX1 = some mi.cls := hown
  have hS : va_S (wIn (gW cI h0 h1 h2 h3 h4 h5 h6 h1 h2 n wn t tc sc uw c1 c2 s ow hf tf)) sx.heap sx.heap [] := va_S.rf
  have hl : lv_has ls 4 [(0, .ref h0), (1, .int (nI j)), (2, .int (nI k))] := hl
  refine lv_aload_n hx hb dX1_borrow_0 rfl (lv_at hl 0 rfl) ?_
  refine lv_iload_n hx hb dX1_borrow_1 rfl (lv_at hl 1 rfl) ?_
  refine lv_iload_n hx hb dX1_borrow_2 rfl (lv_at hl 2 rfl) ?_
  refine call_Vv (As := [.int (nI j), .int (nI k)]) (wr := []) (rest := []) S (m_X1_requireTwoPlayers h0 h1 h2 h3 h4 h5 h6 h1 h2 n wn t tc sc uw c1 c2 s ow hf tf j k (by omega) (by omega) hn hjk) g_X1_X1_requireTwoPlayers hd_X1_requireTwoPlayers ⟨Nat.le_of_ble_eq_true rfl, Nat.le_of_ble_eq_true rfl⟩ ⟨Nat.zero_le _, Nat.zero_le _⟩ hP hD hK hS hZ [0, 1, 2, 3, 4, 5, 6] [] rfl rfl (by decide) 0 rfl rfl hl.1 rfl (Nat.le_of_ble_eq_true rfl) dX1_borrow_3 (fun u H locs hq hP hD hS => ?_)
  obtain rfl := hq
  have hP : va_P (dC, dI) vwCl (gW cI h0 h1 h2 h3 h4 h5 h6 h1 h2 n wn t tc sc uw c1 c2 s ow hf tf) H := hP
  have hD : va_D (wIn (gW cI h0 h1 h2 h3 h4 h5 h6 h1 h2 n wn t tc sc uw c1 c2 s ow hf tf)) (gW cI h0 h1 h2 h3 h4 h5 h6 h1 h2 n wn t tc sc uw c1 c2 s ow hf tf) := hD
  refine lv_aload_n hx hb dX1_borrow_6 rfl (lv_at hl 0 rfl) ?_
  refine lv_iconst (v := nI 1) hx hb dX1_borrow_7 (by decide) ?_
  refine W_i (y := bI true) rfl ?_
  refine va_put (D := (dC, dI)) (ci := 1) (v := .int (bI true)) (ty := .boolean) (C := RX1) (T := TX1) (N := 10) hx hb hts inX1 tyX1 tyX1_ok nmX1 hown hK hP hD hS 0 rfl rfl 9 (by decide) (hts _ q_fl_X1_42) (fun _ h9 => h9) rfl (by decide +kernel) rfl rfl (Nat.le_of_ble_eq_true rfl) dX1_borrow_8 (fun H locs hP hD hS => ?_)
  have hP : va_P (dC, dI) vwCl (gW cI h0 h1 h2 h3 h4 h5 h6 h1 h2 n wn t tc sc true c1 c2 s ow hf tf) H := hP
  have hD : va_D (wIn (gW cI h0 h1 h2 h3 h4 h5 h6 h1 h2 n wn t tc sc uw c1 c2 s ow hf tf)) (gW cI h0 h1 h2 h3 h4 h5 h6 h1 h2 n wn t tc sc true c1 c2 s ow hf tf) := hD
  refine lv_aload_n hx hb dX1_borrow_11 rfl (lv_at hl 0 rfl) ?_
  refine lv_aload_n hx hb dX1_borrow_12 rfl (lv_at hl 0 rfl) ?_
  refine va_get (D := (dC, dI)) (ci := 1) (v := .int (nI wn)) (C := RX1) (T := TX1) (N := 10) hx hb hts inX1 hown hK hP 0 rfl rfl 5 (by decide) (hts _ q_fl_X1_30) (fun _ h9 => h9) rfl dX1_borrow_13 ?_
  refine lv_iload_n hx hb dX1_borrow_16 rfl (lv_at hl 1 rfl) ?_
  refine lv_iload_n hx hb dX1_borrow_17 rfl (lv_at hl 2 rfl) ?_
  refine call_Sp (As := [.int (nI wn), .int (nI j), .int (nI k)]) (rest := [.ref h0]) S (m_X1_exchanged wn j k hw (by omega) (by omega)) g_X1_X1_exchanged hd_X1_exchanged ⟨Nat.le_of_ble_eq_true rfl, Nat.le_of_ble_eq_true rfl⟩ ⟨Nat.zero_le _, Nat.zero_le _⟩ hP hD hK hS hZ [] rfl (by decide) hl.1 rfl (Nat.le_of_ble_eq_true rfl) dX1_borrow_18 (fun r H locs hq hP hS => ?_)
  obtain rfl := hq
  refine va_put (D := (dC, dI)) (ci := 1) (v := .int (nI (xch wn j k))) (ty := .int) (C := RX1) (T := TX1) (N := 10) hx hb hts inX1 tyX1 tyX1_ok nmX1 hown hK hP hD hS 0 rfl rfl 5 (by decide) (hts _ q_fl_X1_30) (fun _ h9 => h9) rfl (by decide +kernel) rfl rfl (Nat.le_of_ble_eq_true rfl) dX1_borrow_21 (fun H locs hP hD hS => ?_)
  have hP : va_P (dC, dI) vwCl (gW cI h0 h1 h2 h3 h4 h5 h6 h1 h2 n (xch wn j k) t tc sc true c1 c2 s ow hf tf) H := hP
  have hD : va_D (wIn (gW cI h0 h1 h2 h3 h4 h5 h6 h1 h2 n wn t tc sc uw c1 c2 s ow hf tf)) (gW cI h0 h1 h2 h3 h4 h5 h6 h1 h2 n (xch wn j k) t tc sc true c1 c2 s ow hf tf) := hD
  refine lv_iconst (v := nI 0) hx hb dX1_borrow_24 (by decide) ?_
  refine lv_istore_n (lv' := [(3, .int (nI 0)), (0, .ref h0), (1, .int (nI j)), (2, .int (nI k))]) hx hb dX1_borrow_25 rfl hl (by decide) rfl (fun ls hl => ?_)
  have lp26 : ∀ (kf : Nat) (i : Nat) (g : Nat → Nat), c1 < i + kf → (i ≤ c1) → (∀ q, q < i → g q = xch (hf q) j k) → (∀ q, i ≤ q → g q = hf q) → ∀ (H : Heap) (locs : List Loc), va_P (dC, dI) vwCl (gW cI h0 h1 h2 h3 h4 h5 h6 h1 h2 n (xch wn j k) t tc sc true c1 c2 s ow g tf) H → va_D (wIn (gW cI h0 h1 h2 h3 h4 h5 h6 h1 h2 n wn t tc sc uw c1 c2 s ow hf tf)) (gW cI h0 h1 h2 h3 h4 h5 h6 h1 h2 n (xch wn j k) t tc sc true c1 c2 s ow g tf) → va_S (wIn (gW cI h0 h1 h2 h3 h4 h5 h6 h1 h2 n wn t tc sc uw c1 c2 s ow hf tf)) sx.heap H locs → ∀ ls : Array Slot, lv_has ls 4 [(3, .int (nI i)), (0, .ref h0), (1, .int (nI j)), (2, .int (nI k))] → W pr l ev (rmB 2 44) sx mi ag bl me cd H locs 0 0 Q (F0 mi 26 ls []) := by
    intro kf
    induction kf with
    | zero => intro i g hkf hi hg1 hg2; exact absurd hkf (by omega)
    | succ kf ih26 =>
      intro i g hkf hi hg1 hg2 H locs hP hD hS ls hl
      refine lv_iload_n hx hb dX1_borrow_26 rfl (lv_at hl 0 rfl) ?_
      refine lv_aload_n hx hb dX1_borrow_27 rfl (lv_at hl 1 rfl) ?_
      refine va_get (D := (dC, dI)) (ci := 1) (v := .ref h1) (C := RX1) (T := TX1) (N := 10) hx hb hts inX1 hown hK hP 0 rfl rfl 0 (by decide) (hts _ q_fl_X1_10) (fun _ h9 => h9) rfl dX1_borrow_28 ?_
      refine call_Vp (As := []) (rest := [.int (nI i)]) S (m_X0_count h1 h5 c1 g) g_X1_X0_count hd_X0_count ⟨Nat.le_of_ble_eq_true rfl, Nat.le_of_ble_eq_true rfl⟩ ⟨Nat.zero_le _, Nat.zero_le _⟩ hP hD hK hS hZ [1, 5] rfl (by decide) 0 rfl rfl hl.1 rfl (Nat.le_of_ble_eq_true rfl) dX1_borrow_31 (fun r H locs hq hP hS => ?_)
      obtain rfl := hq
      refine icN_ge (tgt := 64) hx hb dX1_borrow_34 (by decide) (by omega) (by omega) (fun c_34 => ?_) (fun c_34 => ?_)
      · refine lv_aload_n hx hb dX1_borrow_64 rfl (lv_at hl 1 rfl) ?_
        refine va_get (D := (dC, dI)) (ci := 1) (v := .int (nI (xch wn j k))) (C := RX1) (T := TX1) (N := 10) hx hb hts inX1 hown hK hP 0 rfl rfl 5 (by decide) (hts _ q_fl_X1_30) (fun _ h9 => h9) rfl dX1_borrow_65 ?_
        refine lv_iload_n hx hb dX1_borrow_68 rfl (lv_at hl 2 rfl) ?_
        refine call_Sp (As := [.int (nI (xch wn j k)), .int (nI j)]) (rest := []) S (m_X1_colourIn (xch wn j k) j (xch_lt hw (by omega) (by omega)) (by omega)) g_X1_X1_colourIn hd_X1_colourIn ⟨Nat.le_of_ble_eq_true rfl, Nat.le_of_ble_eq_true rfl⟩ ⟨Nat.zero_le _, Nat.zero_le _⟩ hP hD hK hS hZ [] rfl (by decide) hl.1 rfl (Nat.le_of_ble_eq_true rfl) dX1_borrow_69 (fun r H locs hq hP hS => ?_)
        obtain rfl := hq
        exact ret _ (gW cI h0 h1 h2 h3 h4 h5 h6 h1 h2 n (xch wn j k) t tc sc true c1 c2 s ow g tf) _ _ _ _ dX1_borrow_72 rfl ⟨rfl, g, rfl, by rw [Lof, Lof, List.map_map]; exact List.map_congr_left (fun q hq => hg1 q (by have := List.mem_range.mp hq; omega))⟩ (List.Perm.refl _) hP hS
      · refine lv_aload_n hx hb dX1_borrow_37 rfl (lv_at hl 1 rfl) ?_
        refine va_get (D := (dC, dI)) (ci := 1) (v := .ref h1) (C := RX1) (T := TX1) (N := 10) hx hb hts inX1 hown hK hP 0 rfl rfl 0 (by decide) (hts _ q_fl_X1_10) (fun _ h9 => h9) rfl dX1_borrow_38 ?_
        refine lv_iload_n hx hb dX1_borrow_41 rfl (lv_at hl 0 rfl) ?_
        refine lv_aload_n hx hb dX1_borrow_42 rfl (lv_at hl 1 rfl) ?_
        refine va_get (D := (dC, dI)) (ci := 1) (v := .ref h1) (C := RX1) (T := TX1) (N := 10) hx hb hts inX1 hown hK hP 0 rfl rfl 0 (by decide) (hts _ q_fl_X1_10) (fun _ h9 => h9) rfl dX1_borrow_43 ?_
        refine lv_iload_n hx hb dX1_borrow_46 rfl (lv_at hl 0 rfl) ?_
        refine call_Vp (As := [.int (nI i)]) (rest := [.int (nI i), .ref h1]) S (m_X0_at h1 h5 c1 g i (by omega)) g_X1_X0_at hd_X0_at ⟨Nat.le_of_ble_eq_true rfl, Nat.le_of_ble_eq_true rfl⟩ ⟨Nat.zero_le _, Nat.zero_le _⟩ hP hD hK hS hZ [1, 5] rfl (by decide) 0 rfl rfl hl.1 rfl (Nat.le_of_ble_eq_true rfl) dX1_borrow_47 (fun r H locs hq hP hS => ?_)
        obtain rfl := hq
        refine lv_iload_n hx hb dX1_borrow_50 rfl (lv_at hl 2 rfl) ?_
        refine lv_iload_n hx hb dX1_borrow_51 rfl (lv_at hl 3 rfl) ?_
        refine call_Sp (As := [.int (nI (g i)), .int (nI j), .int (nI k)]) (rest := [.int (nI i), .ref h1]) S (m_X1_exchanged (g i) j k (by rw [hg2 i (by omega)]; exact hb1 _ (by omega)) (by omega) (by omega)) g_X1_X1_exchanged hd_X1_exchanged ⟨Nat.le_of_ble_eq_true rfl, Nat.le_of_ble_eq_true rfl⟩ ⟨Nat.zero_le _, Nat.zero_le _⟩ hP hD hK hS hZ [] rfl (by decide) hl.1 rfl (Nat.le_of_ble_eq_true rfl) dX1_borrow_52 (fun r H locs hq hP hS => ?_)
        obtain rfl := hq
        refine call_Vv (As := [.int (nI i), .int (nI (xch (g i) j k))]) (wr := [(h0, .inr (1, [.ref h1, .ref h2, .ref h3, .ref h4, .int (nI n), .int (nI (xch wn j k)), .int (nI t), .int (nI tc), .int (nI sc), .int (bI true)])), (h2, .inr (0, [.ref h6, .int (nI c2)])), (h3, .inl (cI, 5, .inl (fun k => nI (s k)))), (h4, .inl (cI, 1024, .inl (fun k => nI (ow k)))), (h6, .inl (cI, 243, .inl (fun k => nI (tf k))))]) (rest := []) S (m_X0_put h1 h5 c1 g i (xch (g i) j k) (by omega)) g_X1_X0_put hd_X0_put ⟨Nat.le_of_ble_eq_true rfl, Nat.le_of_ble_eq_true rfl⟩ ⟨Nat.zero_le _, Nat.zero_le _⟩ hP hD hK hS hZ [1, 5] [0, 2, 3, 4, 6] rfl rfl (by decide) 0 rfl rfl hl.1 rfl (Nat.le_of_ble_eq_true rfl) dX1_borrow_55 (fun u H locs hq hP hD hS => ?_)
        obtain rfl := hq
        have hP := hP.sub (ws' := gW cI h0 h1 h2 h3 h4 h5 h6 h1 h2 n (xch wn j k) t tc sc true c1 c2 s ow (upN g i (xch (g i) j k)) tf) [0, 5, 1, 2, 3, 6, 4] rfl
        have hD := hD.sub (ws' := gW cI h0 h1 h2 h3 h4 h5 h6 h1 h2 n (xch wn j k) t tc sc true c1 c2 s ow (upN g i (xch (g i) j k)) tf) [0, 5, 1, 2, 3, 6, 4] (by decide) rfl
        refine lv_iinc (v := nI (i + 1)) (lv' := [(3, .int (nI (i + 1))), (0, .ref h0), (1, .int (nI j)), (2, .int (nI k))]) hx hb dX1_borrow_58 hl (k := 0) rfl (nI_add _ _) (by decide) rfl (fun ls hl => ?_)
        refine lv_goto (tgt := 26) hx hb dX1_borrow_61 (by decide) ?_
        exact ih26 (i + 1) _ (by omega) (by omega) (fun q hq => by rcases Nat.lt_or_ge q i with z | z; (· rw [upN_n _ _ (by omega)]; exact hg1 q z); (· rw [show q = i by omega, upN_s, hg2 i (by omega)])) (fun q hq => by rw [upN_n _ _ (by omega)]; exact hg2 q (by omega)) _ _ hP hD hS _ (lv_sub hl [0, 1, 2, 3] rfl)
  exact lp26 (c1 + 1) 0 hf (by omega) (by omega) (fun q hq => absurd hq (by omega)) (fun _ _ => rfl) _ _ hP hD hS _ (lv_sub hl [0, 1, 2, 3] rfl)

set_option maxHeartbeats 4000000 in
set_option maxRecDepth 100000 in
theorem m_X1_takeTurn (h0 h1 h2 h3 h4 h5 h6 n wn t tc sc : Nat) (uw : Bool) (c1 c2 : Nat) (s ow hf tf : Nat → Nat) (h0n : 0 < n) (ht : t < 5) (hn : n ≤ 5) (hw : wn < 1024) (hs : ∀ p, p < 5 → s p < 1024) (hc1 : c1 ≤ 243) (hb1 : ∀ j, j < c1 → hf j < 1024) : Mi l yX1_takeTurn ws_X1_takeTurn 5 117 (dC, dI) (tyL cI cZ cS cW) [.ref h0] (gW cI h0 h1 h2 h3 h4 h5 h6 h1 h2 n wn t tc sc uw c1 c2 s ow hf tf) (fun r u => r = (if cert wn (s t) t (Lof hf c1) = true then nI (qd wn t) else -1) ∧ ∃ (k : Nat) (og g : Nat → Nat), u = gW cI h0 h1 h2 h3 h4 h5 h6 h1 h2 n wn (aftN n t) (tc + 1) (if cert wn (s t) t (Lof hf c1) = true then sc else sc + 1) true k c2 s og g tf ∧ Lof g k = turnL wn (s t) t (Lof hf c1)) := by
  refine Mi_of (by decide +kernel) (Nat.le_of_ble_eq_true rfl) ?_
  intro pr ev sx mi ag bl me cd Q ls S hP hK hD hZ hl ret
  obtain ⟨hx, hb, hml, hown, hts⟩ := id S
  have hown : sx.vm.findClass RX1 = some mi.cls := hown
  have hS : va_S (wIn (gW cI h0 h1 h2 h3 h4 h5 h6 h1 h2 n wn t tc sc uw c1 c2 s ow hf tf)) sx.heap sx.heap [] := va_S.rf
  have hl : lv_has ls 3 [(0, .ref h0)] := hl
  refine lv_aload_n hx hb dX1_takeTurn_0 rfl (lv_at hl 0 rfl) ?_
  refine call_Vv (As := []) (wr := []) (rest := []) S (m_X1_requireSomePlayer h0 h1 h2 h3 h4 h5 h6 h1 h2 n wn t tc sc uw c1 c2 s ow hf tf  (by omega) hn) g_X1_X1_requireSomePlayer hd_X1_requireSomePlayer ⟨Nat.le_of_ble_eq_true rfl, Nat.le_of_ble_eq_true rfl⟩ ⟨Nat.zero_le _, Nat.zero_le _⟩ hP hD hK hS hZ [0, 1, 2, 3, 4, 5, 6] [] rfl rfl (by decide) 0 rfl rfl hl.1 rfl (Nat.le_of_ble_eq_true rfl) dX1_takeTurn_1 (fun u H locs hq hP hD hS => ?_)
  obtain rfl := hq
  have hP : va_P (dC, dI) vwCl (gW cI h0 h1 h2 h3 h4 h5 h6 h1 h2 n wn t tc sc uw c1 c2 s ow hf tf) H := hP
  have hD : va_D (wIn (gW cI h0 h1 h2 h3 h4 h5 h6 h1 h2 n wn t tc sc uw c1 c2 s ow hf tf)) (gW cI h0 h1 h2 h3 h4 h5 h6 h1 h2 n wn t tc sc uw c1 c2 s ow hf tf) := hD
  refine lv_aload_n hx hb dX1_takeTurn_4 rfl (lv_at hl 0 rfl) ?_
  refine va_get (D := (dC, dI)) (ci := 1) (v := .int (nI t)) (C := RX1) (T := TX1) (N := 10) hx hb hts inX1 hown hK hP 0 rfl rfl 6 (by decide) (hts _ q_fl_X1_33) (fun _ h9 => h9) rfl dX1_takeTurn_5 ?_
  refine lv_istore_n (lv' := [(1, .int (nI t)), (0, .ref h0)]) hx hb dX1_takeTurn_8 rfl hl (by decide) rfl (fun ls hl => ?_)
  refine lv_aload_n hx hb dX1_takeTurn_9 rfl (lv_at hl 1 rfl) ?_
  refine lv_aload_n hx hb dX1_takeTurn_10 rfl (lv_at hl 1 rfl) ?_
  refine va_get (D := (dC, dI)) (ci := 1) (v := .ref h1) (C := RX1) (T := TX1) (N := 10) hx hb hts inX1 hown hK hP 0 rfl rfl 0 (by decide) (hts _ q_fl_X1_10) (fun _ h9 => h9) rfl dX1_takeTurn_11 ?_
  refine lv_iload_n hx hb dX1_takeTurn_14 rfl (lv_at hl 0 rfl) ?_
  refine call_Vi (As := [.ref h1, .int (nI t)]) (wr := []) (rest := []) S (m_X1_passTurn h0 h1 h2 h3 h4 h5 h6 h1 h2 n wn t tc sc uw c1 c2 s ow hf tf t ht hw hc1 hb1) g_X1_X1_passTurn hd_X1_passTurn ⟨Nat.le_of_ble_eq_true rfl, Nat.le_of_ble_eq_true rfl⟩ ⟨Nat.zero_le _, Nat.zero_le _⟩ hP hD hK hS hZ [0, 1, 2, 3, 4, 5, 6] [] rfl rfl (by decide) 0 rfl rfl hl.1 rfl (Nat.le_of_ble_eq_true rfl) dX1_takeTurn_15 (fun r u H locs hq hP hD hS => ?_)
  obtain ⟨rfl, k6, og6, g6, rfl, hL6⟩ := hq
  have hP : va_P (dC, dI) vwCl (gW cI h0 h1 h2 h3 h4 h5 h6 h1 h2 n wn t tc sc uw k6 c2 s og6 g6 tf) H := hP
  have hD : va_D (wIn (gW cI h0 h1 h2 h3 h4 h5 h6 h1 h2 n wn t tc sc uw c1 c2 s ow hf tf)) (gW cI h0 h1 h2 h3 h4 h5 h6 h1 h2 n wn t tc sc uw k6 c2 s og6 g6 tf) := hD
  refine lv_istore_n (lv' := [(2, .int (bI (cert wn (s t) t (Lof hf c1)))), (1, .int (nI t)), (0, .ref h0)]) hx hb dX1_takeTurn_18 rfl hl (by decide) rfl (fun ls hl => ?_)
  refine lv_aload_n hx hb dX1_takeTurn_19 rfl (lv_at hl 2 rfl) ?_
  refine lv_iconst (v := nI 1) hx hb dX1_takeTurn_20 (by decide) ?_
  refine W_i (y := bI true) rfl ?_
  refine va_put (D := (dC, dI)) (ci := 1) (v := .int (bI true)) (ty := .boolean) (C := RX1) (T := TX1) (N := 10) hx hb hts inX1 tyX1 tyX1_ok nmX1 hown hK hP hD hS 0 rfl rfl 9 (by decide) (hts _ q_fl_X1_42) (fun _ h9 => h9) rfl (by decide +kernel) rfl rfl (Nat.le_of_ble_eq_true rfl) dX1_takeTurn_21 (fun H locs hP hD hS => ?_)
  have hP : va_P (dC, dI) vwCl (gW cI h0 h1 h2 h3 h4 h5 h6 h1 h2 n wn t tc sc true k6 c2 s og6 g6 tf) H := hP
  have hD : va_D (wIn (gW cI h0 h1 h2 h3 h4 h5 h6 h1 h2 n wn t tc sc uw c1 c2 s ow hf tf)) (gW cI h0 h1 h2 h3 h4 h5 h6 h1 h2 n wn t tc sc true k6 c2 s og6 g6 tf) := hD
  refine lv_aload_n hx hb dX1_takeTurn_24 rfl (lv_at hl 2 rfl) ?_
  refine lv_aload_n hx hb dX1_takeTurn_25 rfl (lv_at hl 2 rfl) ?_
  refine lv_iload_n hx hb dX1_takeTurn_26 rfl (lv_at hl 1 rfl) ?_
  refine call_Vp (As := [.int (nI t)]) (rest := [.ref h0]) S (m_X1_playerAfter h0 h1 h2 h3 h4 h5 h6 h1 h2 n wn t tc sc true k6 c2 s og6 g6 tf t hn ht) g_X1_X1_playerAfter hd_X1_playerAfter ⟨Nat.le_of_ble_eq_true rfl, Nat.le_of_ble_eq_true rfl⟩ ⟨Nat.zero_le _, Nat.zero_le _⟩ hP hD hK hS hZ [0, 1, 2, 3, 4, 5, 6] rfl (by decide) 0 rfl rfl hl.1 rfl (Nat.le_of_ble_eq_true rfl) dX1_takeTurn_27 (fun r H locs hq hP hS => ?_)
  obtain rfl := hq
  refine va_put (D := (dC, dI)) (ci := 1) (v := .int (nI (aftN n t))) (ty := .int) (C := RX1) (T := TX1) (N := 10) hx hb hts inX1 tyX1 tyX1_ok nmX1 hown hK hP hD hS 0 rfl rfl 6 (by decide) (hts _ q_fl_X1_33) (fun _ h9 => h9) rfl (by decide +kernel) rfl rfl (Nat.le_of_ble_eq_true rfl) dX1_takeTurn_30 (fun H locs hP hD hS => ?_)
  have hP : va_P (dC, dI) vwCl (gW cI h0 h1 h2 h3 h4 h5 h6 h1 h2 n wn (aftN n t) tc sc true k6 c2 s og6 g6 tf) H := hP
  have hD : va_D (wIn (gW cI h0 h1 h2 h3 h4 h5 h6 h1 h2 n wn t tc sc uw c1 c2 s ow hf tf)) (gW cI h0 h1 h2 h3 h4 h5 h6 h1 h2 n wn (aftN n t) tc sc true k6 c2 s og6 g6 tf) := hD
  refine lv_aload_n hx hb dX1_takeTurn_33 rfl (lv_at hl 2 rfl) ?_
  refine lv_dup hx hb dX1_takeTurn_34 rfl ?_
  refine va_get (D := (dC, dI)) (ci := 1) (v := .int (nI tc)) (C := RX1) (T := TX1) (N := 10) hx hb hts inX1 hown hK hP 0 rfl rfl 7 (by decide) (hts _ q_fl_X1_36) (fun _ h9 => h9) rfl dX1_takeTurn_35 ?_
  refine lv_iconst (v := nI 1) hx hb dX1_takeTurn_38 (by decide) ?_
  refine lv_iadd hx hb dX1_takeTurn_39 ?_
  refine W_i (y := nI (tc + 1)) (nI_add _ _) ?_
  refine va_put (D := (dC, dI)) (ci := 1) (v := .int (nI (tc + 1))) (ty := .int) (C := RX1) (T := TX1) (N := 10) hx hb hts inX1 tyX1 tyX1_ok nmX1 hown hK hP hD hS 0 rfl rfl 7 (by decide) (hts _ q_fl_X1_36) (fun _ h9 => h9) rfl (by decide +kernel) rfl rfl (Nat.le_of_ble_eq_true rfl) dX1_takeTurn_40 (fun H locs hP hD hS => ?_)
  have hP : va_P (dC, dI) vwCl (gW cI h0 h1 h2 h3 h4 h5 h6 h1 h2 n wn (aftN n t) (tc + 1) sc true k6 c2 s og6 g6 tf) H := hP
  have hD : va_D (wIn (gW cI h0 h1 h2 h3 h4 h5 h6 h1 h2 n wn t tc sc uw c1 c2 s ow hf tf)) (gW cI h0 h1 h2 h3 h4 h5 h6 h1 h2 n wn (aftN n t) (tc + 1) sc true k6 c2 s og6 g6 tf) := hD
  refine lv_iload_n hx hb dX1_takeTurn_43 rfl (lv_at hl 0 rfl) ?_
  refine ifB_eq (tgt := 56) hx hb dX1_takeTurn_44 (by decide) (fun c_44 => ?_) (fun c_44 => ?_)
  · refine lv_aload_n hx hb dX1_takeTurn_56 rfl (lv_at hl 2 rfl) ?_
    refine lv_dup hx hb dX1_takeTurn_57 rfl ?_
    refine va_get (D := (dC, dI)) (ci := 1) (v := .int (nI sc)) (C := RX1) (T := TX1) (N := 10) hx hb hts inX1 hown hK hP 0 rfl rfl 8 (by decide) (hts _ q_fl_X1_39) (fun _ h9 => h9) rfl dX1_takeTurn_58 ?_
    refine lv_iconst (v := nI 1) hx hb dX1_takeTurn_61 (by decide) ?_
    refine lv_iadd hx hb dX1_takeTurn_62 ?_
    refine W_i (y := nI (sc + 1)) (nI_add _ _) ?_
    refine va_put (D := (dC, dI)) (ci := 1) (v := .int (nI (sc + 1))) (ty := .int) (C := RX1) (T := TX1) (N := 10) hx hb hts inX1 tyX1 tyX1_ok nmX1 hown hK hP hD hS 0 rfl rfl 8 (by decide) (hts _ q_fl_X1_39) (fun _ h9 => h9) rfl (by decide +kernel) rfl rfl (Nat.le_of_ble_eq_true rfl) dX1_takeTurn_63 (fun H locs hP hD hS => ?_)
    have hP : va_P (dC, dI) vwCl (gW cI h0 h1 h2 h3 h4 h5 h6 h1 h2 n wn (aftN n t) (tc + 1) (sc + 1) true k6 c2 s og6 g6 tf) H := hP
    have hD : va_D (wIn (gW cI h0 h1 h2 h3 h4 h5 h6 h1 h2 n wn t tc sc uw c1 c2 s ow hf tf)) (gW cI h0 h1 h2 h3 h4 h5 h6 h1 h2 n wn (aftN n t) (tc + 1) (sc + 1) true k6 c2 s og6 g6 tf) := hD
    refine lv_iconst (v := (-1)) hx hb dX1_takeTurn_66 (by decide) ?_
    exact ret _ (gW cI h0 h1 h2 h3 h4 h5 h6 h1 h2 n wn (aftN n t) (tc + 1) (sc + 1) true k6 c2 s og6 g6 tf) _ _ _ _ dX1_takeTurn_67 rfl ⟨by rw [if_neg (by rw [c_44]; decide)], k6, og6, g6, by rw [if_neg (by rw [c_44]; decide)], hL6⟩ (List.Perm.refl _) hP hS
  · refine lv_aload_n hx hb dX1_takeTurn_47 rfl (lv_at hl 2 rfl) ?_
    refine va_get (D := (dC, dI)) (ci := 1) (v := .int (nI wn)) (C := RX1) (T := TX1) (N := 10) hx hb hts inX1 hown hK hP 0 rfl rfl 5 (by decide) (hts _ q_fl_X1_30) (fun _ h9 => h9) rfl dX1_takeTurn_48 ?_
    refine lv_iload_n hx hb dX1_takeTurn_51 rfl (lv_at hl 1 rfl) ?_
    refine call_Sp (As := [.int (nI wn), .int (nI t)]) (rest := []) S (m_X1_colourIn wn t hw ht) g_X1_X1_colourIn hd_X1_colourIn ⟨Nat.le_of_ble_eq_true rfl, Nat.le_of_ble_eq_true rfl⟩ ⟨Nat.zero_le _, Nat.zero_le _⟩ hP hD hK hS hZ [] rfl (by decide) hl.1 rfl (Nat.le_of_ble_eq_true rfl) dX1_takeTurn_52 (fun r H locs hq hP hS => ?_)
    obtain rfl := hq
    exact ret _ (gW cI h0 h1 h2 h3 h4 h5 h6 h1 h2 n wn (aftN n t) (tc + 1) sc true k6 c2 s og6 g6 tf) _ _ _ _ dX1_takeTurn_55 rfl ⟨by rw [if_pos c_44], k6, og6, g6, by rw [if_pos c_44], hL6⟩ (List.Perm.refl _) hP hS

set_option maxHeartbeats 4000000 in
set_option maxRecDepth 100000 in
theorem m_X1_sayBetween (h0 h1 h2 h3 h4 h5 h6 n wn t tc sc : Nat) (uw : Bool) (c1 c2 : Nat) (s ow hf tf : Nat → Nat) (co lo hi2 : Nat) (hco : co < 3) (hlo : lo < 6) (hhi : hi2 < 6) (hl1 : lo ≤ hatsN n wn co) (hl2 : hatsN n wn co ≤ hi2) (hn : n ≤ 5) (hw : wn < 1024) (hs : ∀ p, p < 5 → s p < 1024) (hc1 : c1 ≤ 243) (hb1 : ∀ j, j < c1 → hf j < 1024) : Mi l yX1_sayBetween ws_X1_sayBetween 3 73 (dC, dI) (tyL cI cZ cS cW) [.ref h0, .int (nI co), .int (nI lo), .int (nI hi2)] (gW cI h0 h1 h2 h3 h4 h5 h6 h1 h2 n wn t tc sc uw c1 c2 s ow hf tf) (fun r u => ∃ (k : Nat) (g : Nat → Nat), r = nI k ∧ u = gW cI h0 h1 h2 h3 h4 h5 h6 h1 h2 n wn t tc sc true k c2 s ow g tf ∧ Lof g k = (Lof hf c1).filter (fun x => decide (lo ≤ hatsN n x co) && decide (hatsN n x co ≤ hi2))) := by
  refine Mi_of (by decide +kernel) (Nat.le_of_ble_eq_true rfl) ?_
  intro pr ev sx mi ag bl me cd Q ls S hP hK hD hZ hl ret
  obtain ⟨hx, hb, hml, hown, hts⟩ := id S
  have hown : sx.vm.findClass RX1 = some mi.cls := hown
  have hS : va_S (wIn (gW cI h0 h1 h2 h3 h4 h5 h6 h1 h2 n wn t tc sc uw c1 c2 s ow hf tf)) sx.heap sx.heap [] := va_S.rf
  have hl : lv_has ls 5 [(0, .ref h0), (1, .int (nI co)), (2, .int (nI lo)), (3, .int (nI hi2))] := hl
  refine lv_aload_n hx hb dX1_sayBetween_0 rfl (lv_at hl 0 rfl) ?_
  refine lv_aload_n hx hb dX1_sayBetween_1 rfl (lv_at hl 0 rfl) ?_
  refine va_get (D := (dC, dI)) (ci := 1) (v := .int (nI wn)) (C := RX1) (T := TX1) (N := 10) hx hb hts inX1 hown hK hP 0 rfl rfl 5 (by decide) (hts _ q_fl_X1_30) (fun _ h9 => h9) rfl dX1_sayBetween_2 ?_
  refine lv_iload_n hx hb dX1_sayBetween_5 rfl (lv_at hl 1 rfl) ?_
  refine call_Vp (As := [.int (nI wn), .int (nI co)]) (rest := []) S (m_X1_hatsIn h0 h1 h2 h3 h4 h5 h6 h1 h2 n wn t tc sc uw c1 c2 s ow hf tf wn co hn hw (by omega)) g_X1_X1_hatsIn hd_X1_hatsIn ⟨Nat.le_of_ble_eq_true rfl, Nat.le_of_ble_eq_true rfl⟩ ⟨Nat.zero_le _, Nat.zero_le _⟩ hP hD hK hS hZ [0, 1, 2, 3, 4, 5, 6] rfl (by decide) 0 rfl rfl hl.1 rfl (Nat.le_of_ble_eq_true rfl) dX1_sayBetween_6 (fun r H locs hq hP hS => ?_)
  obtain rfl := hq
  refine lv_istore (lv' := [(4, .int (nI (hatsN n wn co))), (0, .ref h0), (1, .int (nI co)), (2, .int (nI lo)), (3, .int (nI hi2))]) hx hb dX1_sayBetween_9 hl (by decide) rfl (fun ls hl => ?_)
  refine lv_iload hx hb dX1_sayBetween_11 (lv_at hl 0 rfl) ?_
  refine lv_iload_n hx hb dX1_sayBetween_13 rfl (lv_at hl 3 rfl) ?_
  refine icN_lt (tgt := 23) hx hb dX1_sayBetween_14 (by decide) (by have := hatsN_le n wn co; omega) (by omega) (fun c_14 => absurd c_14 (by omega)) (fun c_14 => ?_)
  refine lv_iload hx hb dX1_sayBetween_17 (lv_at hl 0 rfl) ?_
  refine lv_iload_n hx hb dX1_sayBetween_19 rfl (lv_at hl 4 rfl) ?_
  refine icN_le (tgt := 33) hx hb dX1_sayBetween_20 (by decide) (by have := hatsN_le n wn co; omega) (by omega) (fun c_20 => ?_) (fun c_20 => absurd c_20 (by omega))
  refine lv_aload_n hx hb dX1_sayBetween_33 rfl (lv_at hl 1 rfl) ?_
  refine lv_aload_n hx hb dX1_sayBetween_34 rfl (lv_at hl 1 rfl) ?_
  refine va_get (D := (dC, dI)) (ci := 1) (v := .ref h1) (C := RX1) (T := TX1) (N := 10) hx hb hts inX1 hown hK hP 0 rfl rfl 0 (by decide) (hts _ q_fl_X1_10) (fun _ h9 => h9) rfl dX1_sayBetween_35 ?_
  refine lv_iload_n hx hb dX1_sayBetween_38 rfl (lv_at hl 2 rfl) ?_
  refine lv_iload_n hx hb dX1_sayBetween_39 rfl (lv_at hl 3 rfl) ?_
  refine lv_iload_n hx hb dX1_sayBetween_40 rfl (lv_at hl 4 rfl) ?_
  refine call_Vv (As := [.ref h1, .int (nI co), .int (nI lo), .int (nI hi2)]) (wr := []) (rest := []) S (m_X1_keepWithHats h0 h1 h2 h3 h4 h5 h6 h1 h2 n wn t tc sc uw c1 c2 s ow hf tf co lo hi2 hn (by omega) (by omega) (by omega) hc1 hb1) g_X1_X1_keepWithHats hd_X1_keepWithHats ⟨Nat.le_of_ble_eq_true rfl, Nat.le_of_ble_eq_true rfl⟩ ⟨Nat.zero_le _, Nat.zero_le _⟩ hP hD hK hS hZ [0, 1, 2, 3, 4, 5, 6] [] rfl rfl (by decide) 0 rfl rfl hl.1 rfl (Nat.le_of_ble_eq_true rfl) dX1_sayBetween_41 (fun u H locs hq hP hD hS => ?_)
  obtain ⟨k9, g9, rfl, hL9⟩ := hq
  have hP : va_P (dC, dI) vwCl (gW cI h0 h1 h2 h3 h4 h5 h6 h1 h2 n wn t tc sc uw k9 c2 s ow g9 tf) H := hP
  have hD : va_D (wIn (gW cI h0 h1 h2 h3 h4 h5 h6 h1 h2 n wn t tc sc uw c1 c2 s ow hf tf)) (gW cI h0 h1 h2 h3 h4 h5 h6 h1 h2 n wn t tc sc uw k9 c2 s ow g9 tf) := hD
  refine lv_aload_n hx hb dX1_sayBetween_44 rfl (lv_at hl 1 rfl) ?_
  refine lv_iconst (v := nI 1) hx hb dX1_sayBetween_45 (by decide) ?_
  refine W_i (y := bI true) rfl ?_
  refine va_put (D := (dC, dI)) (ci := 1) (v := .int (bI true)) (ty := .boolean) (C := RX1) (T := TX1) (N := 10) hx hb hts inX1 tyX1 tyX1_ok nmX1 hown hK hP hD hS 0 rfl rfl 9 (by decide) (hts _ q_fl_X1_42) (fun _ h9 => h9) rfl (by decide +kernel) rfl rfl (Nat.le_of_ble_eq_true rfl) dX1_sayBetween_46 (fun H locs hP hD hS => ?_)
  have hP : va_P (dC, dI) vwCl (gW cI h0 h1 h2 h3 h4 h5 h6 h1 h2 n wn t tc sc true k9 c2 s ow g9 tf) H := hP
  have hD : va_D (wIn (gW cI h0 h1 h2 h3 h4 h5 h6 h1 h2 n wn t tc sc uw c1 c2 s ow hf tf)) (gW cI h0 h1 h2 h3 h4 h5 h6 h1 h2 n wn t tc sc true k9 c2 s ow g9 tf) := hD
  refine lv_aload_n hx hb dX1_sayBetween_49 rfl (lv_at hl 1 rfl) ?_
  refine va_get (D := (dC, dI)) (ci := 1) (v := .ref h1) (C := RX1) (T := TX1) (N := 10) hx hb hts inX1 hown hK hP 0 rfl rfl 0 (by decide) (hts _ q_fl_X1_10) (fun _ h9 => h9) rfl dX1_sayBetween_50 ?_
  refine call_Vp (As := []) (rest := []) S (m_X0_count h1 h5 k9 g9) g_X1_X0_count hd_X0_count ⟨Nat.le_of_ble_eq_true rfl, Nat.le_of_ble_eq_true rfl⟩ ⟨Nat.zero_le _, Nat.zero_le _⟩ hP hD hK hS hZ [1, 5] rfl (by decide) 0 rfl rfl hl.1 rfl (Nat.le_of_ble_eq_true rfl) dX1_sayBetween_53 (fun r H locs hq hP hS => ?_)
  obtain rfl := hq
  exact ret _ (gW cI h0 h1 h2 h3 h4 h5 h6 h1 h2 n wn t tc sc true k9 c2 s ow g9 tf) _ _ _ _ dX1_sayBetween_56 rfl ⟨k9, g9, rfl, rfl, hL9⟩ (List.Perm.refl _) hP hS

set_option maxHeartbeats 4000000 in
set_option maxRecDepth 100000 in
theorem m_X1_sayAtLeast (h0 h1 h2 h3 h4 h5 h6 n wn t tc sc : Nat) (uw : Bool) (c1 c2 : Nat) (s ow hf tf : Nat → Nat) (co many : Nat) (hco : co < 3) (hm : many < 6) (hl1 : many ≤ hatsN n wn co) (hn : n ≤ 5) (hw : wn < 1024) (hs : ∀ p, p < 5 → s p < 1024) (hc1 : c1 ≤ 243) (hb1 : ∀ j, j < c1 → hf j < 1024) : Mi l yX1_sayAtLeast ws_X1_sayAtLeast 4 97 (dC, dI) (tyL cI cZ cS cW) [.ref h0, .int (nI co), .int (nI many)] (gW cI h0 h1 h2 h3 h4 h5 h6 h1 h2 n wn t tc sc uw c1 c2 s ow hf tf) (fun r u => ∃ (k : Nat) (g : Nat → Nat), r = nI k ∧ u = gW cI h0 h1 h2 h3 h4 h5 h6 h1 h2 n wn t tc sc true k c2 s ow g tf ∧ Lof g k = (Lof hf c1).filter (fun x => decide (many ≤ hatsN n x co) && decide (hatsN n x co ≤ 5))) := by
  refine Mi_of (by decide +kernel) (Nat.le_of_ble_eq_true rfl) ?_
  intro pr ev sx mi ag bl me cd Q ls S hP hK hD hZ hl ret
  obtain ⟨hx, hb, hml, hown, hts⟩ := id S
  have hown : sx.vm.findClass RX1 = some mi.cls := hown
  have hS : va_S (wIn (gW cI h0 h1 h2 h3 h4 h5 h6 h1 h2 n wn t tc sc uw c1 c2 s ow hf tf)) sx.heap sx.heap [] := va_S.rf
  have hl : lv_has ls 3 [(0, .ref h0), (1, .int (nI co)), (2, .int (nI many))] := hl
  refine lv_iload_n hx hb dX1_sayAtLeast_0 rfl (lv_at hl 1 rfl) ?_
  refine call_Sv (As := [.int (nI co)]) (wr := [(h0, .inr (1, [.ref h1, .ref h2, .ref h3, .ref h4, .int (nI n), .int (nI wn), .int (nI t), .int (nI tc), .int (nI sc), .int (bI uw)])), (h1, .inr (0, [.ref h5, .int (nI c1)])), (h2, .inr (0, [.ref h6, .int (nI c2)])), (h3, .inl (cI, 5, .inl (fun k => nI (s k)))), (h4, .inl (cI, 1024, .inl (fun k => nI (ow k)))), (h5, .inl (cI, 243, .inl (fun k => nI (hf k)))), (h6, .inl (cI, 243, .inl (fun k => nI (tf k))))]) (rest := []) S (m_X1_requireColour co (by omega)) g_X1_X1_requireColour hd_X1_requireColour ⟨Nat.le_of_ble_eq_true rfl, Nat.le_of_ble_eq_true rfl⟩ ⟨Nat.zero_le _, Nat.zero_le _⟩ hP hD hK hS hZ [] [0, 1, 2, 3, 4, 5, 6] rfl rfl (by decide) hl.1 rfl (Nat.le_of_ble_eq_true rfl) dX1_sayAtLeast_1 (fun u H locs hq hP hD hS => ?_)
  obtain rfl := hq
  have hP : va_P (dC, dI) vwCl (gW cI h0 h1 h2 h3 h4 h5 h6 h1 h2 n wn t tc sc uw c1 c2 s ow hf tf) H := hP
  have hD : va_D (wIn (gW cI h0 h1 h2 h3 h4 h5 h6 h1 h2 n wn t tc sc uw c1 c2 s ow hf tf)) (gW cI h0 h1 h2 h3 h4 h5 h6 h1 h2 n wn t tc sc uw c1 c2 s ow hf tf) := hD
  refine lv_iload_n hx hb dX1_sayAtLeast_4 rfl (lv_at hl 2 rfl) ?_
  refine call_Sv (As := [.int (nI many)]) (wr := [(h0, .inr (1, [.ref h1, .ref h2, .ref h3, .ref h4, .int (nI n), .int (nI wn), .int (nI t), .int (nI tc), .int (nI sc), .int (bI uw)])), (h1, .inr (0, [.ref h5, .int (nI c1)])), (h2, .inr (0, [.ref h6, .int (nI c2)])), (h3, .inl (cI, 5, .inl (fun k => nI (s k)))), (h4, .inl (cI, 1024, .inl (fun k => nI (ow k)))), (h5, .inl (cI, 243, .inl (fun k => nI (hf k)))), (h6, .inl (cI, 243, .inl (fun k => nI (tf k))))]) (rest := []) S (m_X1_requireMany many (by omega)) g_X1_X1_requireMany hd_X1_requireMany ⟨Nat.le_of_ble_eq_true rfl, Nat.le_of_ble_eq_true rfl⟩ ⟨Nat.zero_le _, Nat.zero_le _⟩ hP hD hK hS hZ [] [0, 1, 2, 3, 4, 5, 6] rfl rfl (by decide) hl.1 rfl (Nat.le_of_ble_eq_true rfl) dX1_sayAtLeast_5 (fun u H locs hq hP hD hS => ?_)
  obtain rfl := hq
  have hP : va_P (dC, dI) vwCl (gW cI h0 h1 h2 h3 h4 h5 h6 h1 h2 n wn t tc sc uw c1 c2 s ow hf tf) H := hP
  have hD : va_D (wIn (gW cI h0 h1 h2 h3 h4 h5 h6 h1 h2 n wn t tc sc uw c1 c2 s ow hf tf)) (gW cI h0 h1 h2 h3 h4 h5 h6 h1 h2 n wn t tc sc uw c1 c2 s ow hf tf) := hD
  refine lv_aload_n hx hb dX1_sayAtLeast_8 rfl (lv_at hl 0 rfl) ?_
  refine lv_iload_n hx hb dX1_sayAtLeast_9 rfl (lv_at hl 1 rfl) ?_
  refine lv_iload_n hx hb dX1_sayAtLeast_10 rfl (lv_at hl 2 rfl) ?_
  refine lv_iconst (v := nI 5) hx hb dX1_sayAtLeast_11 (by decide) ?_
  refine call_Vi (As := [.int (nI co), .int (nI many), .int (nI 5)]) (wr := []) (rest := []) S (m_X1_sayBetween h0 h1 h2 h3 h4 h5 h6 n wn t tc sc uw c1 c2 s ow hf tf co many 5 (by omega) (by omega) (by omega) (by omega) (by have := hatsN_le n wn co; omega) hn hw hs hc1 hb1) g_X1_X1_sayBetween hd_X1_sayBetween ⟨Nat.le_of_ble_eq_true rfl, Nat.le_of_ble_eq_true rfl⟩ ⟨Nat.zero_le _, Nat.zero_le _⟩ hP hD hK hS hZ [0, 1, 2, 3, 4, 5, 6] [] rfl rfl (by decide) 0 rfl rfl hl.1 rfl (Nat.le_of_ble_eq_true rfl) dX1_sayAtLeast_12 (fun r u H locs hq hP hD hS => ?_)
  obtain ⟨k2, g2, rfl, rfl, hL2⟩ := hq
  have hP : va_P (dC, dI) vwCl (gW cI h0 h1 h2 h3 h4 h5 h6 h1 h2 n wn t tc sc true k2 c2 s ow g2 tf) H := hP
  have hD : va_D (wIn (gW cI h0 h1 h2 h3 h4 h5 h6 h1 h2 n wn t tc sc uw c1 c2 s ow hf tf)) (gW cI h0 h1 h2 h3 h4 h5 h6 h1 h2 n wn t tc sc true k2 c2 s ow g2 tf) := hD
  exact ret _ (gW cI h0 h1 h2 h3 h4 h5 h6 h1 h2 n wn t tc sc true k2 c2 s ow g2 tf) _ _ _ _ dX1_sayAtLeast_15 rfl ⟨k2, g2, rfl, rfl, hL2⟩ (List.Perm.refl _) hP hS

set_option maxHeartbeats 4000000 in
set_option maxRecDepth 100000 in
theorem m_X1_sayAtMost (h0 h1 h2 h3 h4 h5 h6 n wn t tc sc : Nat) (uw : Bool) (c1 c2 : Nat) (s ow hf tf : Nat → Nat) (co many : Nat) (hco : co < 3) (hm : many < 6) (hl2 : hatsN n wn co ≤ many) (hn : n ≤ 5) (hw : wn < 1024) (hs : ∀ p, p < 5 → s p < 1024) (hc1 : c1 ≤ 243) (hb1 : ∀ j, j < c1 → hf j < 1024) : Mi l yX1_sayAtMost ws_X1_sayAtMost 4 97 (dC, dI) (tyL cI cZ cS cW) [.ref h0, .int (nI co), .int (nI many)] (gW cI h0 h1 h2 h3 h4 h5 h6 h1 h2 n wn t tc sc uw c1 c2 s ow hf tf) (fun r u => ∃ (k : Nat) (g : Nat → Nat), r = nI k ∧ u = gW cI h0 h1 h2 h3 h4 h5 h6 h1 h2 n wn t tc sc true k c2 s ow g tf ∧ Lof g k = (Lof hf c1).filter (fun x => decide (0 ≤ hatsN n x co) && decide (hatsN n x co ≤ many))) := by
  refine Mi_of (by decide +kernel) (Nat.le_of_ble_eq_true rfl) ?_
  intro pr ev sx mi ag bl me cd Q ls S hP hK hD hZ hl ret
  obtain ⟨hx, hb, hml, hown, hts⟩ := id S
  have hown : sx.vm.findClass RX1 = some mi.cls := hown
  have hS : va_S (wIn (gW cI h0 h1 h2 h3 h4 h5 h6 h1 h2 n wn t tc sc uw c1 c2 s ow hf tf)) sx.heap sx.heap [] := va_S.rf
  have hl : lv_has ls 3 [(0, .ref h0), (1, .int (nI co)), (2, .int (nI many))] := hl
  refine lv_iload_n hx hb dX1_sayAtMost_0 rfl (lv_at hl 1 rfl) ?_
  refine call_Sv (As := [.int (nI co)]) (wr := [(h0, .inr (1, [.ref h1, .ref h2, .ref h3, .ref h4, .int (nI n), .int (nI wn), .int (nI t), .int (nI tc), .int (nI sc), .int (bI uw)])), (h1, .inr (0, [.ref h5, .int (nI c1)])), (h2, .inr (0, [.ref h6, .int (nI c2)])), (h3, .inl (cI, 5, .inl (fun k => nI (s k)))), (h4, .inl (cI, 1024, .inl (fun k => nI (ow k)))), (h5, .inl (cI, 243, .inl (fun k => nI (hf k)))), (h6, .inl (cI, 243, .inl (fun k => nI (tf k))))]) (rest := []) S (m_X1_requireColour co (by omega)) g_X1_X1_requireColour hd_X1_requireColour ⟨Nat.le_of_ble_eq_true rfl, Nat.le_of_ble_eq_true rfl⟩ ⟨Nat.zero_le _, Nat.zero_le _⟩ hP hD hK hS hZ [] [0, 1, 2, 3, 4, 5, 6] rfl rfl (by decide) hl.1 rfl (Nat.le_of_ble_eq_true rfl) dX1_sayAtMost_1 (fun u H locs hq hP hD hS => ?_)
  obtain rfl := hq
  have hP : va_P (dC, dI) vwCl (gW cI h0 h1 h2 h3 h4 h5 h6 h1 h2 n wn t tc sc uw c1 c2 s ow hf tf) H := hP
  have hD : va_D (wIn (gW cI h0 h1 h2 h3 h4 h5 h6 h1 h2 n wn t tc sc uw c1 c2 s ow hf tf)) (gW cI h0 h1 h2 h3 h4 h5 h6 h1 h2 n wn t tc sc uw c1 c2 s ow hf tf) := hD
  refine lv_iload_n hx hb dX1_sayAtMost_4 rfl (lv_at hl 2 rfl) ?_
  refine call_Sv (As := [.int (nI many)]) (wr := [(h0, .inr (1, [.ref h1, .ref h2, .ref h3, .ref h4, .int (nI n), .int (nI wn), .int (nI t), .int (nI tc), .int (nI sc), .int (bI uw)])), (h1, .inr (0, [.ref h5, .int (nI c1)])), (h2, .inr (0, [.ref h6, .int (nI c2)])), (h3, .inl (cI, 5, .inl (fun k => nI (s k)))), (h4, .inl (cI, 1024, .inl (fun k => nI (ow k)))), (h5, .inl (cI, 243, .inl (fun k => nI (hf k)))), (h6, .inl (cI, 243, .inl (fun k => nI (tf k))))]) (rest := []) S (m_X1_requireMany many (by omega)) g_X1_X1_requireMany hd_X1_requireMany ⟨Nat.le_of_ble_eq_true rfl, Nat.le_of_ble_eq_true rfl⟩ ⟨Nat.zero_le _, Nat.zero_le _⟩ hP hD hK hS hZ [] [0, 1, 2, 3, 4, 5, 6] rfl rfl (by decide) hl.1 rfl (Nat.le_of_ble_eq_true rfl) dX1_sayAtMost_5 (fun u H locs hq hP hD hS => ?_)
  obtain rfl := hq
  have hP : va_P (dC, dI) vwCl (gW cI h0 h1 h2 h3 h4 h5 h6 h1 h2 n wn t tc sc uw c1 c2 s ow hf tf) H := hP
  have hD : va_D (wIn (gW cI h0 h1 h2 h3 h4 h5 h6 h1 h2 n wn t tc sc uw c1 c2 s ow hf tf)) (gW cI h0 h1 h2 h3 h4 h5 h6 h1 h2 n wn t tc sc uw c1 c2 s ow hf tf) := hD
  refine lv_aload_n hx hb dX1_sayAtMost_8 rfl (lv_at hl 0 rfl) ?_
  refine lv_iload_n hx hb dX1_sayAtMost_9 rfl (lv_at hl 1 rfl) ?_
  refine lv_iconst (v := nI 0) hx hb dX1_sayAtMost_10 (by decide) ?_
  refine lv_iload_n hx hb dX1_sayAtMost_11 rfl (lv_at hl 2 rfl) ?_
  refine call_Vi (As := [.int (nI co), .int (nI 0), .int (nI many)]) (wr := []) (rest := []) S (m_X1_sayBetween h0 h1 h2 h3 h4 h5 h6 n wn t tc sc uw c1 c2 s ow hf tf co 0 many (by omega) (by omega) (by omega) (by omega) (by omega) hn hw hs hc1 hb1) g_X1_X1_sayBetween hd_X1_sayBetween ⟨Nat.le_of_ble_eq_true rfl, Nat.le_of_ble_eq_true rfl⟩ ⟨Nat.zero_le _, Nat.zero_le _⟩ hP hD hK hS hZ [0, 1, 2, 3, 4, 5, 6] [] rfl rfl (by decide) 0 rfl rfl hl.1 rfl (Nat.le_of_ble_eq_true rfl) dX1_sayAtMost_12 (fun r u H locs hq hP hD hS => ?_)
  obtain ⟨k2, g2, rfl, rfl, hL2⟩ := hq
  have hP : va_P (dC, dI) vwCl (gW cI h0 h1 h2 h3 h4 h5 h6 h1 h2 n wn t tc sc true k2 c2 s ow g2 tf) H := hP
  have hD : va_D (wIn (gW cI h0 h1 h2 h3 h4 h5 h6 h1 h2 n wn t tc sc uw c1 c2 s ow hf tf)) (gW cI h0 h1 h2 h3 h4 h5 h6 h1 h2 n wn t tc sc true k2 c2 s ow g2 tf) := hD
  exact ret _ (gW cI h0 h1 h2 h3 h4 h5 h6 h1 h2 n wn t tc sc true k2 c2 s ow g2 tf) _ _ _ _ dX1_sayAtMost_15 rfl ⟨k2, g2, rfl, rfl, hL2⟩ (List.Perm.refl _) hP hS

set_option maxHeartbeats 4000000 in
set_option maxRecDepth 100000 in
theorem m_X1_begin (h0 h1 h2 h3 h4 h5 h6 n wn t tc sc : Nat) (uw : Bool) (c1 c2 : Nat) (s ow hf tf : Nat → Nat)  (hn : n ≤ 5) (hw : wn < 1024) (hs : ∀ p, p < 5 → s p < 1024) (hc1 : c1 ≤ 243) (hb1 : ∀ j, j < c1 → hf j < 1024) : Mi l yX1_begin ws_X1_begin 2 45 (dC, dI) (tyL cI cZ cS cW) [.ref h0] (gW cI h0 h1 h2 h3 h4 h5 h6 h1 h2 n wn t tc sc uw c1 c2 s ow hf tf) (fun r u => r = nI (3 ^ n) ∧ ∃ g : Nat → Nat, u = gW cI h0 h1 h2 h3 h4 h5 h6 h1 h2 n wn 0 0 0 false (3 ^ n) c2 s ow g tf ∧ Lof g (3 ^ n) = canL n) := by
  refine Mi_of (by decide +kernel) (Nat.le_of_ble_eq_true rfl) ?_
  intro pr ev sx mi ag bl me cd Q ls S hP hK hD hZ hl ret
  obtain ⟨hx, hb, hml, hown, hts⟩ := id S
  have hown : sx.vm.findClass RX1 = some mi.cls := hown
  have hS : va_S (wIn (gW cI h0 h1 h2 h3 h4 h5 h6 h1 h2 n wn t tc sc uw c1 c2 s ow hf tf)) sx.heap sx.heap [] := va_S.rf
  have hl : lv_has ls 2 [(0, .ref h0)] := hl
  refine lv_aload_n hx hb dX1_begin_0 rfl (lv_at hl 0 rfl) ?_
  refine va_get (D := (dC, dI)) (ci := 1) (v := .ref h1) (C := RX1) (T := TX1) (N := 10) hx hb hts inX1 hown hK hP 0 rfl rfl 0 (by decide) (hts _ q_fl_X1_10) (fun _ h9 => h9) rfl dX1_begin_1 ?_
  refine call_Vv (As := []) (wr := [(h0, .inr (1, [.ref h1, .ref h2, .ref h3, .ref h4, .int (nI n), .int (nI wn), .int (nI t), .int (nI tc), .int (nI sc), .int (bI uw)])), (h2, .inr (0, [.ref h6, .int (nI c2)])), (h3, .inl (cI, 5, .inl (fun k => nI (s k)))), (h4, .inl (cI, 1024, .inl (fun k => nI (ow k)))), (h6, .inl (cI, 243, .inl (fun k => nI (tf k))))]) (rest := []) S (m_X0_clear h1 h5 c1 hf) g_X1_X0_clear hd_X0_clear ⟨Nat.le_of_ble_eq_true rfl, Nat.le_of_ble_eq_true rfl⟩ ⟨Nat.zero_le _, Nat.zero_le _⟩ hP hD hK hS hZ [1, 5] [0, 2, 3, 4, 6] rfl rfl (by decide) 0 rfl rfl hl.1 rfl (Nat.le_of_ble_eq_true rfl) dX1_begin_4 (fun u H locs hq hP hD hS => ?_)
  obtain rfl := hq
  have hP := hP.sub (ws' := gW cI h0 h1 h2 h3 h4 h5 h6 h1 h2 n wn t tc sc uw 0 c2 s ow hf tf) [0, 5, 1, 2, 3, 6, 4] rfl
  have hD := hD.sub (ws' := gW cI h0 h1 h2 h3 h4 h5 h6 h1 h2 n wn t tc sc uw 0 c2 s ow hf tf) [0, 5, 1, 2, 3, 6, 4] (by decide) rfl
  refine lv_aload_n hx hb dX1_begin_7 rfl (lv_at hl 0 rfl) ?_
  refine va_get (D := (dC, dI)) (ci := 1) (v := .ref h1) (C := RX1) (T := TX1) (N := 10) hx hb hts inX1 hown hK hP 0 rfl rfl 0 (by decide) (hts _ q_fl_X1_10) (fun _ h9 => h9) rfl dX1_begin_8 ?_
  refine lv_iconst (v := nI 0) hx hb dX1_begin_11 (by decide) ?_
  refine call_Vv (As := [.int (nI 0)]) (wr := [(h0, .inr (1, [.ref h1, .ref h2, .ref h3, .ref h4, .int (nI n), .int (nI wn), .int (nI t), .int (nI tc), .int (nI sc), .int (bI uw)])), (h2, .inr (0, [.ref h6, .int (nI c2)])), (h3, .inl (cI, 5, .inl (fun k => nI (s k)))), (h4, .inl (cI, 1024, .inl (fun k => nI (ow k)))), (h6, .inl (cI, 243, .inl (fun k => nI (tf k))))]) (rest := []) S (m_X0_add h1 h5 0 hf 0 (by omega)) g_X1_X0_add hd_X0_add ⟨Nat.le_of_ble_eq_true rfl, Nat.le_of_ble_eq_true rfl⟩ ⟨Nat.zero_le _, Nat.zero_le _⟩ hP hD hK hS hZ [1, 5] [0, 2, 3, 4, 6] rfl rfl (by decide) 0 rfl rfl hl.1 rfl (Nat.le_of_ble_eq_true rfl) dX1_begin_12 (fun u H locs hq hP hD hS => ?_)
  obtain rfl := hq
  have hP := hP.sub (ws' := gW cI h0 h1 h2 h3 h4 h5 h6 h1 h2 n wn t tc sc uw (0 + 1) c2 s ow (upN hf 0 0) tf) [0, 5, 1, 2, 3, 6, 4] rfl
  have hD := hD.sub (ws' := gW cI h0 h1 h2 h3 h4 h5 h6 h1 h2 n wn t tc sc uw (0 + 1) c2 s ow (upN hf 0 0) tf) [0, 5, 1, 2, 3, 6, 4] (by decide) rfl
  refine lv_iconst (v := nI 0) hx hb dX1_begin_15 (by decide) ?_
  refine lv_istore_n (lv' := [(1, .int (nI 0)), (0, .ref h0)]) hx hb dX1_begin_16 rfl hl (by decide) rfl (fun ls hl => ?_)
  have lp17 : ∀ (kf : Nat) (i : Nat) (k : Nat) (g : Nat → Nat), n < i + kf → (i ≤ n) → (k = 3 ^ i) → (Lof g k = canL i) → ∀ (H : Heap) (locs : List Loc), va_P (dC, dI) vwCl (gW cI h0 h1 h2 h3 h4 h5 h6 h1 h2 n wn t tc sc uw k c2 s ow g tf) H → va_D (wIn (gW cI h0 h1 h2 h3 h4 h5 h6 h1 h2 n wn t tc sc uw c1 c2 s ow hf tf)) (gW cI h0 h1 h2 h3 h4 h5 h6 h1 h2 n wn t tc sc uw k c2 s ow g tf) → va_S (wIn (gW cI h0 h1 h2 h3 h4 h5 h6 h1 h2 n wn t tc sc uw c1 c2 s ow hf tf)) sx.heap H locs → ∀ ls : Array Slot, lv_has ls 2 [(1, .int (nI i)), (0, .ref h0)] → W pr l ev (rmB 2 45) sx mi ag bl me cd H locs 0 0 Q (F0 mi 17 ls []) := by
    intro kf
    induction kf with
    | zero => intro i k g hkf hi hk hL; exact absurd hkf (by omega)
    | succ kf ih17 =>
      intro i k g hkf hi hk hL H locs hP hD hS ls hl
      refine lv_iload_n hx hb dX1_begin_17 rfl (lv_at hl 0 rfl) ?_
      refine lv_aload_n hx hb dX1_begin_18 rfl (lv_at hl 1 rfl) ?_
      refine va_get (D := (dC, dI)) (ci := 1) (v := .int (nI n)) (C := RX1) (T := TX1) (N := 10) hx hb hts inX1 hown hK hP 0 rfl rfl 4 (by decide) (hts _ q_fl_X1_26) (fun _ h9 => h9) rfl dX1_begin_19 ?_
      refine icN_ge (tgt := 36) hx hb dX1_begin_22 (by decide) (by omega) (by omega) (fun c_22 => ?_) (fun c_22 => ?_)
      · refine lv_aload_n hx hb dX1_begin_36 rfl (lv_at hl 1 rfl) ?_
        refine lv_iconst (v := nI 0) hx hb dX1_begin_37 (by decide) ?_
        refine va_put (D := (dC, dI)) (ci := 1) (v := .int (nI 0)) (ty := .int) (C := RX1) (T := TX1) (N := 10) hx hb hts inX1 tyX1 tyX1_ok nmX1 hown hK hP hD hS 0 rfl rfl 6 (by decide) (hts _ q_fl_X1_33) (fun _ h9 => h9) rfl (by decide +kernel) rfl rfl (Nat.le_of_ble_eq_true rfl) dX1_begin_38 (fun H locs hP hD hS => ?_)
        have hP : va_P (dC, dI) vwCl (gW cI h0 h1 h2 h3 h4 h5 h6 h1 h2 n wn 0 tc sc uw k c2 s ow g tf) H := hP
        have hD : va_D (wIn (gW cI h0 h1 h2 h3 h4 h5 h6 h1 h2 n wn t tc sc uw c1 c2 s ow hf tf)) (gW cI h0 h1 h2 h3 h4 h5 h6 h1 h2 n wn 0 tc sc uw k c2 s ow g tf) := hD
        refine lv_aload_n hx hb dX1_begin_41 rfl (lv_at hl 1 rfl) ?_
        refine lv_iconst (v := nI 0) hx hb dX1_begin_42 (by decide) ?_
        refine va_put (D := (dC, dI)) (ci := 1) (v := .int (nI 0)) (ty := .int) (C := RX1) (T := TX1) (N := 10) hx hb hts inX1 tyX1 tyX1_ok nmX1 hown hK hP hD hS 0 rfl rfl 7 (by decide) (hts _ q_fl_X1_36) (fun _ h9 => h9) rfl (by decide +kernel) rfl rfl (Nat.le_of_ble_eq_true rfl) dX1_begin_43 (fun H locs hP hD hS => ?_)
        have hP : va_P (dC, dI) vwCl (gW cI h0 h1 h2 h3 h4 h5 h6 h1 h2 n wn 0 0 sc uw k c2 s ow g tf) H := hP
        have hD : va_D (wIn (gW cI h0 h1 h2 h3 h4 h5 h6 h1 h2 n wn t tc sc uw c1 c2 s ow hf tf)) (gW cI h0 h1 h2 h3 h4 h5 h6 h1 h2 n wn 0 0 sc uw k c2 s ow g tf) := hD
        refine lv_aload_n hx hb dX1_begin_46 rfl (lv_at hl 1 rfl) ?_
        refine lv_iconst (v := nI 0) hx hb dX1_begin_47 (by decide) ?_
        refine va_put (D := (dC, dI)) (ci := 1) (v := .int (nI 0)) (ty := .int) (C := RX1) (T := TX1) (N := 10) hx hb hts inX1 tyX1 tyX1_ok nmX1 hown hK hP hD hS 0 rfl rfl 8 (by decide) (hts _ q_fl_X1_39) (fun _ h9 => h9) rfl (by decide +kernel) rfl rfl (Nat.le_of_ble_eq_true rfl) dX1_begin_48 (fun H locs hP hD hS => ?_)
        have hP : va_P (dC, dI) vwCl (gW cI h0 h1 h2 h3 h4 h5 h6 h1 h2 n wn 0 0 0 uw k c2 s ow g tf) H := hP
        have hD : va_D (wIn (gW cI h0 h1 h2 h3 h4 h5 h6 h1 h2 n wn t tc sc uw c1 c2 s ow hf tf)) (gW cI h0 h1 h2 h3 h4 h5 h6 h1 h2 n wn 0 0 0 uw k c2 s ow g tf) := hD
        refine lv_aload_n hx hb dX1_begin_51 rfl (lv_at hl 1 rfl) ?_
        refine lv_iconst (v := nI 0) hx hb dX1_begin_52 (by decide) ?_
        refine W_i (y := bI false) rfl ?_
        refine va_put (D := (dC, dI)) (ci := 1) (v := .int (bI false)) (ty := .boolean) (C := RX1) (T := TX1) (N := 10) hx hb hts inX1 tyX1 tyX1_ok nmX1 hown hK hP hD hS 0 rfl rfl 9 (by decide) (hts _ q_fl_X1_42) (fun _ h9 => h9) rfl (by decide +kernel) rfl rfl (Nat.le_of_ble_eq_true rfl) dX1_begin_53 (fun H locs hP hD hS => ?_)
        have hP : va_P (dC, dI) vwCl (gW cI h0 h1 h2 h3 h4 h5 h6 h1 h2 n wn 0 0 0 false k c2 s ow g tf) H := hP
        have hD : va_D (wIn (gW cI h0 h1 h2 h3 h4 h5 h6 h1 h2 n wn t tc sc uw c1 c2 s ow hf tf)) (gW cI h0 h1 h2 h3 h4 h5 h6 h1 h2 n wn 0 0 0 false k c2 s ow g tf) := hD
        refine lv_aload_n hx hb dX1_begin_56 rfl (lv_at hl 1 rfl) ?_
        refine va_get (D := (dC, dI)) (ci := 1) (v := .ref h1) (C := RX1) (T := TX1) (N := 10) hx hb hts inX1 hown hK hP 0 rfl rfl 0 (by decide) (hts _ q_fl_X1_10) (fun _ h9 => h9) rfl dX1_begin_57 ?_
        refine call_Vp (As := []) (rest := []) S (m_X0_count h1 h5 k g) g_X1_X0_count hd_X0_count ⟨Nat.le_of_ble_eq_true rfl, Nat.le_of_ble_eq_true rfl⟩ ⟨Nat.zero_le _, Nat.zero_le _⟩ hP hD hK hS hZ [1, 5] rfl (by decide) 0 rfl rfl hl.1 rfl (Nat.le_of_ble_eq_true rfl) dX1_begin_60 (fun r H locs hq hP hS => ?_)
        obtain rfl := hq
        exact ret _ (gW cI h0 h1 h2 h3 h4 h5 h6 h1 h2 n wn 0 0 0 false k c2 s ow g tf) _ _ _ _ dX1_begin_63 rfl ⟨by rw [hk, show i = n by omega], g, by rw [hk, show i = n by omega], by rw [← show i = n by omega, ← hk]; exact hL⟩ (List.Perm.refl _) hP hS
      · refine lv_aload_n hx hb dX1_begin_25 rfl (lv_at hl 1 rfl) ?_
        refine lv_iload_n hx hb dX1_begin_26 rfl (lv_at hl 0 rfl) ?_
        refine call_Vv (As := [.int (nI i)]) (wr := []) (rest := []) S (m_X1_openColoursOf h0 h1 h2 h3 h4 h5 h6 h2 n wn t tc sc uw k c2 s ow g tf i (by omega) (by rw [hk]; exact p3_81 i (by omega))) g_X1_X1_openColoursOf hd_X1_openColoursOf ⟨Nat.le_of_ble_eq_true rfl, Nat.le_of_ble_eq_true rfl⟩ ⟨Nat.zero_le _, Nat.zero_le _⟩ hP hD hK hS hZ [0, 1, 2, 3, 4, 5, 6] [] rfl rfl (by decide) 0 rfl rfl hl.1 rfl (Nat.le_of_ble_eq_true rfl) dX1_begin_27 (fun u H locs hq hP hD hS => ?_)
        obtain ⟨g4, rfl, hL4⟩ := hq
        have hP : va_P (dC, dI) vwCl (gW cI h0 h1 h2 h3 h4 h5 h6 h1 h2 n wn t tc sc uw (3 * k) c2 s ow g4 tf) H := hP
        have hD : va_D (wIn (gW cI h0 h1 h2 h3 h4 h5 h6 h1 h2 n wn t tc sc uw c1 c2 s ow hf tf)) (gW cI h0 h1 h2 h3 h4 h5 h6 h1 h2 n wn t tc sc uw (3 * k) c2 s ow g4 tf) := hD
        refine lv_iinc (v := nI (i + 1)) (lv' := [(1, .int (nI (i + 1))), (0, .ref h0)]) hx hb dX1_begin_30 hl (k := 0) rfl (nI_add _ _) (by decide) rfl (fun ls hl => ?_)
        refine lv_goto (tgt := 17) hx hb dX1_begin_33 (by decide) ?_
        exact ih17 (i + 1) _ _ (by omega) (by omega) (by rw [hk, Nat.pow_succ]; omega) (by rw [hL4, hL]; rfl) _ _ hP hD hS _ (lv_sub hl [0, 1] rfl)
  exact lp17 (n + 1) 0 _ _ (by omega) (by omega) rfl (by rfl) _ _ hP hD hS _ (lv_sub hl [0, 1] rfl)





end
