/-! the two pictures of one game: a way is a row of colours in the law's model, and pairs of bits in the game -/
def dgt (n : Nat) (f : Nat → Nat) (k : Nat) : Nat := if k < n then f k else 0
def EW (n : Nat) (f : Nat → Nat) : Nat := dgt n f 0 + dgt n f 1 * 4 + dgt n f 2 * 16 + dgt n f 3 * 64 + dgt n f 4 * 256
def E (w : Nat) : Nat := dg3 w 0 + dg3 w 1 * 2 ^ 2 + dg3 w 2 * 2 ^ 4 + dg3 w 3 * 2 ^ 6 + dg3 w 4 * 2 ^ 8
def bt (b k : Nat) : Bool := (b / 2 ^ k &&& 1) == 1
def msk (b : Nat) : Nat := (b / 2 ^ 0 &&& 1) * 3 + (b / 2 ^ 1 &&& 1) * 12 + (b / 2 ^ 2 &&& 1) * 48 + (b / 2 ^ 3 &&& 1) * 192 + (b / 2 ^ 4 &&& 1) * 768
def b2n (n : Nat) (q : Nat → Bool) (k : Nat) : Nat := if k < n then (if q k = true then 1 else 0) else 0
def sbN (n : Nat) (q : Nat → Bool) : Nat := b2n n q 0 + b2n n q 1 * 2 + b2n n q 2 * 4 + b2n n q 3 * 8 + b2n n q 4 * 16
theorem and3 (x : Nat) : x &&& 3 = x % 4 := Nat.and_two_pow_sub_one_eq_mod x 2
theorem d5_tab (a : Nat) (ha : a < 4) (b : Nat) (hb : b < 4) (c : Nat) (hc : c < 4) (d : Nat) (hd : d < 4) (e : Nat) (he : e < 4) : a + b * 4 + c * 16 + d * 64 + e * 256 < 1024 ∧ qd (a + b * 4 + c * 16 + d * 64 + e * 256) 0 = a ∧ qd (a + b * 4 + c * 16 + d * 64 + e * 256) 1 = b ∧ qd (a + b * 4 + c * 16 + d * 64 + e * 256) 2 = c ∧ qd (a + b * 4 + c * 16 + d * 64 + e * 256) 3 = d ∧ qd (a + b * 4 + c * 16 + d * 64 + e * 256) 4 = e := by
  refine ⟨by omega, ?_, ?_, ?_, ?_, ?_⟩
  · show (a + b * 4 + c * 16 + d * 64 + e * 256) / 1 &&& 3 = a
    rw [and3]; omega
  · show (a + b * 4 + c * 16 + d * 64 + e * 256) / 4 &&& 3 = b
    rw [and3]; omega
  · show (a + b * 4 + c * 16 + d * 64 + e * 256) / 16 &&& 3 = c
    rw [and3]; omega
  · show (a + b * 4 + c * 16 + d * 64 + e * 256) / 64 &&& 3 = d
    rw [and3]; omega
  · show (a + b * 4 + c * 16 + d * 64 + e * 256) / 256 &&& 3 = e
    rw [and3]; omega
theorem b5_tab (a : Nat) (ha : a < 2) (b : Nat) (hb : b < 2) (c : Nat) (hc : c < 2) (d : Nat) (hd : d < 2) (e : Nat) (he : e < 2) : a + b * 2 + c * 4 + d * 8 + e * 16 < 32 ∧ bt (a + b * 2 + c * 4 + d * 8 + e * 16) 0 = (a == 1) ∧ bt (a + b * 2 + c * 4 + d * 8 + e * 16) 1 = (b == 1) ∧ bt (a + b * 2 + c * 4 + d * 8 + e * 16) 2 = (c == 1) ∧ bt (a + b * 2 + c * 4 + d * 8 + e * 16) 3 = (d == 1) ∧ bt (a + b * 2 + c * 4 + d * 8 + e * 16) 4 = (e == 1) := by
  rcases (show a = 0 ∨ a = 1 by omega) with rfl | rfl <;> rcases (show b = 0 ∨ b = 1 by omega) with rfl | rfl <;> rcases (show c = 0 ∨ c = 1 by omega) with rfl | rfl <;> rcases (show d = 0 ∨ d = 1 by omega) with rfl | rfl <;> rcases (show e = 0 ∨ e = 1 by omega) with rfl | rfl <;> decide
theorem dgt_lt {n : Nat} {f : Nat → Nat} (h : ∀ k, k < n → f k < 4) (k : Nat) : dgt n f k < 4 := by
  unfold dgt; split
  · exact h k (by assumption)
  · omega
theorem b2n_lt (n : Nat) (q : Nat → Bool) (k : Nat) : b2n n q k < 2 := by
  unfold b2n; split
  · split <;> omega
  · omega
theorem lt5 {k : Nat} (h : k < 5) : k = 0 ∨ k = 1 ∨ k = 2 ∨ k = 3 ∨ k = 4 := by omega
theorem EW_all {n : Nat} {f : Nat → Nat} (h : ∀ k, k < n → f k < 4) : EW n f < 1024 ∧ ∀ k, k < 5 → qd (EW n f) k = dgt n f k := by
  have t := d5_tab _ (dgt_lt h 0) _ (dgt_lt h 1) _ (dgt_lt h 2) _ (dgt_lt h 3) _ (dgt_lt h 4)
  refine ⟨t.1, fun k hk => ?_⟩
  rcases lt5 hk with rfl | rfl | rfl | rfl | rfl
  · exact t.2.1
  · exact t.2.2.1
  · exact t.2.2.2.1
  · exact t.2.2.2.2.1
  · exact t.2.2.2.2.2
theorem EW_lt {n : Nat} {f : Nat → Nat} (h : ∀ k, k < n → f k < 4) : EW n f < 1024 := (EW_all h).1
theorem EW_qd {n : Nat} {f : Nat → Nat} (h : ∀ k, k < n → f k < 4) (hn : n ≤ 5) {k : Nat} (hk : k < n) : qd (EW n f) k = f k := by
  rw [(EW_all h).2 k (by omega), dgt, if_pos hk]
theorem EW_hi {n : Nat} {f : Nat → Nat} (h : ∀ k, k < n → f k < 4) {k : Nat} (hk : n ≤ k) (h5 : k < 5) : qd (EW n f) k = 0 := by
  rw [(EW_all h).2 k h5, dgt, if_neg (by omega)]
theorem EW_cg {n : Nat} {f g : Nat → Nat} (h : ∀ k, k < n → f k = g k) : EW n f = EW n g := by
  have : ∀ k, dgt n f k = dgt n g k := by
    intro k; unfold dgt; split
    · exact h k (by assumption)
    · rfl
  simp only [EW, this]
theorem sb_all (n : Nat) (q : Nat → Bool) : sbN n q < 32 ∧ ∀ k, k < 5 → bt (sbN n q) k = (decide (k < n) && q k) := by
  have t := b5_tab _ (b2n_lt n q 0) _ (b2n_lt n q 1) _ (b2n_lt n q 2) _ (b2n_lt n q 3) _ (b2n_lt n q 4)
  have e : ∀ k, (b2n n q k == 1) = (decide (k < n) && q k) := by
    intro k; unfold b2n
    by_cases h : k < n
    · cases hq : q k <;> simp [h]
    · simp [h]
  refine ⟨t.1, fun k hk => ?_⟩
  rw [← e k]
  rcases lt5 hk with rfl | rfl | rfl | rfl | rfl
  · exact t.2.1
  · exact t.2.2.1
  · exact t.2.2.2.1
  · exact t.2.2.2.2.1
  · exact t.2.2.2.2.2
theorem bt_x : ∀ a, a < 32 → ∀ b, b < 32 → ((List.range 5).all (fun k => bt a k == bt b k)) = (a == b) := by decide +kernel
theorem bt_ext {a b : Nat} (ha : a < 32) (hb : b < 32) (h : ∀ k, k < 5 → bt a k = bt b k) : a = b := by
  have := bt_x a ha b hb
  rw [List.all_eq_true.mpr (fun k hk => by rw [h k (List.mem_range.mp hk)]; simp)] at this
  exact beq_iff_eq.mp this.symm
theorem qd_rec : ∀ z, z < 1024 → z = qd z 0 + qd z 1 * 4 + qd z 2 * 16 + qd z 3 * 64 + qd z 4 * 256 := by decide +kernel
theorem qd_ext {x y : Nat} (hx : x < 1024) (hy : y < 1024) (h : ∀ k, k < 5 → qd x k = qd y k) : x = y := by
  rw [qd_rec x hx, qd_rec y hy, h 0 (by omega), h 1 (by omega), h 2 (by omega), h 3 (by omega), h 4 (by omega)]
theorem msk_tab : ∀ b, b < 32 → msk b < 1024 ∧ (∀ n, n < 5 → msk (b ||| 1 * 2 ^ n) = msk b ||| 3 * 2 ^ (n * 2) ∧ msk (b ^^^ 1 * 2 ^ n) = msk b ^^^ 3 * 2 ^ (n * 2) ∧ (!((msk b &&& 3 * 2 ^ (n * 2)) == 0)) = bt b n ∧ (b ||| 1 * 2 ^ n) < 32 ∧ (b ^^^ 1 * 2 ^ n) < 32) := by decide +kernel
theorem msk_full : ∀ n, n < 6 → msk (1 * 2 ^ n - 1) = mskN n := by decide +kernel
theorem msk_z : ∀ z, z < 1024 → ∀ b, b < 32 → ((z &&& msk b) == 0) = (List.range 5).all (fun k => !bt b k || qd z k == 0) := by decide +kernel
theorem bt_tab : ∀ b, b < 32 → ∀ n, n < 5 → ∀ p, p < 5 → bt (b ||| 1 * 2 ^ n) p = (bt b p || p == n) ∧ bt (b ^^^ 1 * 2 ^ n) p = (bt b p ^^ (p == n)) := by decide +kernel
theorem bt_full : ∀ n, n < 5 → 1 * 2 ^ n - 1 < 32 ∧ ∀ p, p < 5 → bt (1 * 2 ^ n - 1) p = decide (p < n) := by decide +kernel
theorem qd_xor (x y k : Nat) : qd (x ^^^ y) k = qd x k ^^^ qd y k := by
  unfold qd
  rw [← Nat.shiftRight_eq_div_pow, ← Nat.shiftRight_eq_div_pow, ← Nat.shiftRight_eq_div_pow, Nat.shiftRight_xor_distrib, Nat.and_xor_distrib_right]
theorem x4 : ∀ a, a < 4 → ∀ b, b < 4 → ((a ^^^ b) == 0) = (a == b) := by decide
theorem xor_z {a b : Nat} : (a ^^^ b) = 0 ↔ a = b := by
  constructor
  · intro h
    have : (a ^^^ b) ^^^ b = 0 ^^^ b := by rw [h]
    rwa [Nat.xor_assoc, Nat.xor_self, Nat.xor_zero, Nat.zero_xor] at this
  · intro h; rw [h, Nat.xor_self]
theorem vw_agr {x y m : Nat} (hx : x < 1024) (hy : y < 1024) : (vw x m == vw y m) = agr y x m := by
  have hz : ∀ z, z < 1024 → (z &&& m) &&& 1023 = z &&& m := by
    intro z hz
    have : z &&& m < 2 ^ 10 := Nat.lt_of_le_of_lt Nat.and_le_left hz
    rw [show 1023 = 2 ^ 10 - 1 from rfl, Nat.and_two_pow_sub_one_eq_mod, Nat.mod_eq_of_lt this]
  unfold vw agr
  rw [hz x hx, hz y hy, Bool.eq_iff_iff, beq_iff_eq, beq_iff_eq, Nat.and_xor_distrib_right, xor_z]
/-- two ways look alike to a player -/
theorem agr_ag {n : Nat} {q : Nat → Bool} {f g : Nat → Nat} (hn : n ≤ 5) (hf : ∀ k, k < n → f k < 4) (hg : ∀ k, k < n → g k < 4) : agr (EW n f) (EW n g) (msk (sbN n q)) = agS q f g n := by
  unfold agr
  rw [msk_z _ (Nat.xor_lt_two_pow (n := 10) (EW_lt hg) (EW_lt hf)) _ (sb_all n q).1, Bool.eq_iff_iff, List.all_eq_true, agS_iff]
  constructor
  · intro h k hk hq
    have := h k (List.mem_range.mpr (by omega))
    rw [(sb_all n q).2 k (by omega), qd_xor, x4 _ (qd_lt _ _) _ (qd_lt _ _), EW_qd hg hn hk, EW_qd hf hn hk] at this
    simp [hk, hq] at this
    exact this.symm
  · intro h k hk
    have hk := List.mem_range.mp hk
    rw [(sb_all n q).2 k hk, qd_xor, x4 _ (qd_lt _ _) _ (qd_lt _ _)]
    by_cases hkn : k < n
    · rw [EW_qd hg hn hkn, EW_qd hf hn hkn]
      cases hq : q k with
      | false => simp
      | true => simp [h k hkn hq]
    · simp [hkn]
theorem see_bit {n : Nat} {q : Nat → Bool} {k : Nat} (hk : k < n) (hn : n ≤ 5) : (!((msk (sbN n q) &&& 3 * 2 ^ (k * 2)) == 0)) = q k := by
  rw [((msk_tab _ (sb_all n q).1).2 k (by omega)).2.2.1, (sb_all n q).2 k (by omega)]
  simp [hk]
/-! the list of the game and the marks of the model -/
def Rep (N : Nat) (o : Nat → Bool) (e : Nat → Nat) (L : List Nat) : Prop := L.Perm (((List.range N).filter o).map e)
section
variable {N : Nat} {o : Nat → Bool} {e : Nat → Nat} {L : List Nat}
theorem Rep.mem (h : Rep N o e L) {x : Nat} : x ∈ L ↔ ∃ w, w < N ∧ o w = true ∧ e w = x := by
  rw [h.mem_iff, List.mem_map]
  constructor
  · rintro ⟨w, hw, he⟩
    have := List.mem_filter.mp hw
    exact ⟨w, List.mem_range.mp this.1, this.2, he⟩
  · rintro ⟨w, hw, ho, he⟩
    exact ⟨w, List.mem_filter.mpr ⟨List.mem_range.mpr hw, ho⟩, he⟩
theorem Rep.congr {o' : Nat → Bool} {e' : Nat → Nat} (h : Rep N o e L) (ho : ∀ w, w < N → o' w = o w) (he : ∀ w, w < N → e' w = e w) : Rep N o' e' L := by
  unfold Rep at *
  rw [List.filter_congr (p := o') (q := o) (fun w hw => ho w (List.mem_range.mp hw)), List.map_congr_left (f := e') (g := e) (fun w hw => he w (List.mem_range.mp (List.mem_filter.mp hw).1))]
  exact h
theorem Rep.filter {o' : Nat → Bool} (f : Nat → Bool) (h : Rep N o e L) (he : ∀ w, w < N → o' w = (o w && f (e w))) : Rep N o' e (L.filter f) := by
  unfold Rep at *
  have h2 := List.Perm.filter f h
  rw [List.filter_map, List.filter_filter] at h2
  rwa [List.filter_congr (p := o') (q := fun a => ((f ∘ e) a && o a)) (fun w hw => by rw [he w (List.mem_range.mp hw), Bool.and_comm]; rfl)]
theorem cnt_range (P : Nat → Bool) (N : Nat) : (List.range N).countP P = cntP P N := by
  induction N with
  | zero => rfl
  | succ N ih => rw [List.range_succ, List.countP_append, ih]; show _ = _ + _; simp [List.countP_cons]
theorem cntP_cg {P Q : Nat → Bool} {N : Nat} (h : ∀ w, w < N → P w = Q w) : cntP P N = cntP Q N := by
  induction N with
  | zero => rfl
  | succ N ih => unfold cntP; rw [ih (fun w hw => h w (by omega)), h N (by omega)]
theorem Rep.cnt {P : Nat → Bool} (f : Nat → Bool) (h : Rep N o e L) (he : ∀ w, w < N → P w = (o w && f (e w))) : L.countP f = cntP P N := by
  rw [List.Perm.countP_eq f h, List.countP_map, List.countP_filter, cnt_range]
  exact cntP_cg (fun w hw => by rw [he w hw, Bool.and_comm]; rfl)
theorem Rep.len (h : Rep N o e L) : L.length = cntP o N := by
  rw [← h.cnt (P := o) (fun _ => true) (fun w _ => by simp)]; simp
theorem rep_all (h : ∀ w, w < N → o w = true) (hL : L.Perm ((List.range N).map e)) : Rep N o e L := by
  unfold Rep; rw [List.filter_eq_self.mpr (fun x hx => h x (List.mem_range.mp hx))]; exact hL
theorem all_rep (h : ∀ w, w < N → o w = true) (hL : Rep N o e L) : L.Perm ((List.range N).map e) := by
  unfold Rep at hL; rwa [List.filter_eq_self.mpr (fun x hx => h x (List.mem_range.mp hx))] at hL
end
/-! one colour alone -/
theorem fold_bit (P : Nat → Bool) (q c : Nat) : ∀ (L : List Nat) (a : Nat), (L.foldl (fun a x => if P x then a ||| (1 * 2 ^ qd x q) else a) a).testBit c = (a.testBit c || L.any (fun x => P x && qd x q == c))
  | [], a => by simp
  | x :: t, a => by
    rw [List.foldl_cons, fold_bit P q c t, List.any_cons]
    cases hP : P x with
    | false => simp
    | true =>
      have e : (a ||| 1 * 2 ^ qd x q).testBit c = (a.testBit c || qd x q == c) := by
        rw [Nat.testBit_or, Nat.one_mul, Nat.testBit_two_pow]
        congr 1
      rw [if_pos rfl, e, Bool.or_assoc, Bool.true_and]
theorem one1_bit : ∀ b, b < 16 → one1 b = (List.range 4).any (fun c => b.testBit c && (List.range 4).all (fun d => !b.testBit d || d == c)) := by decide +kernel
def Sure (L : List Nat) (P : Nat → Bool) (q : Nat) : Prop := ∃ x, x ∈ L ∧ P x = true ∧ ∀ y, y ∈ L → P y = true → qd y q = qd x q
theorem one1_iff {P : Nat → Bool} {q : Nat} {L : List Nat} (hb : L.foldl (fun a x => if P x then a ||| (1 * 2 ^ qd x q) else a) 0 < 16) : one1 (L.foldl (fun a x => if P x then a ||| (1 * 2 ^ qd x q) else a) 0) = true ↔ Sure L P q := by
  rw [one1_bit _ hb, List.any_eq_true]
  constructor
  · rintro ⟨c, hc, h⟩
    rw [Bool.and_eq_true, List.all_eq_true, fold_bit] at h
    obtain ⟨h1, h2⟩ := h
    simp only [Nat.zero_testBit, Bool.false_or, List.any_eq_true, Bool.and_eq_true, beq_iff_eq] at h1
    obtain ⟨x, hx, hP, he⟩ := h1
    refine ⟨x, hx, hP, fun y hy hPy => ?_⟩
    have h3 := h2 (qd y q) (List.mem_range.mpr (qd_lt _ _))
    rw [fold_bit] at h3
    have h4 : L.any (fun x => P x && qd x q == qd y q) = true := List.any_eq_true.mpr ⟨y, hy, by simp [hPy]⟩
    rw [h4] at h3
    simp at h3
    rw [he]; exact h3
  · rintro ⟨x, hx, hP, h⟩
    refine ⟨qd x q, List.mem_range.mpr (qd_lt _ _), ?_⟩
    rw [Bool.and_eq_true, List.all_eq_true, fold_bit]
    refine ⟨by rw [List.any_eq_true.mpr ⟨x, hx, by simp [hP]⟩]; simp, fun d hd => ?_⟩
    rw [fold_bit]
    cases ha : L.any (fun x => P x && qd x q == d) with
    | false => simp
    | true =>
      obtain ⟨y, hy, hy2⟩ := List.any_eq_true.mp ha
      simp only [Bool.and_eq_true, beq_iff_eq] at hy2
      rw [← hy2.2, h y hy hy2.1]; simp
theorem knw_iff {wn m q : Nat} {L : List Nat} : knwN wn m q L = true ↔ Sure L (fun x => agr wn x m) q := one1_iff (pcol_lt wn m q L)
theorem cert_iff {wn m p : Nat} {L : List Nat} : cert wn m p L = true ↔ Sure L (fun x => agr wn x m) p := one1_iff (pcol_lt wn m p L)
theorem Sure.cg {L : List Nat} {P Q : Nat → Bool} {q : Nat} (h : ∀ x, x ∈ L → P x = Q x) (hs : Sure L P q) : Sure L Q q := by
  obtain ⟨x, hx, hP, ha⟩ := hs
  exact ⟨x, hx, by rw [← h x hx]; exact hP, fun y hy hQ => ha y hy (by rw [h y hy]; exact hQ)⟩
theorem wbc_iff {m p x : Nat} {L : List Nat} (hx : x < 1024) (hL : ∀ y, y ∈ L → y < 1024) : wbc m p L x = true ↔ Sure L (fun y => agr x y m) p := by
  have h1 : wbc m p L x = true ↔ Sure L (fun y => vw y m == vw x m) p := one1_iff (ocol_lt m p (vw x m) L)
  rw [h1]
  have e : ∀ y, y ∈ L → (vw y m == vw x m) = agr x y m := fun y hy => vw_agr (hL y hy) hx
  exact ⟨Sure.cg e, Sure.cg (fun y hy => (e y hy).symm)⟩
theorem bool_eq {a b : Bool} (h : a = true ↔ b = true) : a = b := by rw [Bool.eq_iff_iff]; exact h
/-! the game's state -/
def Gx (n wn : Nat) (s ht : Nat → Nat) (sn : Nat → Nat → Bool) : Prop := n ≤ 5 ∧ (∀ p, p < n → ht p < 3) ∧ wn = EW n ht ∧ ∀ p, p < 5 → s p < 1024 ∧ (p < n → s p = msk (sbN n (sn p)) ∧ sn p p = false)
def Rl (n m wn t tc sc : Nat) (uw : Bool) (c1 : Nat) (s hf : Nat → Nat) (tn sl : Nat) (bg : Bool) (ht : Nat → Nat) (sn : Nat → Nat → Bool) (wy : Nat → Nat → Nat) (o : Nat → Bool) : Prop :=
  Gx n wn s ht sn ∧ m = 3 ^ n ∧ (∀ w, w < m → ∀ k, k < n → wy w k < 3) ∧ Rep m o (fun w => EW n (wy w)) (Lof hf c1) ∧ wn ∈ Lof hf c1 ∧ t < 5 ∧ (0 < n → t = tn % n) ∧ uw = bg ∧ tc = tn ∧ sc = sl ∧ sl ≤ tn ∧ (bg = false → (∀ w, w < m → ∀ k, k < n → wy w k = dg3 w k) ∧ (∀ w, w < m → o w = true) ∧ tn = 0 ∧ t = 0)
section
variable {n wn : Nat} {s ht : Nat → Nat} {sn : Nat → Nat → Bool} {wy : Nat → Nat → Nat} {o : Nat → Bool} {L : List Nat} {m : Nat}
theorem Gx.h4 (c : Gx n wn s ht sn) : ∀ p, p < n → ht p < 4 := fun p hp => by have := c.2.1 p hp; omega
theorem Gx.w (c : Gx n wn s ht sn) : wn < 1024 := by rw [c.2.2.1]; exact EW_lt c.h4
theorem Gx.qdh (c : Gx n wn s ht sn) {p : Nat} (hp : p < n)   : qd wn p = ht p := by rw [c.2.2.1]; exact EW_qd c.h4 c.1 hp
theorem Gx.sm (c : Gx n wn s ht sn) {p : Nat} (hp : p < n) : s p = msk (sbN n (sn p)) := ((c.2.2.2 p (by have := c.1; omega)).2 hp).1
theorem Gx.s0 (c : Gx n wn s ht sn) {p : Nat} (hp : p < n) : sn p p = false := ((c.2.2.2 p (by have := c.1; omega)).2 hp).2
theorem Gx.see (c : Gx n wn s ht sn) {p k : Nat} (hp : p < n) (hk : k < n) : seeN s p k = sn p k := by
  unfold seeN; rw [c.sm hp]; exact see_bit hk c.1
theorem Gx.ag (c : Gx n wn s ht sn) {f g : Nat → Nat} (hf : ∀ k, k < n → f k < 4) (hg : ∀ k, k < n → g k < 4) {p : Nat} (hp : p < n) : agr (EW n f) (EW n g) (s p) = agS (sn p) f g n := by
  rw [c.sm hp]; exact agr_ag c.1 hf hg
/-- who is sure in the model is so in the game's list -/
theorem Gx.sure (c : Gx n wn s ht sn) (hw : ∀ w, w < m → ∀ k, k < n → wy w k < 3) (h : Rep m o (fun w => EW n (wy w)) L) {p q : Nat} {f : Nat → Nat} (hf : ∀ k, k < n → f k < 4) (hp : p < n) (hq : q < n) : surS n m sn wy o p q f = true ↔ Sure L (fun x => agr (EW n f) x (s p)) q := by
  have w4 : ∀ w, w < m → ∀ k, k < n → wy w k < 4 := fun w h1 k h2 => by have := hw w h1 k h2; omega
  unfold surS
  rw [sur_iff]
  constructor
  · rintro ⟨w, hwm, hP, ha⟩
    simp only [okS, Bool.and_eq_true] at hP
    refine ⟨EW n (wy w), h.mem.mpr ⟨w, hwm, hP.1, rfl⟩, by show agr (EW n f) (EW n (wy w)) (s p) = true; rw [c.ag hf (w4 w hwm) hp]; exact hP.2, fun y hy hy2 => ?_⟩
    obtain ⟨v, hv, ho, rfl⟩ := h.mem.mp hy
    have hy2 : agr (EW n f) (EW n (wy v)) (s p) = true := hy2
    rw [c.ag hf (w4 v hv) hp] at hy2
    have := ha v hv (by simp [okS, ho, hy2])
    rw [EW_qd (w4 v hv) c.1 hq, EW_qd (w4 w hwm) c.1 hq]; exact this
  · rintro ⟨x, hx, hP, ha⟩
    obtain ⟨w, hwm, ho, rfl⟩ := h.mem.mp hx
    have hP : agr (EW n f) (EW n (wy w)) (s p) = true := hP
    rw [c.ag hf (w4 w hwm) hp] at hP
    refine ⟨w, hwm, by simp [okS, ho, hP], fun v hv hok => ?_⟩
    simp only [okS, Bool.and_eq_true] at hok
    have := ha (EW n (wy v)) (h.mem.mpr ⟨v, hv, hok.1, rfl⟩) (by show agr (EW n f) (EW n (wy v)) (s p) = true; rw [c.ag hf (w4 v hv) hp]; exact hok.2)
    rw [EW_qd (w4 v hv) c.1 hq, EW_qd (w4 w hwm) c.1 hq] at this
    exact this
end
