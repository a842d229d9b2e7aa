/-! the two pictures of one game: a way is a number of base 3 in the model, and pairs of bits in the game -/
def E (w : Nat) : Nat := dg3 w 0 + dg3 w 1 * 2 ^ 2 + dg3 w 2 * 2 ^ 4 + dg3 w 3 * 2 ^ 6 + dg3 w 4 * 2 ^ 8
def Dw (z : Nat) : Nat := qd z 0 + qd z 1 * 3 + qd z 2 * 9 + qd z 3 * 27 + qd z 4 * 81
def bt (b k : Nat) : Bool := (b / 2 ^ k &&& 1) == 1
def msk (b : Nat) : Nat := (b / 2 ^ 0 &&& 1) * 3 + (b / 2 ^ 1 &&& 1) * 12 + (b / 2 ^ 2 &&& 1) * 48 + (b / 2 ^ 3 &&& 1) * 192 + (b / 2 ^ 4 &&& 1) * 768
theorem E_tab : ∀ w, w < 243 → E w < 1024 ∧ Dw (E w) = w ∧ (∀ p, p < 5 → qd (E w) p = dg3 w p) := by decide +kernel
theorem E_lt {w : Nat} (h : w < 243) : E w < 1024 := (E_tab w h).1
theorem E_qd {w p : Nat} (h : w < 243) (hp : p < 5) : qd (E w) p = dg3 w p := (E_tab w h).2.2 p hp
theorem E_inj {v w : Nat} (hv : v < 243) (hw : w < 243) (h : E v = E w) : v = w := by
  rw [← (E_tab v hv).2.1, ← (E_tab w hw).2.1, h]
theorem msk_tab : ∀ b, b < 32 → msk b < 1024 ∧ (∀ n, n < 5 → msk (b ||| 1 * 2 ^ n) = msk b ||| 3 * 2 ^ (n * 2) ∧ msk (b ^^^ 1 * 2 ^ n) = msk b ^^^ 3 * 2 ^ (n * 2) ∧ (!((msk b &&& 3 * 2 ^ (n * 2)) == 0)) = bt b n ∧ (b ||| 1 * 2 ^ n) < 32 ∧ (b ^^^ 1 * 2 ^ n) < 32) := by decide +kernel
theorem msk_full : ∀ n, n < 6 → msk (1 * 2 ^ n - 1) = mskN n := by decide +kernel
theorem msk_z : ∀ z, z < 1024 → ∀ b, b < 32 → ((z &&& msk b) == 0) = (List.range 5).all (fun k => !bt b k || qd z k == 0) := by decide +kernel
theorem p3_le {n : Nat} (h : n ≤ 5) : 3 ^ n ≤ 243 := by
  have := Nat.pow_le_pow_right (show 0 < 3 by decide) h
  simpa using this
theorem qd_lt' (x k : Nat) : qd x k < 4 := Nat.lt_of_le_of_lt Nat.and_le_right (by decide)
theorem qd_xor (x y k : Nat) : qd (x ^^^ y) k = qd x k ^^^ qd y k := by
  unfold qd
  rw [← Nat.shiftRight_eq_div_pow, ← Nat.shiftRight_eq_div_pow, ← Nat.shiftRight_eq_div_pow, Nat.shiftRight_xor_distrib, Nat.and_xor_distrib_right]
theorem x4 : ∀ a, a < 4 → ∀ b, b < 4 → ((a ^^^ b) == 0) = (a == b) := by decide
theorem dg3_big {n w k : Nat} (hw : w < 3 ^ n) (hk : n ≤ k) : dg3 w k = 0 := by
  have : w < 3 ^ k := Nat.lt_of_lt_of_le hw (Nat.pow_le_pow_right (by decide) hk)
  unfold dg3; rw [Nat.div_eq_of_lt this]
theorem dg3_lt' (w k : Nat) : dg3 w k < 3 := Nat.mod_lt _ (by decide)
theorem dg3_le2 (w k : Nat) : dg3 w k ≤ 2 := Nat.le_of_lt_succ (dg3_lt' w k)
theorem view_lt (sn : Nat → Nat) (p w n : Nat) : viewN sn p w n < 3 ^ n := by
  induction n with
  | zero => exact Nat.one_pos
  | succ n ih =>
    have h2 : dg3 w n * 3 ^ n ≤ 2 * 3 ^ n := Nat.mul_le_mul_right _ (dg3_le2 w n)
    have h3 : 3 ^ (n + 1) = 3 ^ n * 3 := Nat.pow_succ 3 n
    unfold viewN
    split <;> omega
theorem sum_inj {N a b d e : Nat} (ha : a < N) (hb : b < N) (h : a + d * N = b + e * N) : a = b ∧ d = e := by
  have h1 : (a + d * N) % N = (b + e * N) % N := by rw [h]
  rw [Nat.add_mul_mod_self_right, Nat.add_mul_mod_self_right, Nat.mod_eq_of_lt ha, Nat.mod_eq_of_lt hb] at h1
  have h2 : (a + d * N) / N = (b + e * N) / N := by rw [h]
  have hN : 0 < N := by omega
  rw [Nat.add_mul_div_right _ _ hN, Nat.add_mul_div_right _ _ hN, Nat.div_eq_of_lt ha, Nat.div_eq_of_lt hb] at h2
  exact ⟨h1, by omega⟩
theorem view_eq (sn : Nat → Nat) (p v w n : Nat) : (viewN sn p v n == viewN sn p w n) = (List.range n).all (fun k => !seeM sn p k p || dg3 v k == dg3 w k) := by
  rw [Bool.eq_iff_iff, beq_iff_eq, List.all_eq_true]
  induction n with
  | zero => exact ⟨fun _ _ h => absurd h (by simp), fun _ => rfl⟩
  | succ n ih =>
    have hl := view_lt sn p v n
    have hr := view_lt sn p w n
    have hz : ∀ x, viewN sn p x (n + 1) = viewN sn p x n + (if seeM sn p n p then dg3 x n else 0) * 3 ^ n := by
      intro x; show (if _ then _ else _) = _; split <;> simp
    rw [hz, hz]
    constructor
    · intro h k hk
      have h2 := sum_inj hl hr h
      rw [List.range_succ, List.mem_append] at hk
      rcases hk with hk | hk
      · exact ih.mp h2.1 k hk
      · rw [List.mem_singleton] at hk; subst hk
        have h3 := h2.2
        cases hsee : seeM sn p k p with
        | false => rfl
        | true => rw [hsee] at h3; simpa using h3
    · intro h
      have h1 := ih.mpr (fun k hk => h k (by rw [List.range_succ, List.mem_append]; exact .inl hk))
      have h2 := h n (by rw [List.range_succ, List.mem_append]; exact .inr (by simp))
      rw [h1]
      cases hsee : seeM sn p n p with
      | false => rfl
      | true => rw [hsee] at h2; have : dg3 v n = dg3 w n := by simpa using h2
                rw [this]
theorem agr_view {sn : Nat → Nat} {n p v w : Nat} (hn : n ≤ 5) (hp : p < n) (hv : v < 3 ^ n) (hw : w < 3 ^ n) (hs : sn p < 32) (hz : bt (sn p) p = false) :
    agr (E w) (E v) (msk (sn p)) = (viewN sn p v n == viewN sn p w n) := by
  have h3 := p3_le hn
  have hv' : v < 243 := by omega
  have hw' : w < 243 := by omega
  unfold agr
  rw [msk_z _ (Nat.xor_lt_two_pow (n := 10) (E_lt hv') (E_lt hw')) _ hs, view_eq, Bool.eq_iff_iff, List.all_eq_true, List.all_eq_true]
  have key : ∀ k, k < 5 → (!bt (sn p) k || qd (E v ^^^ E w) k == 0) = (!seeM sn p k p || dg3 v k == dg3 w k) := by
    intro k hk
    rw [qd_xor, x4 _ (qd_lt' _ _) _ (qd_lt' _ _), E_qd hv' hk, E_qd hw' hk]
    have : bt (sn p) k = seeM sn p k p := by
      show _ = (bt (sn p) k && !(k == p))
      by_cases hkp : k = p
      · subst hkp; rw [hz]; rfl
      · have : (k == p) = false := by simpa using hkp
        rw [this]; simp
    rw [this]
  constructor
  · intro h k hk
    rw [← key k (by have := List.mem_range.mp hk; omega)]
    exact h k (List.mem_range.mpr (by have := List.mem_range.mp hk; omega))
  · intro h k hk
    have hk := List.mem_range.mp hk
    rw [key k hk]
    by_cases hkn : k < n
    · exact h k (List.mem_range.mpr hkn)
    · rw [dg3_big hv (by omega), dg3_big hw (by omega)]; simp
theorem xor_z {a b : Nat} : (a ^^^ b) = 0 ↔ a = b := by
  constructor
  · intro h
    have : (a ^^^ b) ^^^ b = 0 ^^^ b := by rw [h]
    rwa [Nat.xor_assoc, Nat.xor_self, Nat.xor_zero, Nat.zero_xor] at this
  · intro h; rw [h, Nat.xor_self]
theorem vw_agr {x y m : Nat} (hx : x < 1024) (hy : y < 1024) : (vw x m == vw y m) = agr y x m := by
  have hz : ∀ z, z < 1024 → (z &&& m) &&& 1023 = z &&& m := by
    intro z hz
    have : z &&& m < 2 ^ 10 := Nat.lt_of_le_of_lt Nat.and_le_left hz
    rw [show 1023 = 2 ^ 10 - 1 from rfl, Nat.and_two_pow_sub_one_eq_mod, Nat.mod_eq_of_lt this]
  unfold vw agr
  rw [hz x hx, hz y hy, Bool.eq_iff_iff, beq_iff_eq, beq_iff_eq, Nat.and_xor_distrib_right, xor_z]
/-! the list of the game and the marks of the model -/
def Rep (N : Nat) (o : Nat → Bool) (L : List Nat) : Prop := L.Perm (((List.range N).filter o).map E)
theorem Rep.congr {N : Nat} {o o' : Nat → Bool} {L : List Nat} (h : Rep N o L) (he : ∀ w, w < N → o' w = o w) : Rep N o' L := by
  unfold Rep at *
  rw [List.filter_congr (p := o') (q := o) (fun w hw => he w (List.mem_range.mp hw))]
  exact h
theorem Rep.filter {N : Nat} {o o' : Nat → Bool} {L : List Nat} (f : Nat → Bool) (h : Rep N o L) (he : ∀ w, w < N → o' w = (o w && f (E w))) : Rep N o' (L.filter f) := by
  unfold Rep at *
  have h2 := h.filter f
  rw [List.filter_map, List.filter_filter] at h2
  rwa [List.filter_congr (p := o') (q := fun a => ((f ∘ E) a && o a)) (fun w hw => by rw [he w (List.mem_range.mp hw), Bool.and_comm]; rfl)]
theorem cnt_range (P : Nat → Bool) (N : Nat) : (List.range N).countP P = cntP P N := by
  induction N with
  | zero => rfl
  | succ N ih => rw [List.range_succ, List.countP_append, ih]; show _ = _ + _; simp [List.countP_cons]
theorem cntP_cg {P Q : Nat → Bool} {N : Nat} (h : ∀ w, w < N → P w = Q w) : cntP P N = cntP Q N := by
  induction N with
  | zero => rfl
  | succ N ih => unfold cntP; rw [ih (fun w hw => h w (by omega)), h N (by omega)]
theorem Rep.cnt {N : Nat} {o P : Nat → Bool} {L : List Nat} (f : Nat → Bool) (h : Rep N o L) (he : ∀ w, w < N → P w = (o w && f (E w))) : L.countP f = cntP P N := by
  rw [List.Perm.countP_eq f h, List.countP_map, List.countP_filter, cnt_range]
  exact cntP_cg (fun w hw => by rw [he w hw, Bool.and_comm]; rfl)
theorem Rep.len {N : Nat} {o : Nat → Bool} {L : List Nat} (h : Rep N o L) : L.length = cntP o N := by
  rw [← h.cnt (P := o) (fun _ => true) (fun w _ => by simp)]; simp
theorem Rep.all {N : Nat} {o P : Nat → Bool} {L : List Nat} (f : Nat → Bool) (h : Rep N o L) (he : ∀ w, w < N → P w = (!o w || f (E w))) : L.all f = (List.range N).all P := by
  rw [Bool.eq_iff_iff, List.all_eq_true, List.all_eq_true]
  constructor
  · intro hh w hw
    have hw' := List.mem_range.mp hw
    rw [he w hw']
    cases ho : o w with
    | false => rfl
    | true => exact hh (E w) (h.mem_iff.mpr (List.mem_map.mpr ⟨w, List.mem_filter.mpr ⟨hw, ho⟩, rfl⟩))
  · intro hh x hx
    obtain ⟨w, hw, rfl⟩ := List.mem_map.mp (h.mem_iff.mp hx)
    have hw2 := List.mem_filter.mp hw
    have := hh w hw2.1
    rw [he w (List.mem_range.mp hw2.1), hw2.2] at this
    simpa using this
def orS (P : Nat → Bool) (g : Nat → Nat) (a x : Nat) : Nat := if P x then a ||| g x else a
theorem orS_comm (P : Nat → Bool) (g : Nat → Nat) (a x y : Nat) : orS P g (orS P g a x) y = orS P g (orS P g a y) x := by
  unfold orS
  split <;> split <;> first | rfl | (rw [Nat.or_assoc, Nat.or_assoc, Nat.or_comm (g x)])
theorem Rep.col {N : Nat} {o : Nat → Bool} {L : List Nat} (P : Nat → Bool) (g : Nat → Nat) (sn : Nat → Nat) (p q n v : Nat) (h : Rep N o L) (hP : ∀ w, w < N → P (E w) = (viewN sn p w n == v)) (hg : ∀ w, w < N → g (E w) = 1 * 2 ^ dg3 w q) :
    L.foldl (fun a x => if P x then a ||| g x else a) 0 = colG sn p q o n v N := by
  have h1 : L.foldl (orS P g) 0 = (((List.range N).filter o).map E).foldl (orS P g) 0 := List.Perm.foldl_eq' h (fun x _ y _ a => orS_comm P g a x y) 0
  show L.foldl (orS P g) 0 = _
  rw [h1]; clear h1 h
  induction N with
  | zero => rfl
  | succ N ih =>
    rw [List.range_succ, List.filter_append, List.map_append, List.foldl_append, ih (fun w hw => hP w (by omega)) (fun w hw => hg w (by omega))]
    rw [show colG sn p q o n v (N + 1) = if (o N && viewN sn p N n == v) = true then colG sn p q o n v N ||| (1 * 2 ^ dg3 N q) else colG sn p q o n v N from rfl]
    cases ho : o N with
    | false => simp [List.filter_cons, ho]
    | true => simp [List.filter_cons, ho, orS, hP N (by omega), hg N (by omega)]
theorem col_lt (sn : Nat → Nat) (p q : Nat) (o : Nat → Bool) (n v N : Nat) : colG sn p q o n v N < 8 := by
  induction N with
  | zero => exact (by decide : 0 < 8)
  | succ N ih =>
    have : 1 * 2 ^ dg3 N q < 2 ^ 3 := by
      have := Nat.pow_le_pow_right (show 0 < 2 by decide) (dg3_le2 N q)
      omega
    unfold colG
    split
    · exact Nat.or_lt_two_pow (n := 3) ih this
    · exact ih
theorem one1_isO : ∀ b, b < 8 → one1 b = isO b := by decide
