/-! what the relation says of the answers, and how each move keeps it -/
theorem agr_self (x m : Nat) : agr x x m = true := by simp [agr]
theorem dg3_big {n w k : Nat} (hw : w < 3 ^ n) (hk : n ≤ k) : dg3 w k = 0 := by
  have : w < 3 ^ k := Nat.lt_of_lt_of_le hw (Nat.pow_le_pow_right (by decide) hk)
  unfold dg3; rw [Nat.div_eq_of_lt this]
theorem EW_E {n w : Nat} {f : Nat → Nat} (hw : w < 3 ^ n) (h : ∀ k, k < n → f k = dg3 w k) : EW n f = E w := by
  have e : ∀ k, dgt n f k = dg3 w k := by
    intro k; unfold dgt; split
    · exact h k (by assumption)
    · rw [dg3_big hw (by omega)]
  simp only [EW, E, e]
theorem oc_tab : ∀ n, n < 5 → ocL n ((List.range (3 ^ n)).map E) 2 = (List.range (3 ^ (n + 1))).map E := by decide +kernel
theorem can_tab : ∀ n, n < 6 → canL n = (List.range (3 ^ n)).map E := by decide +kernel
theorem qd_sh : ∀ c, c < 4 → ∀ p, p < 5 → ∀ k, k < 5 → qd (c * 2 ^ (p * 2)) k = if k = p then c else 0 := by decide +kernel
theorem qd_or (x y k : Nat) : qd (x ||| y) k = qd x k ||| qd y k := by
  unfold qd
  rw [← Nat.shiftRight_eq_div_pow, ← Nat.shiftRight_eq_div_pow, ← Nat.shiftRight_eq_div_pow, Nat.shiftRight_or_distrib, Nat.and_or_distrib_right]
theorem xx4 : ∀ a, a < 4 → ∀ b, b < 4 → a ^^^ (a ^^^ b) = b ∧ b ^^^ (a ^^^ b) = a := by decide
theorem xch_qd {z p q k : Nat} (hp : p < 5) (hq : q < 5) (hpq : p ≠ q) (hk : k < 5) : qd (xch z p q) k = if k = p then qd z q else if k = q then qd z p else qd z k := by
  have hd : qd z p ^^^ qd z q < 4 := Nat.xor_lt_two_pow (n := 2) (qd_lt z p) (qd_lt z q)
  have h4 := xx4 _ (qd_lt z p) _ (qd_lt z q)
  unfold xch
  rw [qd_xor, qd_xor, qd_sh _ hd p hp k hk, qd_sh _ hd q hq k hk]
  by_cases h1 : k = p
  · subst h1
    rw [if_pos rfl, if_neg hpq, if_pos rfl, Nat.xor_zero]; exact h4.1
  · rw [if_neg h1, if_neg h1, Nat.xor_zero]
    by_cases h2 : k = q
    · subst h2
      rw [if_pos rfl, if_pos rfl]; exact h4.2
    · rw [if_neg h2, if_neg h2, Nat.xor_zero]
theorem EW_sw {n a b : Nat} {f : Nat → Nat} (hn : n ≤ 5) (hf : ∀ k, k < n → f k < 4) (ha : a < n) (hb : b < n) (hab : a ≠ b) : EW n (swS f a b) = xch (EW n f) a b := by
  have hs : ∀ k, k < n → swS f a b k < 4 := by
    intro k hk; unfold swS; split
    · exact hf b hb
    · split
      · exact hf a ha
      · exact hf k hk
  refine qd_ext (EW_lt hs) (xch_lt (EW_lt hf) (by omega) (by omega)) (fun k hk => ?_)
  rw [xch_qd (by omega) (by omega) hab hk]
  by_cases hkn : k < n
  · rw [EW_qd hs hn hkn, EW_qd hf hn hb, EW_qd hf hn ha, EW_qd hf hn hkn]; rfl
  · rw [EW_hi hs (by omega) hk, if_neg (by omega), if_neg (by omega), EW_hi hf (by omega) hk]
theorem hat_S {n : Nat} {f : Nat → Nat} (hn : n ≤ 5) (hf : ∀ k, k < n → f k < 4) (co : Nat) : ∀ k, k ≤ n → hatsN k (EW n f) co = havS f co k
  | 0, _ => rfl
  | k + 1, hk => by
    show hatsN k (EW n f) co + _ = havS f co k + _
    rw [hat_S hn hf co k (by omega), EW_qd hf hn (by omega)]
theorem real_ex : ∀ (n : Nat) (ht : Nat → Nat), (∀ p, p < n → ht p < 3) → ∃ v, v < 3 ^ n ∧ ∀ k, k < n → ht k = dg3 v k
  | 0, _, _ => ⟨0, by decide, fun k hk => absurd hk (Nat.not_lt_zero k)⟩
  | n + 1, ht, h => by
    obtain ⟨v, hv, he⟩ := real_ex n ht (fun p hp => h p (by omega))
    have h3 := h n (by omega)
    refine ⟨v + ht n * 3 ^ n, ?_, fun k hk => ?_⟩
    · rw [Nat.pow_succ]
      have : ht n * 3 ^ n ≤ 2 * 3 ^ n := Nat.mul_le_mul_right _ (by omega)
      omega
    · unfold dg3
      have hpos : 0 < 3 ^ k := Nat.pow_pos (by decide)
      by_cases hkn : k = n
      · subst hkn
        rw [Nat.add_mul_div_right _ _ hpos, Nat.div_eq_of_lt hv, Nat.zero_add, Nat.mod_eq_of_lt h3]
      · have e : ht n * 3 ^ n = (3 * (ht n * 3 ^ (n - k - 1))) * 3 ^ k := by
          have : 3 ^ n = 3 ^ (n - k - 1) * 3 * 3 ^ k := by
            rw [← Nat.pow_succ, ← Nat.pow_add]; congr 1; omega
          rw [this, ← Nat.mul_assoc, ← Nat.mul_assoc, Nat.mul_comm 3 (ht n * _)]
        rw [e, Nat.add_mul_div_right _ _ hpos, Nat.add_mul_mod_self_left]
        exact he k (by omega)
theorem aft_mod {n p a : Nat} (hn : 0 < n) (hp : p = a % n) : aftN n p = (a + 1) % n := by
  have h1 := Nat.mod_lt a hn
  unfold aftN
  by_cases hh : p + 1 < n
  · rw [if_pos hh, Nat.add_mod, ← hp]
    by_cases h1n : n = 1
    · omega
    · rw [Nat.mod_eq_of_lt (show 1 < n by omega), Nat.mod_eq_of_lt hh]
  · rw [if_neg hh]
    have h2 : a + 1 = n * (a / n + 1) := by
      have := Nat.div_add_mod a n
      rw [Nat.mul_add]; omega
    rw [h2, Nat.mul_mod_right]
section
variable {n m wn t tc sc : Nat} {uw : Bool} {c1 : Nat} {s hf : Nat → Nat} {tn sl : Nat} {bg : Bool} {ht : Nat → Nat} {sn : Nat → Nat → Bool} {wy : Nat → Nat → Nat} {o : Nat → Bool}
theorem Rl.gx (r : Rl n m wn t tc sc uw c1 s hf tn sl bg ht sn wy o) : Gx n wn s ht sn := r.1
theorem Rl.m3 (r : Rl n m wn t tc sc uw c1 s hf tn sl bg ht sn wy o) : m = 3 ^ n := r.2.1
theorem Rl.wy3 (r : Rl n m wn t tc sc uw c1 s hf tn sl bg ht sn wy o) : ∀ w, w < m → ∀ k, k < n → wy w k < 3 := r.2.2.1
theorem Rl.wy4 (r : Rl n m wn t tc sc uw c1 s hf tn sl bg ht sn wy o) : ∀ w, w < m → ∀ k, k < n → wy w k < 4 := fun w h1 k h2 => by have := r.wy3 w h1 k h2; omega
theorem Rl.rp (r : Rl n m wn t tc sc uw c1 s hf tn sl bg ht sn wy o) : Rep m o (fun w => EW n (wy w)) (Lof hf c1) := r.2.2.2.1
theorem Rl.now (r : Rl n m wn t tc sc uw c1 s hf tn sl bg ht sn wy o) : wn ∈ Lof hf c1 := r.2.2.2.2.1
theorem Rl.t5 (r : Rl n m wn t tc sc uw c1 s hf tn sl bg ht sn wy o) : t < 5 := r.2.2.2.2.2.1
theorem Rl.tm (r : Rl n m wn t tc sc uw c1 s hf tn sl bg ht sn wy o) : 0 < n → t = tn % n := r.2.2.2.2.2.2.1
theorem Rl.ub (r : Rl n m wn t tc sc uw c1 s hf tn sl bg ht sn wy o) : uw = bg := r.2.2.2.2.2.2.2.1
theorem Rl.tt (r : Rl n m wn t tc sc uw c1 s hf tn sl bg ht sn wy o) : tc = tn := r.2.2.2.2.2.2.2.2.1
theorem Rl.ss (r : Rl n m wn t tc sc uw c1 s hf tn sl bg ht sn wy o) : sc = sl := r.2.2.2.2.2.2.2.2.2.1
theorem Rl.sb (r : Rl n m wn t tc sc uw c1 s hf tn sl bg ht sn wy o) : sl ≤ tn := r.2.2.2.2.2.2.2.2.2.2.1
theorem Rl.fresh (r : Rl n m wn t tc sc uw c1 s hf tn sl bg ht sn wy o) : bg = false → (∀ w, w < m → ∀ k, k < n → wy w k = dg3 w k) ∧ (∀ w, w < m → o w = true) ∧ tn = 0 ∧ t = 0 := r.2.2.2.2.2.2.2.2.2.2.2
theorem Rl.n5 (r : Rl n m wn t tc sc uw c1 s hf tn sl bg ht sn wy o) : n ≤ 5 := r.1.1
theorem Rl.m243 (r : Rl n m wn t tc sc uw c1 s hf tn sl bg ht sn wy o) : m ≤ 243 := by rw [r.m3]; exact p3_243 n r.n5
theorem Rl.c1e (r : Rl n m wn t tc sc uw c1 s hf tn sl bg ht sn wy o) : c1 = cntP o m := by rw [← r.rp.len, Lof_len]
theorem Rl.c1m (r : Rl n m wn t tc sc uw c1 s hf tn sl bg ht sn wy o) : c1 ≤ m := by rw [r.c1e]; exact cntP_le _ _
theorem Rl.mem (r : Rl n m wn t tc sc uw c1 s hf tn sl bg ht sn wy o) {x : Nat} (hx : x ∈ Lof hf c1) : x < 1024 ∧ ∀ k, k < n → qd x k < 3 := by
  obtain ⟨w, hw, -, rfl⟩ := r.rp.mem.mp hx
  exact ⟨EW_lt (r.wy4 w hw), fun k hk => by show qd (EW n (wy w)) k < 3; rw [EW_qd (r.wy4 w hw) r.n5 hk]; exact r.wy3 w hw k hk⟩
theorem Rl.inv (r : Rl n m wn t tc sc uw c1 s hf tn sl bg ht sn wy o) : n ≤ 5 ∧ wn < 1024 ∧ (∀ p, p < 5 → s p < 1024) ∧ c1 ≤ 243 ∧ (∀ j, j < c1 → hf j < 1024) :=
  ⟨r.n5, r.gx.w, fun p hp => (r.gx.2.2.2 p hp).1, Nat.le_trans r.c1m r.m243, fun j hj => (r.mem (Lof_mem.mpr ⟨j, hj, rfl⟩)).1⟩
theorem Rl.knw (r : Rl n m wn t tc sc uw c1 s hf tn sl bg ht sn wy o) {p q : Nat} (hp : p < n) (hq : q < n) : surS n m sn wy o p q ht = knwN wn (s p) q (Lof hf c1) := by
  refine bool_eq (Iff.trans (r.gx.sure r.wy3 r.rp r.gx.h4 hp hq) ?_)
  rw [← r.gx.2.2.1]; exact knw_iff.symm
theorem Rl.certS (r : Rl n m wn t tc sc uw c1 s hf tn sl bg ht sn wy o) {p : Nat} (hp : p < n) : surS n m sn wy o p p ht = cert wn (s p) p (Lof hf c1) := r.knw hp hp
theorem Rl.wbcS (r : Rl n m wn t tc sc uw c1 s hf tn sl bg ht sn wy o) {p w : Nat} (hp : p < n) (hw : w < m) : surS n m sn wy o p p (wy w) = wbc (s p) p (Lof hf c1) (EW n (wy w)) := by
  refine bool_eq (Iff.trans (r.gx.sure r.wy3 r.rp (r.wy4 w hw) hp hp) ?_)
  exact (wbc_iff (EW_lt (r.wy4 w hw)) (fun y hy => (r.mem hy).1)).symm
theorem Rl.certs (r : Rl n m wn t tc sc uw c1 s hf tn sl bg ht sn wy o) : ∀ k, k ≤ n → cerS n m sn ht wy o k = certN wn s (Lof hf c1) k
  | 0, _ => rfl
  | k + 1, hk => by
    show cerS n m sn ht wy o k + _ = certN wn s (Lof hf c1) k + _
    rw [r.certs k (by omega), r.certS (by omega)]
theorem Rl.withN (r : Rl n m wn t tc sc uw c1 s hf tn sl bg ht sn wy o) {p : Nat} (hp : p < n) (co : Nat) : (Lof hf c1).countP (fun x => qd x p == co) = cntP (fun w => o w && wy w p == co) m :=
  r.rp.cnt _ (fun w hw => by rw [EW_qd (r.wy4 w hw) r.n5 hp])
theorem Rl.poss (r : Rl n m wn t tc sc uw c1 s hf tn sl bg ht sn wy o) {p : Nat} (hp : p < n) : possN wn (s p) (Lof hf c1) = cntP (okS n sn wy o p ht) m :=
  r.rp.cnt _ (fun w hw => by rw [r.gx.2.2.1, r.gx.ag r.gx.h4 (r.wy4 w hw) hp])
theorem Rl.allk (r : Rl n m wn t tc sc uw c1 s hf tn sl bg ht sn wy o) {p : Nat} (hp : p < n) : allN wn p (Lof hf c1) = (cntP (fun w => o w && wy w p == ht p) m == cntP o m) := by
  show ((Lof hf c1).countP (fun x => qd x p == qd wn p) == (Lof hf c1).length) = _
  rw [r.gx.qdh hp, r.withN hp, r.rp.len]
theorem pcol_bit (wn mk q c : Nat) (L : List Nat) (hc : c < 4) : (!((pcol wn mk q L &&& 1 * 2 ^ c) == 0)) = L.any (fun x => agr wn x mk && qd x q == c) := by
  have h1 := fold_bit (fun x => agr wn x mk) q c L 0
  rw [Nat.zero_testBit, Bool.false_or] at h1
  rw [← h1]
  have h2 : ∀ b, b < 16 → ∀ c, c < 4 → (!((b &&& 1 * 2 ^ c) == 0)) = b.testBit c := by decide +kernel
  exact h2 _ (pcol_lt wn mk q L) c hc
theorem Rl.hold (r : Rl n m wn t tc sc uw c1 s hf tn sl bg ht sn wy o) {p k co : Nat} (hp : p < n) (hk : k < n) (hc : co < 4) : (!((pcol wn (s p) k (Lof hf c1) &&& 1 * 2 ^ co) == 0)) = (List.range m).any (fun w => okS n sn wy o p ht w && wy w k == co) := by
  rw [pcol_bit _ _ _ _ _ hc, Bool.eq_iff_iff, List.any_eq_true, List.any_eq_true]
  constructor
  · rintro ⟨x, hx, h⟩
    obtain ⟨w, hw, ho, rfl⟩ := r.rp.mem.mp hx
    have h : (agr wn (EW n (wy w)) (s p) && qd (EW n (wy w)) k == co) = true := h
    rw [r.gx.2.2.1, r.gx.ag r.gx.h4 (r.wy4 w hw) hp, EW_qd (r.wy4 w hw) r.n5 hk] at h
    exact ⟨w, List.mem_range.mpr hw, by simp only [okS, ho, Bool.true_and]; exact h⟩
  · rintro ⟨w, hw, h⟩
    have hw := List.mem_range.mp hw
    simp only [okS, Bool.and_eq_true] at h
    refine ⟨EW n (wy w), r.rp.mem.mpr ⟨w, hw, h.1.1, rfl⟩, ?_⟩
    rw [r.gx.2.2.1, r.gx.ag r.gx.h4 (r.wy4 w hw) hp, EW_qd (r.wy4 w hw) r.n5 hk, h.1.2, h.2]; rfl
theorem Rl.hat (r : Rl n m wn t tc sc uw c1 s hf tn sl bg ht sn wy o) (co : Nat) : hatsN n wn co = havS ht co n := by
  rw [r.gx.2.2.1]; exact hat_S r.n5 r.gx.h4 co n (Nat.le_refl _)
theorem Rl.sumB (r : Rl n m wn t tc sc uw c1 s hf tn sl bg ht sn wy o) {k : Nat} (hk : k ≤ n) : sumP wn s (Lof hf c1) k ≤ n * 243 := by
  have := sumP_le wn s hf c1 k
  have h2 := r.inv.2.2.2.1
  exact Nat.le_trans this (Nat.mul_le_mul hk h2)
/-- the moves -/
theorem Rl.filt (r : Rl n m wn t tc sc uw c1 s hf tn sl bg ht sn wy o) {t2 tc2 sc2 k tn2 sl2 : Nat} {g : Nat → Nat} {f : Nat → Bool} {o2 : Nat → Bool} (hg : Lof g k = (Lof hf c1).filter f) (ho : ∀ w, w < m → o2 w = (o w && f (EW n (wy w)))) (hf : f wn = true) (ht5 : t2 < 5) (htm : 0 < n → t2 = tn2 % n) (htt : tc2 = tn2) (hss : sc2 = sl2) (hsb : sl2 ≤ tn2) :
    Rl n m wn t2 tc2 sc2 true k s g tn2 sl2 true ht sn wy o2 :=
  ⟨r.gx, r.m3, r.wy3, by rw [hg]; exact r.rp.filter f ho, by rw [hg]; exact List.mem_filter.mpr ⟨r.now, hf⟩, ht5, htm, rfl, htt, hss, hsb, fun h => absurd h (by decide)⟩
theorem Rl.say (r : Rl n m wn t tc sc uw c1 s hf tn sl bg ht sn wy o) {k : Nat} {g : Nat → Nat} {f : Nat → Bool} {o2 : Nat → Bool} (hg : Lof g k = (Lof hf c1).filter f) (ho : ∀ w, w < m → o2 w = (o w && f (EW n (wy w)))) (hf : f wn = true) : Rl n m wn t tc sc true k s g tn sl true ht sn wy o2 :=
  r.filt hg ho hf r.t5 r.tm r.tt r.ss r.sb
theorem Rl.isL (r : Rl n m wn t tc sc uw c1 s hf tn sl bg ht sn wy o) {w co many : Nat} (hw : w < m) : isS (wy w) co many n true = (decide (many ≤ hatsN n (EW n (wy w)) co) && decide (hatsN n (EW n (wy w)) co ≤ 5)) := by
  have := havS_le (wy w) co n
  have h5 := r.n5
  rw [hat_S r.n5 (r.wy4 w hw) co n (Nat.le_refl _)]
  have e : decide (havS (wy w) co n ≤ 5) = true := by simp; omega
  rw [e, Bool.and_true]; rfl
theorem Rl.isM (r : Rl n m wn t tc sc uw c1 s hf tn sl bg ht sn wy o) {w co many : Nat} (hw : w < m) : isS (wy w) co many n false = (decide (0 ≤ hatsN n (EW n (wy w)) co) && decide (hatsN n (EW n (wy w)) co ≤ many)) := by
  rw [hat_S r.n5 (r.wy4 w hw) co n (Nat.le_refl _)]
  show decide (havS (wy w) co n ≤ many) = _
  simp
theorem Rl.wbcN (r : Rl n m wn t tc sc uw c1 s hf tn sl bg ht sn wy o) {p : Nat} (hp : p < n) : wbc (s p) p (Lof hf c1) wn = cert wn (s p) p (Lof hf c1) :=
  bool_eq (Iff.trans (wbc_iff r.gx.w (fun y hy => (r.mem hy).1)) cert_iff.symm)
theorem Rl.turn (r : Rl n m wn t tc sc uw c1 s hf tn sl bg ht sn wy o) (hn : 0 < n) {k p : Nat} {g : Nat → Nat} {o2 : Nat → Bool} (hp9 : p = tn % n) (hg : Lof g k = turnL wn (s t) t (Lof hf c1)) (ho : ∀ w, w < m → o2 w = nxS n m sn wy o ht p (surS n m sn wy o p p ht) w) :
    Rl n m wn (aftN n t) (tc + 1) (if cert wn (s t) t (Lof hf c1) = true then sc else sc + 1) true k s g (tn + 1) (if surS n m sn wy o p p ht = true then sl else sl + 1) true ht sn wy o2 := by
  have hT : t = p := (r.tm hn).trans hp9.symm
  have hpn : p < n := by rw [hp9]; exact Nat.mod_lt _ hn
  subst hT
  have h6 := aft_mod hn hp9
  have hc := r.certS hpn
  have ht5 : aftN n t < 5 := by rw [h6]; have := Nat.mod_lt (tn + 1) hn; have := r.n5; omega
  have hss : (if cert wn (s t) t (Lof hf c1) = true then sc else sc + 1) = (if surS n m sn wy o t t ht = true then sl else sl + 1) := by rw [hc, r.ss]
  have hsb : (if surS n m sn wy o t t ht = true then sl else sl + 1) ≤ tn + 1 := by have := r.sb; split <;> omega
  unfold turnL at hg
  cases hcc : cert wn (s t) t (Lof hf c1) with
  | false =>
    rw [hcc, if_neg (by decide)] at hg
    rw [hcc] at hss hc
    refine r.filt hg (fun w hw => ?_) (by rw [r.wbcN hpn, hcc]; rfl) ht5 (fun _ => h6) (by rw [r.tt]) hss hsb
    rw [ho w hw, hc, nxS, r.wbcS hpn hw]; simp
  | true =>
    rw [hcc, if_pos rfl, List.filter_filter] at hg
    rw [hcc] at hss hc
    refine r.filt hg (fun w hw => ?_) (by rw [r.wbcN hpn, hcc]; simp) ht5 (fun _ => h6) (by rw [r.tt]) hss hsb
    rw [ho w hw, hc, nxS, r.wbcS hpn hw, EW_qd (r.wy4 w hw) r.n5 hpn, r.gx.qdh hpn, Bool.and_assoc]
    congr 1
    rw [Bool.and_comm]; simp
theorem Rl.turnA (r : Rl n m wn t tc sc uw c1 s hf tn sl bg ht sn wy o) (hn : 0 < n) {p : Nat} (hp9 : p = tn % n) : (if cert wn (s t) t (Lof hf c1) = true then nI (qd wn t) else -1) = (if surS n m sn wy o p p ht = true then nI (ht p) else -1) := by
  have hT : t = p := (r.tm hn).trans hp9.symm
  have hpn : p < n := by rw [hp9]; exact Nat.mod_lt _ hn
  subst hT
  rw [r.certS hpn, r.gx.qdh hpn]
theorem Rl.borrow (r : Rl n m wn t tc sc uw c1 s hf tn sl bg ht sn wy o) {a b : Nat} (ha : a < n) (hb : b < n) (hab : a ≠ b) {g : Nat → Nat} {wy2 : Nat → Nat → Nat} (hg : Lof g c1 = (Lof hf c1).map (fun x => xch x a b)) (hw2 : ∀ w, w < m → wy2 w = swS (wy w) a b) :
    Rl n m (xch wn a b) t tc sc true c1 s g tn sl true (upN (upN ht a (ht b)) b (ht a)) sn wy2 o := by
  have hn := r.n5
  refine ⟨⟨hn, fun p hp => ?_, ?_, r.gx.2.2.2⟩, r.m3, fun w hw k hk => ?_, ?_, ?_, r.t5, r.tm, rfl, r.tt, r.ss, r.sb, fun h => absurd h (by decide)⟩
  · rw [swS_up hab]; unfold swS
    split
    · exact r.gx.2.1 b hb
    · split
      · exact r.gx.2.1 a ha
      · exact r.gx.2.1 p hp
  · rw [swS_up hab, EW_sw hn r.gx.h4 ha hb hab, r.gx.2.2.1]
  · rw [hw2 w hw]; unfold swS
    split
    · exact r.wy3 w hw b hb
    · split
      · exact r.wy3 w hw a ha
      · exact r.wy3 w hw k hk
  · rw [hg]
    refine (r.rp.map _).trans ?_
    rw [List.map_map]
    refine .of_eq (List.map_congr_left (fun w hw => ?_))
    have hw := List.mem_range.mp (List.mem_filter.mp hw).1
    show xch (EW n (wy w)) a b = EW n (wy2 w)
    rw [hw2 w hw, EW_sw hn (r.wy4 w hw) ha hb hab]
  · rw [hg]; exact List.mem_map.mpr ⟨wn, r.now, rfl⟩
theorem Rl.borrowA (r : Rl n m wn t tc sc uw c1 s hf tn sl bg ht sn wy o) {a b : Nat} (ha : a < n) (hb : b < n) (hab : a ≠ b) : qd (xch wn a b) a = upN (upN ht a (ht b)) b (ht a) a := by
  have hn := r.n5
  rw [xch_qd (by omega) (by omega) hab (by omega), if_pos rfl, r.gx.qdh hb, swS_up hab]
  simp [swS]
theorem Rl.away (r : Rl n m wn t tc sc uw c1 s hf tn sl bg ht sn wy o) {j k : Nat} (hj : j < n) (hk : k < n) (hjk : j ≠ k) :
    Rl n m wn t tc sc uw c1 (upN s j (s j ^^^ 3 * 2 ^ (k * 2))) hf tn sl bg ht (upN sn j (upN (sn j) k (!sn j k))) wy o := by
  have hn := r.n5
  refine ⟨⟨hn, r.gx.2.1, r.gx.2.2.1, fun p hp => ?_⟩, r.2⟩
  have h5 := r.gx.2.2.2 p hp
  by_cases h : p = j
  · subst h
    obtain ⟨h1, h2⟩ := h5
    obtain ⟨h2, h3⟩ := h2 hj
    have hb := sb_all n (sn p)
    have h7 := (msk_tab _ hb.1).2 k (by omega)
    rw [upN_s, upN_s]
    have e : sbN n (sn p) ^^^ 1 * 2 ^ k = sbN n (upN (sn p) k (!sn p k)) := by
      refine bt_ext h7.2.2.2.2 (sb_all _ _).1 (fun q hq => ?_)
      rw [(bt_tab _ hb.1 k (by omega) q hq).2, hb.2 q hq, (sb_all n (upN (sn p) k (!sn p k))).2 q hq]
      by_cases hqk : q = k
      · subst hqk; rw [upN_s]; simp [hk]
      · have e0 : (q == k) = false := by simpa using hqk
        rw [upN_n _ _ hqk, e0, Bool.xor_false]
    refine ⟨?_, fun _ => ⟨?_, ?_⟩⟩
    · rw [h2, ← h7.2.1]; exact (msk_tab _ h7.2.2.2.2).1
    · rw [h2, ← h7.2.1, e]
    · rw [upN_n _ _ hjk]; exact h3
  · rw [upN_n _ _ h, upN_n _ _ h]; exact h5
theorem Rl.begin (r : Rl n m wn t tc sc uw c1 s hf tn sl bg ht sn wy o) {g : Nat → Nat} {wy2 : Nat → Nat → Nat} {o2 : Nat → Bool} (hg : Lof g (3 ^ n) = canL n) (hw : ∀ w, w < 3 ^ n → ∀ k, k < n → wy2 w k = dg3 w k) (ho : ∀ w, w < 3 ^ n → o2 w = true) :
    Rl n (3 ^ n) wn 0 0 0 false (3 ^ n) s g 0 0 false ht sn wy2 o2 := by
  have hn := r.n5
  have hL : Lof g (3 ^ n) = (List.range (3 ^ n)).map (fun w => EW n (wy2 w)) := by
    rw [hg, can_tab n (by omega)]
    exact List.map_congr_left (fun w hw2 => (EW_E (List.mem_range.mp hw2) (hw w (List.mem_range.mp hw2))).symm)
  have hrp : Rep (3 ^ n) o2 (fun w => EW n (wy2 w)) (Lof g (3 ^ n)) := rep_all ho (.of_eq hL)
  refine ⟨r.gx, rfl, fun w hw2 k hk => by rw [hw w hw2 k hk]; exact dg3_lt _ _, hrp, ?_, by decide, fun _ => (Nat.zero_mod _).symm, rfl, rfl, rfl, Nat.le_refl _, fun _ => ⟨hw, ho, rfl, rfl⟩⟩
  obtain ⟨v, hv, hev⟩ : ∃ v, v < 3 ^ n ∧ ∀ k, k < n → ht k = dg3 v k := real_ex n ht r.gx.2.1
  refine hrp.mem.mpr ⟨v, hv, ho v hv, ?_⟩
  show EW n (wy2 v) = wn
  rw [r.gx.2.2.1]
  exact EW_cg (fun k hk => by rw [hw v hv k hk, hev k hk])
end
