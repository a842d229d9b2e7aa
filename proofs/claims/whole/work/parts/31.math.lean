/-! every answer of the game is the model's -/
def Cx (n wn : Nat) (s ht sn : Nat → Nat) : Prop := n ≤ 5 ∧ (∀ p, p < 5 → ht p < 3) ∧ wn = E (realN ht n) ∧ ∀ p, p < 5 → sn p < 32 ∧ s p = msk (sn p) ∧ (p < n → bt (sn p) p = false)
theorem dg_real {ht : Nat → Nat} : ∀ (n : Nat), (∀ p, p < n → ht p < 3) → ∀ p, p < n → dg3 (realN ht n) p = ht p
  | 0, _, _, hp => absurd hp (Nat.not_lt_zero _)
  | n + 1, h, p, hp => by
    have hl := realN_lt n (fun p hp => h p (by omega))
    show (realN ht n + ht n * 3 ^ n) / 3 ^ p % 3 = ht p
    have hpos : 0 < 3 ^ p := Nat.pow_pos (by decide)
    by_cases hpn : p = n
    · subst hpn
      rw [Nat.add_mul_div_right _ _ hpos, Nat.div_eq_of_lt hl, Nat.zero_add, Nat.mod_eq_of_lt (h p (by omega))]
    · have he : ht n * 3 ^ n = (3 * (ht n * 3 ^ (n - p - 1))) * 3 ^ p := by
        have : 3 ^ n = 3 ^ (n - p - 1) * 3 * 3 ^ p := by
          rw [← Nat.pow_succ, ← Nat.pow_add]; congr 1; omega
        rw [this, ← Nat.mul_assoc, ← Nat.mul_assoc, Nat.mul_comm 3 (ht n * _)]
      rw [he, Nat.add_mul_div_right _ _ hpos, Nat.add_mul_mod_self_left]
      exact dg_real n (fun p hp => h p (by omega)) p (by omega)
section
variable {n wn : Nat} {s ht sn : Nat → Nat} {o : Nat → Bool} {L : List Nat}
theorem Cx.real (c : Cx n wn s ht sn) : realN ht n < 3 ^ n := realN_lt n (fun p hp => c.2.1 p (by have := c.1; omega))
theorem Cx.n3 (c : Cx n wn s ht sn) {w : Nat} (hw : w < 3 ^ n) : w < 243 := by have := p3_le c.1; omega
theorem Cx.dgr (c : Cx n wn s ht sn) {p : Nat} (hp : p < n) : dg3 (realN ht n) p = ht p := dg_real n (fun p hp => c.2.1 p (by have := c.1; omega)) p hp
theorem Cx.qdr (c : Cx n wn s ht sn) {p : Nat} (hp : p < n) : qd wn p = ht p := by
  rw [c.2.2.1, E_qd (c.n3 c.real) (by have := c.1; omega), c.dgr hp]
theorem Cx.qde (c : Cx n wn s ht sn) {w p : Nat} (hw : w < 3 ^ n) (hp : p < n) : qd (E w) p = dg3 w p := E_qd (c.n3 hw) (by have := c.1; omega)
theorem Cx.ag (c : Cx n wn s ht sn) {w p : Nat} (hw : w < 3 ^ n) (hp : p < n) : agr wn (E w) (s p) = (viewN sn p w n == viewN sn p (realN ht n) n) := by
  have h5 := c.2.2.2 p (by have := c.1; omega)
  rw [c.2.2.1, h5.2.1]
  exact agr_view c.1 hp hw c.real h5.1 (h5.2.2 hp)
theorem Cx.vv (c : Cx n wn s ht sn) {w x p : Nat} (hw : w < 3 ^ n) (hx : x < 3 ^ n) (hp : p < n) : (vw (E w) (s p) == vw (E x) (s p)) = (viewN sn p w n == viewN sn p x n) := by
  have h5 := c.2.2.2 p (by have := c.1; omega)
  rw [vw_agr (E_lt (c.n3 hw)) (E_lt (c.n3 hx)), h5.2.1]
  exact agr_view c.1 hp hw hx h5.1 (h5.2.2 hp)
theorem Cx.hat (c : Cx n wn s ht sn) {w : Nat} (hw : w < 3 ^ n) (co : Nat) : ∀ k, k ≤ n → hatsN k (E w) co = haveN k w co
  | 0, _ => rfl
  | k + 1, hk => by
    show hatsN k (E w) co + _ = haveN k w co + _
    rw [c.hat hw co k (by omega), c.qde hw (by omega)]
theorem Cx.hatr (c : Cx n wn s ht sn) (co : Nat) : hatsN n wn co = haveN n (realN ht n) co := by rw [c.2.2.1]; exact c.hat c.real co n (Nat.le_refl _)
theorem have_le (w co : Nat) : ∀ k, haveN k w co ≤ k
  | 0 => Nat.le_refl _
  | k + 1 => by show haveN k w co + _ ≤ _; have := have_le w co k; split <;> omega
theorem Cx.pc (c : Cx n wn s ht sn) (h : Rep (3 ^ n) o L) {p q : Nat} (hp : p < n) (hq : q < n) : pcol wn (s p) q L = colG sn p q o n (viewN sn p (realN ht n) n) (3 ^ n) :=
  Rep.col (fun x => agr wn x (s p)) (fun x => 1 * 2 ^ qd x q) sn p q n _ h (fun w hw => c.ag hw hp) (fun w hw => by rw [c.qde hw hq])
theorem Cx.oc (c : Cx n wn s ht sn) (h : Rep (3 ^ n) o L) {p q x : Nat} (hp : p < n) (hq : q < n) (hx : x < 3 ^ n) : ocol (s p) q L (vw (E x) (s p)) = colG sn p q o n (viewN sn p x n) (3 ^ n) :=
  Rep.col (fun y => vw y (s p) == vw (E x) (s p)) (fun x => 1 * 2 ^ qd x q) sn p q n _ h (fun w hw => c.vv hw hx hp) (fun w hw => by rw [c.qde hw hq])
theorem Cx.certB (c : Cx n wn s ht sn) (h : Rep (3 ^ n) o L) {p : Nat} (hp : p < n) : cert wn (s p) p L = certM sn ht o n p := by
  show one1 _ = isO _
  rw [c.pc h hp hp, one1_isO _ (col_lt ..)]
theorem Cx.knw (c : Cx n wn s ht sn) (h : Rep (3 ^ n) o L) {p q : Nat} (hp : p < n) (hq : q < n) : knwN wn (s p) q L = knwM sn ht o n p q := by
  show one1 _ = isO _
  rw [c.pc h hp hq, one1_isO _ (col_lt ..)]
theorem Cx.wbcB (c : Cx n wn s ht sn) (h : Rep (3 ^ n) o L) {p x : Nat} (hp : p < n) (hx : x < 3 ^ n) : wbc (s p) p L (E x) = mayM sn o n p x := by
  show one1 _ = isO _
  rw [c.oc h hp hp hx, one1_isO _ (col_lt ..)]
theorem Cx.turn (c : Cx n wn s ht sn) (h : Rep (3 ^ n) o L) {p : Nat} (hp : p < n) : Rep (3 ^ n) (turnM sn o n p (realN ht n)) (turnL wn (s p) p L) := by
  unfold turnL
  rw [c.certB h hp]
  have hm : mayM sn o n p (realN ht n) = certM sn ht o n p := rfl
  cases hc : certM sn ht o n p with
  | false =>
    rw [if_neg (by decide)]
    refine h.filter _ (fun w hw => ?_)
    show ((o w && mayM sn o n p w == mayM sn o n p (realN ht n)) && (!mayM sn o n p (realN ht n) || dg3 w p == dg3 (realN ht n) p)) = _
    rw [hm, hc, c.wbcB h hp hw]; simp
  | true =>
    rw [if_pos rfl]
    refine (h.filter (o' := fun w => o w && mayM sn o n p w == true) _ (fun w hw => by rw [c.wbcB h hp hw])).filter _ (fun w hw => ?_)
    show ((o w && mayM sn o n p w == mayM sn o n p (realN ht n)) && (!mayM sn o n p (realN ht n) || dg3 w p == dg3 (realN ht n) p)) = _
    rw [hm, hc, c.qde hw hp, c.qdr hp, c.dgr hp]; simp
theorem Cx.certs (c : Cx n wn s ht sn) (h : Rep (3 ^ n) o L) : ∀ k, k ≤ n → certN wn s L k = manyM sn ht o n k
  | 0, _ => rfl
  | k + 1, hk => by
    show certN wn s L k + _ = manyM sn ht o n k + _
    rw [c.certs h k (by omega), c.certB h (by omega)]
theorem many_le (sn ht : Nat → Nat) (o : Nat → Bool) (n : Nat) : ∀ k, manyM sn ht o n k ≤ k
  | 0 => Nat.le_refl _
  | k + 1 => by show manyM sn ht o n k + _ ≤ _; have := many_le sn ht o n k; split <;> omega
theorem many_all (sn ht : Nat → Nat) (o : Nat → Bool) (n : Nat) : ∀ k, (List.range k).all (fun p => certM sn ht o n p) = (manyM sn ht o n k == k)
  | 0 => rfl
  | k + 1 => by
    rw [List.range_succ, List.all_append, many_all sn ht o n k]
    have h1 := many_le sn ht o n k
    have h2 : manyM sn ht o n (k + 1) = manyM sn ht o n k + if certM sn ht o n k = true then 1 else 0 := rfl
    rw [h2]
    cases hc : certM sn ht o n k with
    | false => simp [hc]; omega
    | true => simp [hc]
theorem Cx.all1 (c : Cx n wn s ht sn) (h : Rep (3 ^ n) o L) {j : Nat} (hj : j < n) : allC wn s j (j + 1) L = certM sn ht o n j := by
  rw [← c.certB h hj]
  unfold allC
  rw [Bool.eq_iff_iff, List.all_eq_true]
  constructor
  · intro hh; have := hh j (by simp); simpa using this
  · intro hh p hp
    have hp := List.mem_range.mp hp
    by_cases hpj : p < j
    · simp [hpj]
    · have : p = j := by omega
      subst this; rw [hh]; simp
theorem Cx.alln (c : Cx n wn s ht sn) (h : Rep (3 ^ n) o L) : allC wn s 0 n L = (manyM sn ht o n n == n) := by
  rw [← many_all]
  unfold allC
  rw [Bool.eq_iff_iff, List.all_eq_true, List.all_eq_true]
  constructor
  · intro hh p hp; have h2 := hh p hp; rw [c.certB h (List.mem_range.mp hp)] at h2; simpa using h2
  · intro hh p hp; rw [c.certB h (List.mem_range.mp hp), hh p hp]; simp
theorem aft_mod {n p a : Nat} (hn : 0 < n) (hp : p = a % n) : aftN n p = (a + 1) % n := by
  have h1 := Nat.mod_lt a hn
  unfold aftN
  by_cases hh : p + 1 < n
  · rw [if_pos hh, Nat.add_mod, ← hp]
    by_cases h1n : n = 1
    · omega
    · rw [Nat.mod_eq_of_lt (show 1 < n by omega), Nat.mod_eq_of_lt hh]
  · rw [if_neg hh]
    have h2 : a + 1 = n * (a / n + 1) := by
      have := Nat.div_add_mod a n
      rw [Nat.mul_add]; omega
    rw [h2, Nat.mul_mod_right]
theorem Cx.until (c : Cx n wn s ht sn) (hn : 0 < n) {lo hi tn : Nat} {nx : Nat → Bool} (g : (Nat → Bool) → Bool) (hg : ∀ (o : Nat → Bool) (L : List Nat), Rep (3 ^ n) o L → allC wn s lo hi L = g o) : ∀ (k i p : Nat) (L : List Nat),
    Rep (3 ^ n) (seqM sn n (realN ht n) tn o nx i).1 L → p = (tn + i) % n → (untilL n wn s lo hi k L p).map (· + i) = findF (fun i => g (seqM sn n (realN ht n) tn o nx i).1) (k + 1) i
  | 0, i, p, L, h, hp => by
    show Option.map _ (if allC wn s lo hi L then some 0 else none) = (if g (seqM sn n (realN ht n) tn o nx i).1 = true then some i else none)
    rw [hg _ L h]; split <;> simp
  | k + 1, i, p, L, h, hp => by
    show Option.map _ (if allC wn s lo hi L then some 0 else (untilL n wn s lo hi k (turnL wn (s p) p L) (aftN n p)).map (· + 1)) = (if g (seqM sn n (realN ht n) tn o nx i).1 = true then some i else findF (fun i => g (seqM sn n (realN ht n) tn o nx i).1) (k + 1) (i + 1))
    rw [hg _ L h]
    split
    · simp
    · have hpn : p < n := by rw [hp]; exact Nat.mod_lt _ hn
      have h2 : Rep (3 ^ n) (seqM sn n (realN ht n) tn o nx (i + 1)).1 (turnL wn (s p) p L) := by
        refine (c.turn h hpn).congr (fun w hw => ?_)
        show mix (turnM sn (seqM sn n (realN ht n) tn o nx i).1 n ((tn + i) % n) (realN ht n)) _ (3 ^ n) w = _
        rw [mix_lt hw, hp]
      have h3 := c.until hn g hg k (i + 1) (aftN n p) _ h2 (aft_mod hn hp)
      rw [← h3, Option.map_map]
      congr 1
      funext x; show x + 1 + i = x + (i + 1); omega
theorem Cx.until1 (c : Cx n wn s ht sn) (h : Rep (3 ^ n) o L) {j tn t : Nat} {nx : Nat → Bool} (hj : j < n) (hT : t = tn % n) : untilL n wn s j (j + 1) 40 L t = findF (fun i => certM sn ht (seqM sn n (realN ht n) tn o nx i).1 n j) 41 0 := by
  have := c.until (o := o) (tn := tn) (nx := nx) (by omega) (lo := j) (hi := j + 1) (fun o => certM sn ht o n j) (fun o L h => c.all1 h hj) 40 0 t L h hT
  rw [← this]; simp
theorem Cx.untila (c : Cx n wn s ht sn) (h : Rep (3 ^ n) o L) {tn t : Nat} {nx : Nat → Bool} (hT : 0 < n → t = tn % n) : untilL n wn s 0 n 40 L t = findF (fun i => (manyM sn ht (seqM sn n (realN ht n) tn o nx i).1 n n == n)) 41 0 := by
  by_cases hn : 0 < n
  · have := c.until (o := o) (tn := tn) (nx := nx) hn (lo := 0) (hi := n) (fun o => (manyM sn ht o n n == n)) (fun o L h => c.alln h) 40 0 t L h (hT hn)
    rw [← this]; simp
  · have : n = 0 := by omega
    subst this; rfl
theorem Cx.poss (c : Cx n wn s ht sn) (h : Rep (3 ^ n) o L) {p : Nat} (hp : p < n) : possN wn (s p) L = possM sn ht o n p :=
  h.cnt _ (fun w hw => by rw [c.ag hw hp])
theorem Cx.sum (c : Cx n wn s ht sn) (h : Rep (3 ^ n) o L) : ∀ k, k ≤ n → sumP wn s L k = sumM sn ht o n k
  | 0, _ => rfl
  | k + 1, hk => by
    show sumP wn s L k + _ = sumM sn ht o n k + _
    rw [c.sum h k (by omega), c.poss h (by omega)]
theorem Cx.withN (c : Cx n wn s ht sn) (h : Rep (3 ^ n) o L) {p co : Nat} (hp : p < n) : L.countP (fun x => qd x p == co) = withM o n p co :=
  h.cnt _ (fun w hw => by rw [c.qde hw hp])
theorem Cx.all (c : Cx n wn s ht sn) (h : Rep (3 ^ n) o L) {p : Nat} (hp : p < n) : allN wn p L = allM ht o n p := by
  show (L.countP (fun x => qd x p == qd wn p) == L.length) = (withM o n p (ht p) == cntP o (3 ^ n))
  rw [c.withN h hp, h.len, c.qdr hp]
theorem Cx.see (c : Cx n wn s ht sn) {p k : Nat} (hp : p < n) (hk : k < 5) : seeN s p k = seeM sn p k p := by
  have h5 := c.2.2.2 p (by have := c.1; omega)
  show (!((s p &&& (3 * 2 ^ (k * 2))) == 0)) = (bt (sn p) k && !(k == p))
  rw [h5.2.1, (msk_tab _ h5.1).2 k hk |>.2.2.1]
  by_cases hkp : k = p
  · subst hkp; rw [h5.2.2 hp]; rfl
  · have : (k == p) = false := by simpa using hkp
    rw [this]; simp
theorem Cx.sure (c : Cx n wn s ht sn) (h : Rep (3 ^ n) o L) {p q : Nat} (hp : p < n) (hq : q < n) : sureL wn (s p) (s q) q L = sureM sn ht o n p q :=
  h.all _ (fun w hw => by rw [c.ag hw hp, c.wbcB h hq hw]; simp only [Bool.not_and, Bool.or_assoc])
theorem Cx.told (c : Cx n wn s ht sn) (h : Rep (3 ^ n) o L) {p : Nat} (hp : p < n) : Rep (3 ^ n) (mix (toldF ht o p) o (3 ^ n)) (toldL wn p L) :=
  h.filter _ (fun w hw => by rw [mix_lt hw, c.qde hw hp, c.qdr hp]; rfl)
theorem Cx.name (c : Cx n wn s ht sn) (h : Rep (3 ^ n) o L) (co : Nat) : naming n co L = namM o n co :=
  h.cnt _ (fun w hw => by rw [c.hat hw co n (Nat.le_refl _)])
theorem Cx.best (c : Cx n wn s ht sn) (h : Rep (3 ^ n) o L) : ∀ k, bstN n wn L k = bstM ht o n k
  | 0 => rfl
  | k + 1 => by
    show (if hatsN n wn k ≠ 0 ∧ naming n k L < (bstN n wn L k).2 then (some k, naming n k L) else bstN n wn L k) = (if haveN n (realN ht n) k ≠ 0 ∧ namM o n k < (bstM ht o n k).2 then (some k, namM o n k) else bstM ht o n k)
    rw [c.best h k, c.name h k, c.hatr k]
theorem col_bit : ∀ b, b < 8 → ∀ co, co < 3 → (!((b &&& 1 * 2 ^ co) == 0)) = ((b / 2 ^ co &&& 1) == 1) := by decide
theorem Cx.aft (c : Cx n wn s ht sn) (h : Rep (3 ^ n) o L) {tn t : Nat} (hT : 0 < n → t = tn % n) : aftI n wn t s L = aftM sn ht o n tn := by
  unfold aftI aftM
  split
  · rfl
  · have hn : 0 < n := by omega
    have htn := hT hn
    subst htn
    rw [(c.turn h (Nat.mod_lt tn hn)).len]
theorem who_eq {n t tn : Nat} (hT : 0 < n → t = tn % n) : whoI n t = whoM n tn := by
  unfold whoI whoM
  split
  · rfl
  · rw [hT (by omega)]
theorem dg_bI (d : Int64) (b : Bool) : dgB d b = dg d (bI b) := by cases b <;> rfl
theorem Cx.dgOB (c : Cx n wn s ht sn) (h : Rep (3 ^ n) o L) {p : Nat} (hp : p < n) (d : Int64) : ∀ k, k ≤ n → dgO wn s L p d k = dmO sn ht o n p d k
  | 0, _ => rfl
  | k + 1, hk => by
    show dgB (dgB (dgB (dgO wn s L p d k) _) _) _ = dg (dg (dg (dmO sn ht o n p d k) _) _) _
    rw [c.dgOB h hp d k (by omega), dg_bI, dg_bI, dg_bI, c.see hp (by have := c.1; omega), c.knw h hp (by omega), c.sure h hp (by omega)]
theorem Cx.dgPB (c : Cx n wn s ht sn) (h : Rep (3 ^ n) o L) {p : Nat} (hp : p < n) (d : Int64) : dgP n wn s L p d = dmP sn ht o n p d := by
  unfold dgP dmP
  rw [c.dgOB h hp _ n (Nat.le_refl _), dg_bI, dg_bI, c.qdr hp, c.poss h hp, c.certB h hp, c.all h hp, c.certs (c.told h hp) n (Nat.le_refl _)]
theorem Cx.dgAB (c : Cx n wn s ht sn) (h : Rep (3 ^ n) o L) (d : Int64) : ∀ k, k ≤ n → dgA n wn s L d k = dmA sn ht o n d k
  | 0, _ => rfl
  | k + 1, hk => by
    show dgP n wn s L k (dgA n wn s L d k) = dmP sn ht o n k (dmA sn ht o n d k)
    rw [c.dgAB h d k (by omega), c.dgPB h (by omega)]
theorem Cx.dig (c : Cx n wn s ht sn) (h : Rep (3 ^ n) o L) {tn t sl : Nat} (hT : 0 < n → t = tn % n) : digN n wn t tn sl s L = digM sn ht o n tn sl := by
  unfold digN digM
  rw [c.dgAB h _ n (Nat.le_refl _), who_eq hT, h.len, c.certs h n (Nat.le_refl _), c.best h, c.aft h hT]
end
