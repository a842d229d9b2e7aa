/-! the relation between the game and the model, and how each move keeps it -/
def Rl (n wn t tc sc : Nat) (uw : Bool) (c1 : Nat) (s hf : Nat → Nat) (bg : Bool) (tn sl : Nat) (ht sn : Nat → Nat) (o : Nat → Bool) : Prop :=
  Cx n wn s ht sn ∧ Rep (3 ^ n) o (Lof hf c1) ∧ t < 5 ∧ (0 < n → t = tn % n) ∧ uw = bg ∧ tc = tn ∧ sc = sl ∧ (bg = false → (∀ w, w < 3 ^ n → o w = true) ∧ tn = 0 ∧ t = 0)
theorem real_cg {ht ht' : Nat → Nat} : ∀ n, (∀ p, p < n → ht' p = ht p) → realN ht' n = realN ht n
  | 0, _ => rfl
  | n + 1, h => by
    show realN ht' n + ht' n * 3 ^ n = realN ht n + ht n * 3 ^ n
    rw [real_cg n (fun p hp => h p (by omega)), h n (by omega)]
theorem E_dg {a b : Nat} (h : ∀ p, p < 5 → dg3 a p = dg3 b p) : E a = E b := by
  unfold E; rw [h 0 (by decide), h 1 (by decide), h 2 (by decide), h 3 (by decide), h 4 (by decide)]
theorem E_add : ∀ n, n < 5 → ∀ w, w < 3 ^ n → ∀ co, co < 3 → E w ||| co * 2 ^ (n * 2) = E (w + co * 3 ^ n) := by decide +kernel
theorem bt_tab : ∀ b, b < 32 → ∀ n, n < 5 → ∀ p, p < 5 → p ≠ n → bt (b ||| 1 * 2 ^ n) p = bt b p ∧ bt (b ^^^ 1 * 2 ^ n) p = bt b p := by decide +kernel
theorem bt_full : ∀ n, n < 5 → bt (1 * 2 ^ n - 1) n = false ∧ 1 * 2 ^ n - 1 < 32 := by decide +kernel
def swT (w p q : Nat) : Bool := p == q || (E (swp w p q) == xch (E w) p q && (swp (swp w p q) p q == w && (List.range 5).all (fun k => dg3 (swp w p q) k == if k = q then dg3 w p else if k = p then dg3 w q else dg3 w k)))
theorem swT_t : ∀ w, w < 243 → ∀ p, p < 5 → ∀ q, q < 5 → swT w p q = true := by decide +kernel
theorem swp_tab (w : Nat) (hw : w < 243) (p : Nat) (hp : p < 5) (q : Nat) (hq : q < 5) (hpq : p ≠ q) : E (swp w p q) = xch (E w) p q ∧ swp (swp w p q) p q = w ∧ ∀ k, k < 5 → dg3 (swp w p q) k = if k = q then dg3 w p else if k = p then dg3 w q else dg3 w k := by
  have h := swT_t w hw p hp q hq
  unfold swT at h
  have h1 : (p == q) = false := by simpa using hpq
  rw [h1, Bool.false_or, Bool.and_eq_true, Bool.and_eq_true, beq_iff_eq, beq_iff_eq, List.all_eq_true] at h
  exact ⟨h.1, h.2.1, fun k hk => by simpa using h.2.2 k (List.mem_range.mpr hk)⟩
theorem oc_tab : ∀ n, n < 5 → ocL n ((List.range (3 ^ n)).map E) 2 = (List.range (3 ^ (n + 1))).map E := by decide +kernel
theorem can_tab : ∀ n, n < 6 → canL n = (List.range (3 ^ n)).map E := by decide +kernel
theorem filter_all {f : Nat → Bool} : ∀ {L : List Nat}, (∀ x, x ∈ L → f x = true) → L.filter f = L := fun h => List.filter_eq_self.mpr h
theorem rep_all {N : Nat} {o : Nat → Bool} {L : List Nat} (h : ∀ w, w < N → o w = true) (hL : L.Perm ((List.range N).map E)) : Rep N o L := by
  unfold Rep; rw [filter_all (fun x hx => h x (List.mem_range.mp hx))]; exact hL
theorem all_rep {N : Nat} {o : Nat → Bool} {L : List Nat} (h : ∀ w, w < N → o w = true) (hL : Rep N o L) : L.Perm ((List.range N).map E) := by
  unfold Rep at hL; rwa [filter_all (fun x hx => h x (List.mem_range.mp hx))] at hL
theorem lof_mem {f : Nat → Nat} {c j : Nat} (hj : j < c) : f j ∈ Lof f c := List.mem_map.mpr ⟨j, List.mem_range.mpr hj, rfl⟩
theorem lof_len (f : Nat → Nat) (c : Nat) : (Lof f c).length = c := by unfold Lof; simp
theorem cntP_leN (P : Nat → Bool) : ∀ N, cntP P N ≤ N
  | 0 => Nat.le_refl _
  | N + 1 => by show cntP P N + _ ≤ _; have := cntP_leN P N; split <;> omega
section
variable {n wn t tc sc : Nat} {uw : Bool} {c1 : Nat} {s hf : Nat → Nat} {bg : Bool} {tn sl : Nat} {ht sn : Nat → Nat} {o : Nat → Bool}
theorem Rl.cx (r : Rl n wn t tc sc uw c1 s hf bg tn sl ht sn o) : Cx n wn s ht sn := r.1
theorem Rl.rp (r : Rl n wn t tc sc uw c1 s hf bg tn sl ht sn o) : Rep (3 ^ n) o (Lof hf c1) := r.2.1
theorem Rl.c1e (r : Rl n wn t tc sc uw c1 s hf bg tn sl ht sn o) : c1 = cntP o (3 ^ n) := by rw [← r.rp.len, lof_len]
theorem Rl.c1n (r : Rl n wn t tc sc uw c1 s hf bg tn sl ht sn o) : c1 ≤ 3 ^ n := by rw [r.c1e]; exact cntP_leN _ _
theorem Rl.inv (r : Rl n wn t tc sc uw c1 s hf bg tn sl ht sn o) : n ≤ 5 ∧ wn < 1024 ∧ (∀ p, p < 5 → s p < 1024) ∧ c1 ≤ 243 ∧ (∀ j, j < c1 → hf j < 1024) ∧ t < 5 ∧ (∀ p, p < 5 → sn p < 32) ∧ (∀ p, p < 5 → ht p < 3) := by
  have hc := r.cx
  refine ⟨hc.1, ?_, fun p hp => ?_, Nat.le_trans r.c1n (p3_le hc.1), fun j hj => ?_, r.2.2.1, fun p hp => (hc.2.2.2 p hp).1, hc.2.1⟩
  · rw [hc.2.2.1]; exact E_lt (hc.n3 hc.real)
  · rw [(hc.2.2.2 p hp).2.1]; exact (msk_tab _ (hc.2.2.2 p hp).1).1
  · have h2 := r.rp.mem_iff.mp (lof_mem hj)
    obtain ⟨w, hw, he⟩ := List.mem_map.mp h2
    rw [← he]; exact E_lt (hc.n3 (List.mem_range.mp (List.mem_filter.mp hw).1))
theorem Rl.add (r : Rl n wn t tc sc uw c1 s hf bg tn sl ht sn o) {co : Nat} (hn : n < 5) (hu : bg = false) (hco : co < 3) {g : Nat → Nat} (hg : Lof g (3 * c1) = ocL n (Lof hf c1) 2) :
    Rl (n + 1) (wn ||| co * 2 ^ (n * 2)) t tc sc uw (3 * c1) (upN (lkS s n n) n (mskN n)) g bg tn sl (upN ht n co) (upN (mix (fun k => sn k ||| 1 * 2 ^ n) sn n) n (1 * 2 ^ n - 1)) (fun w => decide (w < 3 ^ (n + 1))) := by
  have hc := r.cx
  have hb := r.2.2.2.2.2.2.2 hu
  refine ⟨⟨by omega, fun p hp => ?_, ?_, fun p hp => ?_⟩, ?_, r.2.2.1, fun _ => by rw [hb.2.1, hb.2.2, Nat.zero_mod], r.2.2.2.2.1, r.2.2.2.2.2.1, r.2.2.2.2.2.2.1, fun _ => ⟨fun w hw => by simpa using hw, hb.2⟩⟩
  · by_cases h : p = n
    · subst h; simpa [upN] using hco
    · simpa [upN, h] using hc.2.1 p hp
  · have h1 : realN (upN ht n co) n = realN ht n := real_cg n (fun p hp => by simp [upN, Nat.ne_of_lt hp])
    have h2 : upN ht n co n = co := by simp [upN]
    show _ = E (realN (upN ht n co) n + upN ht n co n * 3 ^ n)
    rw [h1, h2, hc.2.2.1]
    exact E_add n hn _ hc.real co hco
  · have h5 := hc.2.2.2 p hp
    by_cases h : p = n
    · subst h
      have h6 := bt_full p hn
      have e1 : upN (lkS s p p) p (mskN p) p = mskN p := by simp [upN]
      have e2 : upN (mix (fun k => sn k ||| 1 * 2 ^ p) sn p) p (1 * 2 ^ p - 1) p = 1 * 2 ^ p - 1 := by simp [upN]
      rw [e1, e2]
      exact ⟨h6.2, (msk_full p (by omega)).symm, fun _ => h6.1⟩
    · have e1 : upN (lkS s n n) n (mskN n) p = lkS s n n p := by simp [upN, h]
      have e2 : upN (mix (fun k => sn k ||| 1 * 2 ^ n) sn n) n (1 * 2 ^ n - 1) p = mix (fun k => sn k ||| 1 * 2 ^ n) sn n p := by simp [upN, h]
      rw [e1, e2]
      have h7 := (msk_tab _ h5.1).2 n hn
      by_cases hp2 : p < n
      · rw [mix_lt hp2, show lkS s n n p = s p ||| 3 * 2 ^ (n * 2) by simp [lkS, hp2]]
        exact ⟨h7.2.2.2.1, by rw [h5.2.1, h7.1], fun _ => by rw [(bt_tab _ h5.1 n hn p hp h).1]; exact h5.2.2 hp2⟩
      · rw [mix_ge (by omega), show lkS s n n p = s p by simp [lkS, hp2]]
        exact ⟨h5.1, h5.2.1, fun h8 => by omega⟩
  · refine rep_all (fun w hw => by simpa using hw) ?_
    rw [hg, ← oc_tab n hn]
    have hp := all_rep hb.1 r.rp
    show ((Lof hf c1 ++ addL n 1 (Lof hf c1)) ++ addL n 2 (Lof hf c1)).Perm ((_ ++ addL n 1 _) ++ addL n 2 _)
    exact (hp.append (hp.map _)).append (hp.map _)
theorem Rl.away (r : Rl n wn t tc sc uw c1 s hf bg tn sl ht sn o) {j k : Nat} (hj : j < n) (hk : k < n) (hjk : j ≠ k) :
    Rl n wn t tc sc uw c1 (upN s j (s j ^^^ 3 * 2 ^ (k * 2))) hf bg tn sl ht (upN sn j (sn j ^^^ 1 * 2 ^ k)) o := by
  have hc := r.cx
  refine ⟨⟨hc.1, hc.2.1, hc.2.2.1, fun p hp => ?_⟩, r.2⟩
  have h5 := hc.2.2.2 p hp
  by_cases h : p = j
  · subst h
    have h7 := (msk_tab _ h5.1).2 k (by have := hc.1; omega)
    simp only [upN, if_true]
    exact ⟨h7.2.2.2.2, by rw [h5.2.1, h7.2.1], fun _ => by rw [(bt_tab _ h5.1 k (by have := hc.1; omega) p hp hjk).2]; exact h5.2.2 hj⟩
  · simp only [upN, if_neg h]; exact h5
theorem Rl.borrow (r : Rl n wn t tc sc uw c1 s hf bg tn sl ht sn o) {j k : Nat} (hj : j < n) (hk : k < n) (hjk : j ≠ k) {g : Nat → Nat} {nx : Nat → Bool} (hg : Lof g c1 = (Lof hf c1).map (fun x => xch x j k)) :
    Rl n (xch wn j k) t tc sc true c1 s g true tn sl (upN (upN ht j (ht k)) k (ht j)) sn (mix (fun w => o (swp w j k)) nx (3 ^ n)) := by
  have hc := r.cx
  have h5 := hc.1
  have hht : ∀ p, p < 5 → upN (upN ht j (ht k)) k (ht j) p < 3 := by
    intro p hp
    by_cases h1 : p = k
    · simpa [upN, h1] using hc.2.1 j (by omega)
    · by_cases h2 : p = j
      · simpa [upN, h1, h2, hjk] using hc.2.1 k (by omega)
      · simpa [upN, h1, h2] using hc.2.1 p hp
  have hr' : realN (upN (upN ht j (ht k)) k (ht j)) n < 3 ^ n := realN_lt n (fun p hp => hht p (by omega))
  have hT : ∀ w, w < 3 ^ n → E (swp w j k) = xch (E w) j k ∧ swp (swp w j k) j k = w ∧ ∀ q, q < 5 → dg3 (swp w j k) q = if q = k then dg3 w j else if q = j then dg3 w k else dg3 w q := fun w hw => swp_tab w (hc.n3 hw) j (by omega) k (by omega) hjk
  have hS : ∀ w, w < 3 ^ n → swp w j k < 3 ^ n := fun w hw => (swp_all (by omega) hj hk hw hjk).2
  refine ⟨⟨h5, hht, ?_, hc.2.2.2⟩, ?_, r.2.2.1, r.2.2.2.1, rfl, r.2.2.2.2.2.1, r.2.2.2.2.2.2.1, fun h => absurd h (by decide)⟩
  · rw [hc.2.2.1, ← (hT _ hc.real).1]
    refine E_dg (fun p hp => ?_)
    by_cases hpn : p < n
    · rw [dg_real n (fun q hq => hht q (by omega)) p hpn, (hT _ hc.real).2.2 p hp, hc.dgr hj, hc.dgr hk]
      simp only [upN]
      by_cases h1 : p = k
      · rw [if_pos h1, if_pos h1]
      · rw [if_neg h1, if_neg h1]
        by_cases h2 : p = j
        · rw [if_pos h2, if_pos h2]
        · rw [if_neg h2, if_neg h2, hc.dgr hpn]
    · rw [dg3_big (hS _ hc.real) (by omega), dg3_big hr' (by omega)]
  · have h1 : (Lof g c1).Perm ((((List.range (3 ^ n)).filter o).map (fun w => swp w j k)).map E) := by
      rw [hg]
      refine (r.rp.map _).trans ?_
      rw [List.map_map, List.map_map]
      refine .of_eq (List.map_congr_left (fun w hw => ?_))
      exact ((hT w (List.mem_range.mp (List.mem_filter.mp hw).1)).1).symm
    refine h1.trans (List.Perm.map E ?_)
    refine (List.perm_ext_iff_of_nodup ?_ (List.nodup_range.sublist List.filter_sublist)).mpr (fun w => ?_)
    · refine List.pairwise_map.mpr ?_
      refine List.Pairwise.imp_of_mem ?_ ((List.nodup_range (n := 3 ^ n)).sublist (List.filter_sublist (p := o)))
      intro a b ha hb hab he
      refine hab ?_
      rw [← (hT a (List.mem_range.mp (List.mem_filter.mp ha).1)).2.1, ← (hT b (List.mem_range.mp (List.mem_filter.mp hb).1)).2.1, he]
    · rw [List.mem_map, List.mem_filter, List.mem_range]
      constructor
      · rintro ⟨v, hv, rfl⟩
        have hv2 := List.mem_filter.mp hv
        have hv3 := List.mem_range.mp hv2.1
        exact ⟨hS v hv3, by rw [mix_lt (hS v hv3), (hT v hv3).2.1]; exact hv2.2⟩
      · rintro ⟨hw, ho⟩
        rw [mix_lt hw] at ho
        exact ⟨swp w j k, List.mem_filter.mpr ⟨List.mem_range.mpr (hS w hw), ho⟩, (hT w hw).2.1⟩
theorem Rl.borrowA (r : Rl n wn t tc sc uw c1 s hf bg tn sl ht sn o) {j k : Nat} (hj : j < n) (hk : k < n) (hjk : j ≠ k) : qd (xch wn j k) j = ht k := by
  have hc := r.cx
  have h5 := hc.1
  have hT := swp_tab _ (hc.n3 hc.real) j (by omega) k (by omega) hjk
  have hS := (swp_all (by omega) hj hk hc.real hjk).2
  rw [hc.2.2.1, ← hT.1, E_qd (hc.n3 hS) (by omega), hT.2.2 j (by omega), if_neg hjk, if_pos rfl, hc.dgr hk]
theorem Rl.turn (r : Rl n wn t tc sc uw c1 s hf bg tn sl ht sn o) (hn : 0 < n) {k : Nat} {g : Nat → Nat} {nx : Nat → Bool} (hg : Lof g k = turnL wn (s t) t (Lof hf c1)) :
    Rl n wn (aftN n t) (tc + 1) (if cert wn (s t) t (Lof hf c1) = true then sc else sc + 1) true k s g true (tn + 1) (if mayM sn o n (tn % n) (realN ht n) = true then sl else sl + 1) ht sn (mix (turnM sn o n (tn % n) (realN ht n)) nx (3 ^ n)) := by
  have hc := r.cx
  have h5 := hc.1
  have hT := r.2.2.2.1 hn
  have hT2 : t < n := by rw [hT]; exact Nat.mod_lt _ hn
  have h6 := aft_mod hn hT
  refine ⟨hc, ?_, ?_, fun _ => h6, rfl, by rw [r.2.2.2.2.2.1], ?_, fun h => absurd h (by decide)⟩
  · rw [hg]
    refine (hc.turn r.rp hT2).congr (fun w hw => ?_)
    rw [mix_lt hw, hT]
  · rw [h6]; have := Nat.mod_lt (tn + 1) hn; omega
  · rw [hc.certB r.rp hT2, r.2.2.2.2.2.2.1, ← hT]; rfl
theorem Rl.turnA (r : Rl n wn t tc sc uw c1 s hf bg tn sl ht sn o) (hn : 0 < n) : (if cert wn (s t) t (Lof hf c1) = true then nI (qd wn t) else -1) = tuI sn o n (tn % n) (realN ht n) := by
  have hc := r.cx
  have hT := r.2.2.2.1 hn
  have hT2 : t < n := by rw [hT]; exact Nat.mod_lt _ hn
  rw [hc.certB r.rp hT2, hc.qdr hT2, ← hT]
  unfold tuI
  rw [hc.dgr hT2]; rfl
theorem Rl.say (r : Rl n wn t tc sc uw c1 s hf bg tn sl ht sn o) {k : Nat} {g : Nat → Nat} {f f2 : Nat → Bool} (hg : Lof g k = (Lof hf c1).filter f) (hf2 : ∀ w, w < 3 ^ n → f2 w = f (E w)) :
    Rl n wn t tc sc true k s g true tn sl ht sn (mix (fun w => o w && f2 w) o (3 ^ n)) := by
  refine ⟨r.cx, ?_, r.2.2.1, r.2.2.2.1, rfl, r.2.2.2.2.2.1, r.2.2.2.2.2.2.1, fun h => absurd h (by decide)⟩
  rw [hg]
  exact r.rp.filter f (fun w hw => by rw [mix_lt hw, hf2 w hw])
theorem Rl.begin (r : Rl n wn t tc sc uw c1 s hf bg tn sl ht sn o) {g : Nat → Nat} (hg : Lof g (3 ^ n) = canL n) :
    Rl n wn 0 0 0 false (3 ^ n) s g false 0 0 ht sn (fun w => decide (w < 3 ^ n)) := by
  have hA : ∀ w, w < 3 ^ n → (fun w => decide (w < 3 ^ n)) w = true := fun w hw => by simpa using hw
  refine ⟨r.cx, rep_all hA ?_, by decide, fun _ => (Nat.zero_mod _).symm, rfl, rfl, rfl, fun _ => ⟨hA, rfl, rfl⟩⟩
  rw [hg, can_tab n (by have := r.cx.1; omega)]
theorem Cx.isMl (c : Cx n wn s ht sn) {w co many : Nat} (hw : w < 3 ^ n) : isM n w co many true = (decide (many ≤ hatsN n (E w) co) && decide (hatsN n (E w) co ≤ 5)) := by
  have := have_le w co n
  have h5 := c.1
  rw [c.hat hw co n (Nat.le_refl _)]
  show decide (many ≤ haveN n w co) = _
  have : decide (haveN n w co ≤ 5) = true := by simp; omega
  rw [this, Bool.and_true]
theorem Cx.isMm (c : Cx n wn s ht sn) {w co many : Nat} (hw : w < 3 ^ n) : isM n w co many false = (decide (0 ≤ hatsN n (E w) co) && decide (hatsN n (E w) co ≤ many)) := by
  rw [c.hat hw co n (Nat.le_refl _)]
  show decide (haveN n w co ≤ many) = _
  simp
end
theorem Rl_0 : Rl 0 0 0 0 0 false 1 (fun _ => 0) (upN (fun _ => 0) 0 0) false 0 0 (fun _ => 0) (fun _ => 0) (upN (fun _ => false) 0 true) := by
  refine ⟨⟨by decide, by decide, by decide, by decide⟩, ?_, by decide, fun h => absurd h (by decide), rfl, rfl, rfl, fun _ => ⟨by decide, rfl, rfl⟩⟩
  show List.Perm _ _
  exact .of_eq (by decide)
