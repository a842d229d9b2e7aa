/-! a player more; what the law asks of a game -/
theorem sb_cg {n : Nat} {q q2 : Nat → Bool} (h : ∀ k, k < n → q k = q2 k) : sbN n q = sbN n q2 := by
  have e : ∀ k, b2n n q k = b2n n q2 k := by
    intro k; unfold b2n; split
    · rw [h k (by assumption)]
    · rfl
  simp only [sbN, e]
theorem adS_n (n : Nat) (sn : Nat → Nat → Bool) {p : Nat} (hp : p < n) (k : Nat) : adS n sn p k = (!(p == k) && (k == n || sn p k)) := by
  have : (p == n) = false := by simp; omega
  simp [adS, this]
section
variable {n m wn t tc sc : Nat} {uw : Bool} {c1 : Nat} {s hf : Nat → Nat} {tn sl : Nat} {bg : Bool} {ht : Nat → Nat} {sn : Nat → Nat → Bool} {wy : Nat → Nat → Nat} {o : Nat → Bool}
theorem Rl.add (r : Rl n m wn t tc sc uw c1 s hf tn sl bg ht sn wy o) {co : Nat} (hn : n < 5) (hu : bg = false) (hco : co < 3) {g ht2 : Nat → Nat} {sn2 : Nat → Nat → Bool} {wy2 : Nat → Nat → Nat} {o2 : Nat → Bool} (hg : Lof g (3 * c1) = ocL n (Lof hf c1) 2) (hh : ∀ k, k < n → ht2 k = ht k) (hh2 : ht2 n = co) (hs : ∀ p, p < n + 1 → ∀ k, k < n + 1 → sn2 p k = adS n sn p k) (hw : ∀ w, w < 3 ^ (n + 1) → ∀ k, k < n + 1 → wy2 w k = dg3 w k) (ho : ∀ w, w < 3 ^ (n + 1) → o2 w = true) :
    Rl (n + 1) (3 ^ (n + 1)) (wn ||| co * 2 ^ (n * 2)) t tc sc uw (3 * c1) (upN (lkS s n n) n (mskN n)) g tn sl bg ht2 sn2 wy2 o2 := by
  have hF := r.fresh hu
  have hht : ∀ p, p < n + 1 → ht2 p < 3 := by
    intro p hp
    by_cases h : p = n
    · subst h; rw [hh2]; exact hco
    · rw [hh p (by omega)]; exact r.gx.2.1 p (by omega)
  have hh4 : ∀ p, p < n + 1 → ht2 p < 4 := fun p hp => by have := hht p hp; omega
  have hwn : wn ||| co * 2 ^ (n * 2) = EW (n + 1) ht2 := by
    have hcl : co * 2 ^ (n * 2) < 1024 := by
      have h4 : ∀ a, a < 3 → ∀ p, p < 5 → a * 2 ^ (p * 2) < 1024 := by decide
      exact h4 co hco n hn
    refine qd_ext (or_k r.gx.w hcl) (EW_lt hh4) (fun k hk => ?_)
    rw [qd_or, qd_sh _ (by omega) n hn k hk, r.gx.2.2.1]
    by_cases h1 : k = n
    · subst h1
      rw [EW_hi r.gx.h4 (Nat.le_refl _) hk, if_pos rfl, EW_qd hh4 (by omega) (by omega), hh2, Nat.zero_or]
    · rw [if_neg h1, Nat.or_zero]
      by_cases h2 : k < n
      · rw [EW_qd r.gx.h4 r.n5 h2, EW_qd hh4 (by omega) (by omega), hh k h2]
      · rw [EW_hi r.gx.h4 (by omega) hk, EW_hi hh4 (by omega) hk]
  have hL : (Lof g (3 * c1)).Perm ((List.range (3 ^ (n + 1))).map (fun w => EW (n + 1) (wy2 w))) := by
    have e1 : (List.range (3 ^ (n + 1))).map (fun w => EW (n + 1) (wy2 w)) = (List.range (3 ^ (n + 1))).map E := List.map_congr_left (fun w h => EW_E (List.mem_range.mp h) (hw w (List.mem_range.mp h)))
    rw [hg, e1, ← oc_tab n hn]
    have h1 := all_rep hF.2.1 r.rp
    have e2 : (List.range m).map (fun w => EW n (wy w)) = (List.range (3 ^ n)).map E := by
      rw [r.m3]
      refine List.map_congr_left (fun w h => EW_E (List.mem_range.mp h) (hF.1 w ?_))
      rw [r.m3]; exact List.mem_range.mp h
    rw [e2] at h1
    show ((Lof hf c1 ++ addL n 1 (Lof hf c1)) ++ addL n 2 (Lof hf c1)).Perm ((_ ++ addL n 1 _) ++ addL n 2 _)
    exact (h1.append (h1.map _)).append (h1.map _)
  have hrp : Rep (3 ^ (n + 1)) o2 (fun w => EW (n + 1) (wy2 w)) (Lof g (3 * c1)) := rep_all ho hL
  refine ⟨⟨by omega, hht, hwn, fun p hp => ?_⟩, rfl, fun w h k hk => by rw [hw w h k hk]; exact dg3_lt _ _, hrp, ?_, r.t5, fun _ => by rw [hF.2.2.1, hF.2.2.2, Nat.zero_mod], r.ub, r.tt, r.ss, r.sb, fun _ => ⟨hw, ho, hF.2.2⟩⟩
  · by_cases h : p = n
    · subst h
      have h6 := bt_full p hn
      rw [upN_s]
      have e : 1 * 2 ^ p - 1 = sbN (p + 1) (sn2 p) := by
        refine bt_ext h6.1 (sb_all _ _).1 (fun q hq => ?_)
        rw [h6.2 q hq, (sb_all (p + 1) (sn2 p)).2 q hq]
        by_cases hqk : q < p + 1
        · rw [hs p (by omega) q hqk]
          by_cases e1 : q < p
          · have e0 : (p == q) = false := by simp; omega
            simp [adS, e0, hqk, e1]
          · have e2 : q = p := by omega
            rw [e2]; simp [adS]
        · simp [hqk]; omega
      refine ⟨?_, fun _ => ⟨?_, ?_⟩⟩
      · rw [← msk_full p (by omega)]; exact (msk_tab _ h6.1).1
      · rw [← msk_full p (by omega), e]
      · rw [hs p (by omega) p (by omega)]; simp [adS]
    · rw [upN_n _ _ h]
      have h5 := r.gx.2.2.2 p hp
      by_cases hp2 : p < n
      · rw [show lkS s n n p = s p ||| 3 * 2 ^ (n * 2) by simp [lkS, hp2]]
        obtain ⟨h2, h3⟩ := h5.2 hp2
        have hb := sb_all n (sn p)
        have h7 := (msk_tab _ hb.1).2 n hn
        have e : sbN n (sn p) ||| 1 * 2 ^ n = sbN (n + 1) (sn2 p) := by
          refine bt_ext h7.2.2.2.1 (sb_all _ _).1 (fun q hq => ?_)
          rw [(bt_tab _ hb.1 n hn q hq).1, hb.2 q hq, (sb_all (n + 1) (sn2 p)).2 q hq]
          by_cases hqk : q < n + 1
          · rw [hs p (by omega) q hqk, adS_n n sn hp2]
            by_cases hqn : q = n
            · subst hqn
              have e0 : (p == q) = false := by simpa using h
              simp [e0]
            · have hq2 : q < n := by omega
              by_cases hqp : q = p
              · subst hqp; simp [h3, hqn]
              · have e0 : (p == q) = false := by simp; omega
                simp [e0, hqn, hq2, hqk]
                exact Bool.or_comm _ _
          · have e0 : (q == n) = false := by simp; omega
            have e1 : ¬ q < n := by omega
            simp [hqk, e0, e1]
        refine ⟨?_, fun _ => ⟨?_, ?_⟩⟩
        · rw [h2, ← h7.1]; exact (msk_tab _ h7.2.2.2.1).1
        · rw [h2, ← h7.1, e]
        · rw [hs p (by omega) p (by omega)]; simp [adS]
      · rw [show lkS s n n p = s p by simp [lkS, hp2]]
        exact ⟨h5.1, fun h9 => absurd h9 (by omega)⟩
  · obtain ⟨v, hv, hev⟩ := real_ex (n + 1) ht2 hht
    refine hrp.mem.mpr ⟨v, hv, ho v hv, ?_⟩
    show EW (n + 1) (wy2 v) = _
    rw [hwn]
    exact EW_cg (fun k hk => by rw [hw v hv k hk, hev k hk])
/-! the law's own questions -/
theorem cnt_pos {P : Nat → Bool} {L : List Nat} {x : Nat} (hx : x ∈ L) (hP : P x = true) : 1 ≤ L.countP P := List.countP_pos_iff.mpr ⟨x, hx, hP⟩
theorem Rl.c1pos (r : Rl n m wn t tc sc uw c1 s hf tn sl bg ht sn wy o) : 1 ≤ c1 := by
  have := cnt_pos (P := fun _ => true) r.now rfl
  rw [List.countP_true, Lof_len] at this; exact this
def sumC (L : List Nat) (p : Nat) : Nat → Nat
  | 0 => 0
  | c + 1 => sumC L p c + L.countP (fun x => qd x p == c)
theorem sumC3 (p : Nat) : ∀ (L : List Nat), (∀ x, x ∈ L → qd x p < 3) → sumC L p 3 = L.length
  | [], _ => rfl
  | x :: t, h => by
    have ih := sumC3 p t (fun y hy => h y (List.mem_cons_of_mem _ hy))
    have hx := h x List.mem_cons_self
    simp only [sumC, List.countP_cons, List.length_cons] at ih ⊢
    rcases (show qd x p = 0 ∨ qd x p = 1 ∨ qd x p = 2 by omega) with e | e | e <;> simp [e] <;> omega
theorem sumC_le (L : List Nat) (p : Nat) : ∀ c, sumC L p c ≤ c * L.length
  | 0 => by simp [sumC]
  | c + 1 => by
    have := sumC_le L p c
    have h2 := List.countP_le_length (p := fun x => qd x p == c) (l := L)
    simp only [sumC, Nat.succ_mul]; omega
theorem Rl.sum3 (r : Rl n m wn t tc sc uw c1 s hf tn sl bg ht sn wy o) {p : Nat} (hp : p < n) : sumC (Lof hf c1) p 3 = c1 := by
  rw [sumC3 p _ (fun x hx => (r.mem hx).2 p hp), Lof_len]
theorem Rl.hat1 (r : Rl n m wn t tc sc uw c1 s hf tn sl bg ht sn wy o) (p : Nat) : 1 ≤ (Lof hf c1).countP (fun x => qd x p == qd wn p) := cnt_pos r.now (by simp)
theorem Rl.poss1 (r : Rl n m wn t tc sc uw c1 s hf tn sl bg ht sn wy o) (p : Nat) : 1 ≤ possN wn (s p) (Lof hf c1) := cnt_pos r.now (agr_self _ _)
theorem Rl.all_q (r : Rl n m wn t tc sc uw c1 s hf tn sl bg ht sn wy o) {p : Nat} (h : allN wn p (Lof hf c1) = true) : ∀ x, x ∈ Lof hf c1 → qd x p = qd wn p := by
  intro x hx
  have h1 : (Lof hf c1).countP (fun x => qd x p == qd wn p) = (Lof hf c1).length := beq_iff_eq.mp h
  have := List.countP_eq_length.mp h1 x hx
  exact beq_iff_eq.mp this
theorem Rl.all_knw (r : Rl n m wn t tc sc uw c1 s hf tn sl bg ht sn wy o) {k : Nat} (mk : Nat) (h : allN wn k (Lof hf c1) = true) : knwN wn mk k (Lof hf c1) = true :=
  knw_iff.mpr ⟨wn, r.now, agr_self _ _, fun y hy _ => r.all_q h y hy⟩
theorem Rl.one_cert (r : Rl n m wn t tc sc uw c1 s hf tn sl bg ht sn wy o) {p : Nat} (h : possN wn (s p) (Lof hf c1) = 1) : cert wn (s p) p (Lof hf c1) = true := by
  refine cert_iff.mpr ⟨wn, r.now, agr_self _ _, fun y hy ha => ?_⟩
  have h1 : ((Lof hf c1).filter (fun x => agr wn x (s p))).length = 1 := by rw [← List.countP_eq_length_filter]; exact h
  obtain ⟨a, e⟩ := List.length_eq_one_iff.mp h1
  have m1 : wn ∈ [a] := by rw [← e]; exact List.mem_filter.mpr ⟨r.now, agr_self _ _⟩
  have m2 : y ∈ [a] := by rw [← e]; exact List.mem_filter.mpr ⟨hy, ha⟩
  rw [List.mem_singleton.mp m1, List.mem_singleton.mp m2]
theorem agr_tr {x y z mk : Nat} (h : agr x y mk = true) : agr y z mk = agr x z mk := by
  have h1 : (y ^^^ x) &&& mk = 0 := beq_iff_eq.mp h
  have e : (z ^^^ y) &&& mk = (z ^^^ x) &&& mk := by
    have : z ^^^ y = (z ^^^ x) ^^^ (y ^^^ x) := by
      rw [Nat.xor_assoc, Nat.xor_comm y x, ← Nat.xor_assoc x x y, Nat.xor_self, Nat.zero_xor]
    rw [this, Nat.and_xor_distrib_right, h1, Nat.xor_zero]
  simp only [agr, e]
theorem Rl.sure_self (r : Rl n m wn t tc sc uw c1 s hf tn sl bg ht sn wy o) (p : Nat) : sureL wn (s p) (s p) p (Lof hf c1) = cert wn (s p) p (Lof hf c1) := by
  refine bool_eq ⟨fun h => ?_, fun h => ?_⟩
  · have := List.all_eq_true.mp h wn r.now
    rw [agr_self] at this
    have h2 : wbc (s p) p (Lof hf c1) wn = true := by simpa using this
    exact cert_iff.mpr ((wbc_iff r.gx.w (fun y hy => (r.mem hy).1)).mp h2)
  · refine List.all_eq_true.mpr (fun x hx => ?_)
    cases ha : agr wn x (s p) with
    | false => rfl
    | true =>
      have h2 : wbc (s p) p (Lof hf c1) x = true := (wbc_iff (r.mem hx).1 (fun y hy => (r.mem hy).1)).mpr (Sure.cg (fun y _ => (agr_tr ha).symm) (cert_iff.mp h))
      simp [h2]
theorem Rl.sure_cert (r : Rl n m wn t tc sc uw c1 s hf tn sl bg ht sn wy o) {p k : Nat} (h : sureL wn (s p) (s k) k (Lof hf c1) = true) : cert wn (s k) k (Lof hf c1) = true := by
  have := List.all_eq_true.mp h wn r.now
  rw [agr_self] at this
  have h2 : wbc (s k) k (Lof hf c1) wn = true := by simpa using this
  exact cert_iff.mpr ((wbc_iff r.gx.w (fun y hy => (r.mem hy).1)).mp h2)
theorem Rl.see_ne (r : Rl n m wn t tc sc uw c1 s hf tn sl bg ht sn wy o) {p k : Nat} (hp : p < n) (hk : k < n) (h : seeN s p k = true) : p ≠ k := by
  intro e
  subst e
  rw [r.gx.see hp hp, r.gx.s0 hp] at h
  exact absurd h (by decide)
theorem Rl.see_knw (r : Rl n m wn t tc sc uw c1 s hf tn sl bg ht sn wy o) {p k : Nat} (hp : p < n) (hk : k < n) (h : seeN s p k = true) : knwN wn (s p) k (Lof hf c1) = true := by
  rw [r.gx.see hp hk] at h
  refine knw_iff.mpr ⟨wn, r.now, agr_self _ _, fun y hy ha => ?_⟩
  obtain ⟨w, hw, -, rfl⟩ := r.rp.mem.mp hy
  have ha : agr wn (EW n (wy w)) (s p) = true := ha
  rw [r.gx.2.2.1, r.gx.ag r.gx.h4 (r.wy4 w hw) hp] at ha
  have := agS_iff.mp ha k hk h
  show qd (EW n (wy w)) k = qd wn k
  rw [EW_qd (r.wy4 w hw) r.n5 hk, r.gx.qdh hk, this]
theorem Rl.hold_now (r : Rl n m wn t tc sc uw c1 s hf tn sl bg ht sn wy o) (p k : Nat) : (!((pcol wn (s p) k (Lof hf c1) &&& 1 * 2 ^ qd wn k) == 0)) = true := by
  rw [pcol_bit _ _ _ _ _ (qd_lt _ _)]
  exact List.any_eq_true.mpr ⟨wn, r.now, by simp [agr_self]⟩
def srtN (b : Nat) : Nat → Nat
  | 0 => 0
  | c + 1 => srtN b c + if (!((b &&& 1 * 2 ^ c) == 0)) = true then 1 else 0
theorem srtN_le (b : Nat) : ∀ c, srtN b c ≤ c
  | 0 => Nat.le_refl 0
  | c + 1 => by
    have := srtN_le b c
    simp only [srtN]; split <;> omega
theorem srt_tab : ∀ b, b < 8 → (srtN b 3 == 1) = one1 b := by decide +kernel
theorem pcol_8 (wn mk q : Nat) (L : List Nat) (h : ∀ x, x ∈ L → qd x q < 3) : pcol wn mk q L < 8 := by
  have : ∀ (L : List Nat) (a : Nat), a < 8 → (∀ x, x ∈ L → qd x q < 3) → L.foldl (fun a x => if agr wn x mk then a ||| (1 * 2 ^ qd x q) else a) a < 8 := by
    intro L
    induction L with
    | nil => intro a h _; exact h
    | cons x t ih =>
      intro a ha hL
      rw [List.foldl_cons]
      refine ih _ ?_ (fun y hy => hL y (List.mem_cons_of_mem _ hy))
      split
      · refine Nat.or_lt_two_pow (n := 3) ha ?_
        have h8 : ∀ k, k < 3 → 1 * 2 ^ k < 2 ^ 3 := by decide
        exact h8 _ (hL x List.mem_cons_self)
      · exact ha
  exact this L 0 (by omega) h
theorem Rl.sorts (r : Rl n m wn t tc sc uw c1 s hf tn sl bg ht sn wy o) {k : Nat} (p : Nat) (hk : k < n) : knwN wn (s p) k (Lof hf c1) = (srtN (pcol wn (s p) k (Lof hf c1)) 3 == 1) :=
  (srt_tab _ (pcol_8 _ _ _ _ (fun x hx => (r.mem hx).2 k hk))).symm
theorem sure_less {L L2 : List Nat} {P : Nat → Bool} {q x : Nat} (h : Sure L P q) (hs : ∀ y, y ∈ L2 → y ∈ L) (hx : x ∈ L2) (hP : P x = true) : Sure L2 P q := by
  obtain ⟨z, hz, hPz, ha⟩ := h
  exact ⟨x, hx, hP, fun y hy hPy => (ha y (hs y hy) hPy).trans (ha x (hs x hx) hP).symm⟩
theorem cert_less {wn mk p : Nat} {L L2 : List Nat} (h : cert wn mk p L = true) (hs : ∀ y, y ∈ L2 → y ∈ L) (hx : wn ∈ L2) : cert wn mk p L2 = true :=
  cert_iff.mpr (sure_less (cert_iff.mp h) hs hx (agr_self _ _))
theorem certN_less {wn : Nat} {s : Nat → Nat} {L L2 : List Nat} (hs : ∀ y, y ∈ L2 → y ∈ L) (hx : wn ∈ L2) : ∀ k, certN wn s L k ≤ certN wn s L2 k
  | 0 => Nat.le_refl 0
  | k + 1 => by
    have := certN_less (s := s) hs hx k
    simp only [certN]
    cases hc : cert wn (s k) k L with
    | false => simp; split <;> omega
    | true => rw [cert_less hc hs hx]; simp; omega
theorem certN_mono {wn : Nat} {s : Nat → Nat} {L : List Nat} {a : Nat} : ∀ {b : Nat}, a ≤ b → certN wn s L a ≤ certN wn s L b
  | 0, h => by rw [show a = 0 by omega]; exact Nat.le_refl _
  | b + 1, h => by
    by_cases hab : a = b + 1
    · rw [hab]; exact Nat.le_refl _
    · have := certN_mono (wn := wn) (s := s) (L := L) (a := a) (b := b) (by omega)
      simp only [certN]; omega
theorem certN_pos {wn : Nat} {s : Nat → Nat} {L : List Nat} {p k : Nat} (hp : p < k) (h : cert wn (s p) p L = true) : 1 ≤ certN wn s L k := by
  have h1 := certN_mono (wn := wn) (s := s) (L := L) (show p + 1 ≤ k from hp)
  simp only [certN, h] at h1
  simp at h1; omega
theorem told_mem {wn p : Nat} {L : List Nat} (h : wn ∈ L) : wn ∈ toldL wn p L := List.mem_filter.mpr ⟨h, by simp⟩
theorem Rl.told1 (r : Rl n m wn t tc sc uw c1 s hf tn sl bg ht sn wy o) {p : Nat} (hp : p < n) : 1 ≤ certN wn s (toldL wn p (Lof hf c1)) n := by
  refine certN_pos hp (cert_iff.mpr ⟨wn, told_mem r.now, agr_self _ _, fun y hy _ => ?_⟩)
  exact beq_iff_eq.mp (List.mem_filter.mp hy).2
theorem Rl.told2 (r : Rl n m wn t tc sc uw c1 s hf tn sl bg ht sn wy o) {p k : Nat} (hk : k ≤ n) : certN wn s (Lof hf c1) k ≤ certN wn s (toldL wn p (Lof hf c1)) n :=
  Nat.le_trans (certN_mono hk) (certN_less (fun y hy => (List.mem_filter.mp hy).1) (told_mem r.now) n)
theorem turn_sub {wn mk p : Nat} {L : List Nat} : ∀ y, y ∈ turnL wn mk p L → y ∈ L := by
  intro y hy
  unfold turnL at hy
  split at hy
  · exact (List.mem_filter.mp (List.mem_filter.mp hy).1).1
  · exact (List.mem_filter.mp hy).1
theorem turn_len {wn mk p k c1 : Nat} {g hf : Nat → Nat} (h : Lof g k = turnL wn mk p (Lof hf c1)) : k ≤ c1 := by
  have h1 : (turnL wn mk p (Lof hf c1)).length ≤ (Lof hf c1).length := by
    unfold turnL
    split
    · exact Nat.le_trans (List.length_filter_le _ _) (List.length_filter_le _ _)
    · exact List.length_filter_le _ _
  rw [← h, Lof_len, Lof_len] at h1; exact h1
theorem turn_all {wn mk p k c1 : Nat} {g hf : Nat → Nat} (h : Lof g k = turnL wn mk p (Lof hf c1)) (hc : cert wn mk p (Lof hf c1) = true) : allN wn p (Lof g k) = true := by
  have h1 : (Lof g k).countP (fun x => qd x p == qd wn p) = (Lof g k).length := by
    rw [h, turnL, if_pos hc]
    exact List.countP_eq_length.mpr (fun x hx => (List.mem_filter.mp hx).2)
  unfold allN; rw [h1]; simp
end
/-- at the start: no players -/
theorem Rl_0 {ht rs : Nat → Nat} {sn : Nat → Nat → Bool} {wy : Nat → Nat → Nat} {o : Nat → Bool} (ho : ∀ w, w < 1 → o w = true) : Rl 0 1 0 0 0 0 false 1 (fun _ => 0) (upN (fun _ => 0) 0 0) 0 0 false ht sn wy o := by
  have hrp : Rep 1 o (fun w => EW 0 (wy w)) (Lof (upN (fun _ => 0) 0 0) 1) := rep_all ho (.of_eq (by
    show [upN (fun _ => 0) 0 0 0] = [EW 0 (wy 0)]
    simp [upN, EW, dgt]))
  refine ⟨⟨by decide, fun p hp => absurd hp (by omega), by simp [EW, dgt], fun p hp => ⟨by show 0 < 1024; omega, fun h => absurd h (by omega)⟩⟩, rfl, fun w _ k hk => absurd hk (by omega), hrp, ?_, by decide, fun h => absurd h (by decide), rfl, rfl, rfl, Nat.le_refl _, fun _ => ⟨fun w _ k hk => absurd hk (by omega), ho, rfl, rfl⟩⟩
  exact Lof_mem.mpr ⟨0, by omega, by simp [upN]⟩
