/-! what the law's own model answers -/
def cntP (P : Nat → Bool) : Nat → Nat
  | 0 => 0
  | w + 1 => cntP P w + if P w = true then 1 else 0
theorem cntP_le (P : Nat → Bool) : ∀ i, cntP P i ≤ i
  | 0 => Nat.le_refl 0
  | w + 1 => by
    have := cntP_le P w
    simp only [cntP]; split <;> omega
theorem p3_243 : ∀ n, n ≤ 5 → 3 ^ n ≤ 243 := by decide
def agS (q : Nat → Bool) (a b : Nat → Nat) : Nat → Bool
  | 0 => true
  | k + 1 => agS q a b k && (!q k || a k == b k)
theorem agS_iff {q : Nat → Bool} {a b : Nat → Nat} : ∀ {n : Nat}, agS q a b n = true ↔ ∀ k, k < n → q k = true → a k = b k
  | 0 => by simp [agS]
  | n + 1 => by
    simp only [agS, Bool.and_eq_true, agS_iff (n := n)]
    constructor
    · rintro ⟨h1, h2⟩ k hk hq
      rcases Nat.lt_or_ge k n with h | h
      · exact h1 k h hq
      · have : k = n := by omega
        subst this
        simpa [hq] using h2
    · intro h
      refine ⟨fun k hk => h k (by omega), ?_⟩
      cases hq : q n with
      | false => rfl
      | true => simpa using h n (by omega) hq
theorem agS_f {q : Nat → Bool} {a b : Nat → Nat} {n i : Nat} (hi : i < n) (hq : q i = true) (h : a i ≠ b i) : agS q a b n = false := by
  cases hc : agS q a b n with
  | false => rfl
  | true => exact absurd (agS_iff.mp hc i hi hq) h
def sur (P : Nat → Bool) (f : Nat → Nat) (m : Nat) : Bool := (List.range m).any (fun w => P w && (List.range m).all (fun v => !P v || f v == f w))
theorem sur_iff {P : Nat → Bool} {f : Nat → Nat} {m : Nat} : sur P f m = true ↔ ∃ w, w < m ∧ P w = true ∧ ∀ v, v < m → P v = true → f v = f w := by
  unfold sur
  rw [List.any_eq_true]
  constructor
  · rintro ⟨w, hw, h⟩
    rw [Bool.and_eq_true, List.all_eq_true] at h
    refine ⟨w, List.mem_range.mp hw, h.1, fun v hv hp => ?_⟩
    have := h.2 v (List.mem_range.mpr hv)
    simpa [hp] using this
  · rintro ⟨w, hw, hp, h⟩
    refine ⟨w, List.mem_range.mpr hw, ?_⟩
    rw [Bool.and_eq_true, List.all_eq_true]
    refine ⟨hp, fun v hv => ?_⟩
    cases hq : P v with
    | false => rfl
    | true => simp [h v (List.mem_range.mp hv) hq]
theorem sur_f {P : Nat → Bool} {f : Nat → Nat} {m u v : Nat} (hu : u < m) (hv : v < m) (h1 : P u = true) (h2 : P v = true) (h : f u ≠ f v) : sur P f m = false := by
  cases hc : sur P f m with
  | false => rfl
  | true =>
    obtain ⟨w, hw, -, h9⟩ := sur_iff.mp hc
    exact absurd ((h9 u hu h1).trans (h9 v hv h2).symm) h
theorem sur_0 {P : Nat → Bool} {f : Nat → Nat} {m : Nat} (h : ∀ w, w < m → P w = false) : sur P f m = false := by
  cases hc : sur P f m with
  | false => rfl
  | true =>
    obtain ⟨w, hw, hp, -⟩ := sur_iff.mp hc
    rw [h w hw] at hp; cases hp
/-- a player sees two ways alike; is sure of a colour in one -/
def suP (n : Nat) (sn wy : Nat → Nat → Bool) : Nat := 0
abbrev okS (n : Nat) (sn : Nat → Nat → Bool) (wy : Nat → Nat → Nat) (o : Nat → Bool) (p : Nat) (f : Nat → Nat) (w : Nat) : Bool := o w && agS (sn p) f (wy w) n
def surS (n m : Nat) (sn : Nat → Nat → Bool) (wy : Nat → Nat → Nat) (o : Nat → Bool) (p q : Nat) (f : Nat → Nat) : Bool := sur (okS n sn wy o p f) (fun w => wy w q) m
def havS (f : Nat → Nat) (c : Nat) : Nat → Nat
  | 0 => 0
  | k + 1 => havS f c k + if f k = c then 1 else 0
theorem havS_le (f : Nat → Nat) (c : Nat) : ∀ k, havS f c k ≤ k
  | 0 => Nat.le_refl 0
  | k + 1 => by
    have := havS_le f c k
    simp only [havS]; split <;> omega
def cerS (n m : Nat) (sn : Nat → Nat → Bool) (ht : Nat → Nat) (wy : Nat → Nat → Nat) (o : Nat → Bool) : Nat → Nat
  | 0 => 0
  | p + 1 => cerS n m sn ht wy o p + if surS n m sn wy o p p ht = true then 1 else 0
theorem cerS_le (n m : Nat) (sn : Nat → Nat → Bool) (ht : Nat → Nat) (wy : Nat → Nat → Nat) (o : Nat → Bool) : ∀ k, cerS n m sn ht wy o k ≤ k
  | 0 => Nat.le_refl 0
  | k + 1 => by
    have := cerS_le n m sn ht wy o k
    simp only [cerS]; split <;> omega
theorem oI_ge {c : Option Nat} (hc : ∀ v, c = some v → v < 4) (h : ¬ oI c < 0) : ∃ v, c = some v := by
  cases c with
  | none => exact absurd (by decide) h
  | some v => exact ⟨v, rfl⟩
theorem oI_lt {c : Option Nat} (hc : ∀ v, c = some v → v < 4) (h : oI c < 0) : c = none := by
  cases c with
  | none => rfl
  | some v => exact absurd h (nI_pos (by have := hc v rfl; omega))
/-- what the search for a colour knows so far: P, f below i -/
def surI (P : Nat → Bool) (f : Nat → Nat) (i : Nat) (c : Option Nat) : Prop := match c with
  | none => ∀ w, w < i → P w = false
  | some v => (∃ w, w < i ∧ P w = true ∧ f w = v) ∧ ∀ w, w < i → P w = true → f w = v
theorem surI_n {P : Nat → Bool} {f : Nat → Nat} {i : Nat} {c : Option Nat} (h : surI P f i c) (hp : P i = false) : surI P f (i + 1) c := by
  cases c with
  | none =>
    intro w hw
    rcases Nat.lt_or_ge w i with h1 | h1
    · exact h w h1
    · rw [show w = i by omega]; exact hp
  | some v =>
    refine ⟨?_, fun w hw hq => ?_⟩
    · obtain ⟨w, h1, h2, h3⟩ := h.1
      exact ⟨w, by omega, h2, h3⟩
    · rcases Nat.lt_or_ge w i with h1 | h1
      · exact h.2 w h1 hq
      · rw [show w = i by omega, hp] at hq; cases hq
theorem surI_0 {P : Nat → Bool} {f : Nat → Nat} {i : Nat} {c : Option Nat} (hc : c = none) (h : surI P f i c) (hp : P i = true) : surI P f (i + 1) (some (f i)) := by
  subst hc
  refine ⟨⟨i, by omega, hp, rfl⟩, fun w hw hq => ?_⟩
  rcases Nat.lt_or_ge w i with h1 | h1
  · rw [h w h1] at hq; cases hq
  · rw [show w = i by omega]
theorem surI_s {P : Nat → Bool} {f : Nat → Nat} {i : Nat} {c : Option Nat} {v : Nat} (hc : c = some v) (h : surI P f i c) (hp : P i = true) (he : v = f i) : surI P f (i + 1) (some (f i)) := by
  subst hc
  subst he
  refine ⟨⟨i, by omega, hp, rfl⟩, fun w hw hq => ?_⟩
  rcases Nat.lt_or_ge w i with h1 | h1
  · exact h.2 w h1 hq
  · rw [show w = i by omega]
theorem surI_x {P : Nat → Bool} {f : Nat → Nat} {i m : Nat} {c : Option Nat} {v : Nat} (hc : c = some v) (h : surI P f i c) (hi : i < m) (hp : P i = true) (he : v ≠ f i) : sur P f m = false := by
  subst hc
  obtain ⟨w, h1, h2, h3⟩ := h.1
  exact sur_f (by omega) hi h2 hp (by rw [h3]; exact he)
theorem surI_t {P : Nat → Bool} {f : Nat → Nat} {m : Nat} {c : Option Nat} {v : Nat} (hc : c = some v) (h : surI P f m c) : sur P f m = true := by
  subst hc
  obtain ⟨w, h1, h2, h3⟩ := h.1
  exact sur_iff.mpr ⟨w, h1, h2, fun u hu hp => (h.2 u hu hp).trans h3.symm⟩
theorem surI_e {P : Nat → Bool} {f : Nat → Nat} {m : Nat} {c : Option Nat} (hc : c = none) (h : surI P f m c) : sur P f m = false := by
  subst hc
  exact sur_0 h
section
variable {l : Launch} {dC : Nat → ClassId} {dI : Nat → Nat → Nat} {cI cZ cS cW : ClassId}

set_option maxHeartbeats 4000000 in
set_option maxRecDepth 100000 in
theorem m_X2_agree (b0 b1 b2 b3 b4 n m tn sl : Nat) (bg : Bool) (ht rs : Nat → Nat) (sn : Nat → Nat → Bool) (rw : Nat → Nat) (wy : Nat → Nat → Nat) (o : Nat → Bool) (p ra rb : Nat) (fa fb : Nat → Nat) (hn : n ≤ 5) (hp : p < n) (hma : (ra, eI cI n fa) ∈ sW cI cZ cS cW b0 b1 b2 b3 b4 n m tn sl bg ht rs sn rw wy o) (hmb : (rb, eI cI n fb) ∈ sW cI cZ cS cW b0 b1 b2 b3 b4 n m tn sl bg ht rs sn rw wy o) (hfa : ∀ k, k < n → fa k < 4) (hfb : ∀ k, k < n → fb k < 4) : Mp l yX2_agree ws_X2_agree 0 0 (dC, dI) (tyL cI cZ cS cW) [.ref b0, .int (nI p), .ref ra, .ref rb] (sW cI cZ cS cW b0 b1 b2 b3 b4 n m tn sl bg ht rs sn rw wy o) (fun r => r = bI (agS (sn p) fa fb n)) := by
  refine Mi_of (by decide +kernel) (Nat.le_of_ble_eq_true rfl) ?_
  intro pr ev sx mi ag bl me cd Q ls S hP hK hD hZ hl ret
  obtain ⟨hx, hb, hml, hown, hts⟩ := id S
  have hown : sx.vm.findClass RX2 = some mi.cls := hown
  have hS : va_S (wIn (sW cI cZ cS cW b0 b1 b2 b3 b4 n m tn sl bg ht rs sn rw wy o)) sx.heap sx.heap [] := va_S.rf
  have hl : lv_has ls 5 [(0, .ref b0), (1, .int (nI p)), (2, .ref ra), (3, .ref rb)] := hl
  refine lv_iconst (v := nI 0) hx hb dX2_agree_0 (by decide) ?_
  refine lv_istore (lv' := [(4, .int (nI 0)), (0, .ref b0), (1, .int (nI p)), (2, .ref ra), (3, .ref rb)]) hx hb dX2_agree_1 hl (by decide) rfl (fun ls hl => ?_)
  have lp3 : ∀ (kf : Nat) (i : Nat), n < i + kf → (i ≤ n) → (agS (sn p) fa fb i = true) → ∀ (H : Heap) (locs : List Loc), va_P (dC, dI) vwCl (sW cI cZ cS cW b0 b1 b2 b3 b4 n m tn sl bg ht rs sn rw wy o) H → va_D (wIn (sW cI cZ cS cW b0 b1 b2 b3 b4 n m tn sl bg ht rs sn rw wy o)) (sW cI cZ cS cW b0 b1 b2 b3 b4 n m tn sl bg ht rs sn rw wy o) → va_S (wIn (sW cI cZ cS cW b0 b1 b2 b3 b4 n m tn sl bg ht rs sn rw wy o)) sx.heap H locs → ∀ ls : Array Slot, lv_has ls 5 [(4, .int (nI i)), (0, .ref b0), (1, .int (nI p)), (2, .ref ra), (3, .ref rb)] → W pr l ev (rmB 0 0) sx mi ag bl me cd H locs 0 0 Q (F0 mi 3 ls []) := by
    intro kf
    induction kf with
    | zero => intro i hkf hi hall; exact absurd hkf (by omega)
    | succ kf ih3 =>
      intro i hkf hi hall H locs hP hD hS ls hl
      refine lv_iload hx hb dX2_agree_3 (lv_at hl 0 rfl) ?_
      refine lv_aload_n hx hb dX2_agree_5 rfl (lv_at hl 1 rfl) ?_
      refine va_get (D := (dC, dI)) (ci := 2) (v := .int (nI n)) (C := RX2) (T := TX2) (N := 8) hx hb hts inX2 hown hK hP 0 rfl rfl 0 (by decide) (hts _ q_fl_X2_27) (fun _ h9 => h9) rfl dX2_agree_6 ?_
      refine icN_ge (tgt := 43) hx hb dX2_agree_9 (by decide) (by omega) (by omega) (fun c_9 => ?_) (fun c_9 => ?_)
      · refine lv_iconst (v := nI 1) hx hb dX2_agree_43 (by decide) ?_
        exact ret _ (sW cI cZ cS cW b0 b1 b2 b3 b4 n m tn sl bg ht rs sn rw wy o) _ _ _ _ dX2_agree_44 rfl ⟨rfl, bI_t (by rw [show n = i by omega]; exact hall)⟩ (List.Perm.refl _) hP hS
      · refine lv_aload_n hx hb dX2_agree_12 rfl (lv_at hl 1 rfl) ?_
        refine va_get (D := (dC, dI)) (ci := 2) (v := .ref b2) (C := RX2) (T := TX2) (N := 8) hx hb hts inX2 hown hK hP 0 rfl rfl 5 (by decide) (hts _ q_fl_X2_15) (fun _ h9 => h9) rfl dX2_agree_13 ?_
        refine lv_iload_n hx hb dX2_agree_16 rfl (lv_at hl 2 rfl) ?_
        refine aa_ld hx hb hK hP 2 2 rfl rfl (j := p) (by omega) (by omega) dX2_agree_17 ?_
        refine lv_iload hx hb dX2_agree_18 (lv_at hl 0 rfl) ?_
        refine za_ld hx hb hK (hP.one (List.mem_append_right _ (List.mem_append_left _ (rB_mem (by omega))))) 0 1 rfl rfl (j := i) (by omega) (by omega) dX2_agree_20 ?_
        refine ifB_eq (tgt := 37) hx hb dX2_agree_21 (by decide) (fun c_21 => ?_) (fun c_21 => ?_)
        · refine lv_iinc (v := nI (i + 1)) (lv' := [(4, .int (nI (i + 1))), (0, .ref b0), (1, .int (nI p)), (2, .ref ra), (3, .ref rb)]) hx hb dX2_agree_37 hl (k := 0) rfl (nI_add _ _) (by decide) rfl (fun ls hl => ?_)
          refine lv_goto (tgt := 3) hx hb dX2_agree_40 (by decide) ?_
          exact ih3 (i + 1) (by omega) (by omega) (by simp [agS, hall, c_21]) _ _ hP hD hS _ (lv_sub hl [0, 1, 2, 3, 4] rfl)
        · refine lv_aload_n hx hb dX2_agree_24 rfl (lv_at hl 3 rfl) ?_
          refine lv_iload hx hb dX2_agree_25 (lv_at hl 0 rfl) ?_
          refine ia_ld hx hb hK (hP.one hma) 0 0 rfl rfl (j := i) (by omega) (by omega) dX2_agree_27 ?_
          refine lv_aload_n hx hb dX2_agree_28 rfl (lv_at hl 4 rfl) ?_
          refine lv_iload hx hb dX2_agree_29 (lv_at hl 0 rfl) ?_
          refine ia_ld hx hb hK (hP.one hmb) 0 0 rfl rfl (j := i) (by omega) (by omega) dX2_agree_31 ?_
          refine icN_eq (tgt := 37) hx hb dX2_agree_32 (by decide) (by have := hfa i (by omega); omega) (by have := hfb i (by omega); omega) (fun c_32 => ?_) (fun c_32 => ?_)
          · refine lv_iinc (v := nI (i + 1)) (lv' := [(4, .int (nI (i + 1))), (0, .ref b0), (1, .int (nI p)), (2, .ref ra), (3, .ref rb)]) hx hb dX2_agree_37 hl (k := 0) rfl (nI_add _ _) (by decide) rfl (fun ls hl => ?_)
            refine lv_goto (tgt := 3) hx hb dX2_agree_40 (by decide) ?_
            exact ih3 (i + 1) (by omega) (by omega) (by simp [agS, hall, c_32]) _ _ hP hD hS _ (lv_sub hl [0, 1, 2, 3, 4] rfl)
          · refine lv_iconst (v := nI 0) hx hb dX2_agree_35 (by decide) ?_
            exact ret _ (sW cI cZ cS cW b0 b1 b2 b3 b4 n m tn sl bg ht rs sn rw wy o) _ _ _ _ dX2_agree_36 rfl ⟨rfl, bI_f (agS_f (by omega) c_21 c_32)⟩ (List.Perm.refl _) hP hS
  exact lp3 (n + 1) 0 (by omega) (by omega) rfl _ _ hP hD hS _ (lv_sub hl [0, 1, 2, 3, 4] rfl)

set_option maxHeartbeats 4000000 in
set_option maxRecDepth 100000 in
theorem m_X2_isSure (b0 b1 b2 b3 b4 n m tn sl : Nat) (bg : Bool) (ht rs : Nat → Nat) (sn : Nat → Nat → Bool) (rw : Nat → Nat) (wy : Nat → Nat → Nat) (o : Nat → Bool) (p q rx : Nat) (fx : Nat → Nat) (hn : n ≤ 5) (hp : p < n) (hq9 : q < n) (hm : m < 2 ^ 31) (hmx : (rx, eI cI n fx) ∈ sW cI cZ cS cW b0 b1 b2 b3 b4 n m tn sl bg ht rs sn rw wy o) (hfx : ∀ k, k < n → fx k < 4) (hwy : ∀ w, w < m → ∀ k, k < n → wy w k < 4) : Mp l yX2_isSure ws_X2_isSure 1 24 (dC, dI) (tyL cI cZ cS cW) [.ref b0, .int (nI p), .int (nI q), .ref rx] (sW cI cZ cS cW b0 b1 b2 b3 b4 n m tn sl bg ht rs sn rw wy o) (fun r => r = bI (surS n m sn wy o p q fx)) := by
  refine Mi_of (by decide +kernel) (Nat.le_of_ble_eq_true rfl) ?_
  intro pr ev sx mi ag bl me cd Q ls S hP hK hD hZ hl ret
  obtain ⟨hx, hb, hml, hown, hts⟩ := id S
  have hown : sx.vm.findClass RX2 = some mi.cls := hown
  have hS : va_S (wIn (sW cI cZ cS cW b0 b1 b2 b3 b4 n m tn sl bg ht rs sn rw wy o)) sx.heap sx.heap [] := va_S.rf
  have hl : lv_has ls 6 [(0, .ref b0), (1, .int (nI p)), (2, .int (nI q)), (3, .ref rx)] := hl
  refine lv_iconst (v := (-1)) hx hb dX2_isSure_0 (by decide) ?_
  refine lv_istore (lv' := [(4, .int (-1)), (0, .ref b0), (1, .int (nI p)), (2, .int (nI q)), (3, .ref rx)]) hx hb dX2_isSure_1 hl (by decide) rfl (fun ls hl => ?_)
  refine lv_iconst (v := nI 0) hx hb dX2_isSure_3 (by decide) ?_
  refine lv_istore (lv' := [(5, .int (nI 0)), (4, .int (-1)), (0, .ref b0), (1, .int (nI p)), (2, .int (nI q)), (3, .ref rx)]) hx hb dX2_isSure_4 hl (by decide) rfl (fun ls hl => ?_)
  have lp6 : ∀ (kf : Nat) (i : Nat) (c : Option Nat), m < i + kf → (i ≤ m) → (∀ v, c = some v → v < 4) → (surI (okS n sn wy o p fx) (fun w => wy w q) i c) → ∀ (H : Heap) (locs : List Loc), va_P (dC, dI) vwCl (sW cI cZ cS cW b0 b1 b2 b3 b4 n m tn sl bg ht rs sn rw wy o) H → va_D (wIn (sW cI cZ cS cW b0 b1 b2 b3 b4 n m tn sl bg ht rs sn rw wy o)) (sW cI cZ cS cW b0 b1 b2 b3 b4 n m tn sl bg ht rs sn rw wy o) → va_S (wIn (sW cI cZ cS cW b0 b1 b2 b3 b4 n m tn sl bg ht rs sn rw wy o)) sx.heap H locs → ∀ ls : Array Slot, lv_has ls 6 [(5, .int (nI i)), (4, .int (oI c)), (0, .ref b0), (1, .int (nI p)), (2, .int (nI q)), (3, .ref rx)] → W pr l ev (rmB 1 24) sx mi ag bl me cd H locs 0 0 Q (F0 mi 6 ls []) := by
    intro kf
    induction kf with
    | zero => intro i c hkf hi hc4 hc; exact absurd hkf (by omega)
    | succ kf ih6 =>
      intro i c hkf hi hc4 hc H locs hP hD hS ls hl
      refine lv_iload hx hb dX2_isSure_6 (lv_at hl 0 rfl) ?_
      refine lv_aload_n hx hb dX2_isSure_8 rfl (lv_at hl 2 rfl) ?_
      refine va_get (D := (dC, dI)) (ci := 2) (v := .ref b3) (C := RX2) (T := TX2) (N := 8) hx hb hts inX2 hown hK hP 0 rfl rfl 6 (by decide) (hts _ q_fl_X2_20) (fun _ h9 => h9) rfl dX2_isSure_9 ?_
      refine va_alen (v := nI m) hx hb hK hP 3 3 rfl rfl rfl dX2_isSure_12 ?_
      refine icN_ge (tgt := 83) hx hb dX2_isSure_13 (by decide) (by omega) (by omega) (fun c_13 => ?_) (fun c_13 => ?_)
      · refine lv_iload hx hb dX2_isSure_83 (lv_at hl 1 rfl) ?_
        refine lv_if_lt (tgt := 92) hx hb dX2_isSure_85 (by decide) (fun c_85 => ?_) (fun c_85 => ?_)
        · refine lv_iconst (v := nI 0) hx hb dX2_isSure_92 (by decide) ?_
          exact ret _ (sW cI cZ cS cW b0 b1 b2 b3 b4 n m tn sl bg ht rs sn rw wy o) _ _ _ _ dX2_isSure_93 rfl ⟨rfl, bI_f (surI_e (oI_lt hc4 c_85) (by rw [show m = i by omega]; exact hc))⟩ (List.Perm.refl _) hP hS
        · refine lv_iconst (v := nI 1) hx hb dX2_isSure_88 (by decide) ?_
          refine lv_goto (tgt := 93) hx hb dX2_isSure_89 (by decide) ?_
          exact ret _ (sW cI cZ cS cW b0 b1 b2 b3 b4 n m tn sl bg ht rs sn rw wy o) _ _ _ _ dX2_isSure_93 rfl ⟨rfl, bI_t (by obtain ⟨v, hv⟩ := oI_ge hc4 c_85; exact surI_t hv (by rw [show m = i by omega]; exact hc))⟩ (List.Perm.refl _) hP hS
      · refine lv_aload_n hx hb dX2_isSure_16 rfl (lv_at hl 2 rfl) ?_
        refine va_get (D := (dC, dI)) (ci := 2) (v := .ref b4) (C := RX2) (T := TX2) (N := 8) hx hb hts inX2 hown hK hP 0 rfl rfl 7 (by decide) (hts _ q_fl_X2_24) (fun _ h9 => h9) rfl dX2_isSure_17 ?_
        refine lv_iload hx hb dX2_isSure_20 (lv_at hl 0 rfl) ?_
        refine za_ld hx hb hK hP 4 1 rfl rfl (j := i) (by omega) (by omega) dX2_isSure_22 ?_
        refine ifB_eq (tgt := 77) hx hb dX2_isSure_23 (by decide) (fun c_23 => ?_) (fun c_23 => ?_)
        · refine lv_iinc (v := nI (i + 1)) (lv' := [(5, .int (nI (i + 1))), (4, .int (oI c)), (0, .ref b0), (1, .int (nI p)), (2, .int (nI q)), (3, .ref rx)]) hx hb dX2_isSure_77 hl (k := 0) rfl (nI_add _ _) (by decide) rfl (fun ls hl => ?_)
          refine lv_goto (tgt := 6) hx hb dX2_isSure_80 (by decide) ?_
          exact ih6 (i + 1) c (by omega) (by omega) hc4 (surI_n hc (by simp [okS, c_23])) _ _ hP hD hS _ (lv_sub hl [0, 1, 2, 3, 4, 5] rfl)
        · refine lv_aload_n hx hb dX2_isSure_26 rfl (lv_at hl 2 rfl) ?_
          refine lv_iload_n hx hb dX2_isSure_27 rfl (lv_at hl 3 rfl) ?_
          refine lv_aload_n hx hb dX2_isSure_28 rfl (lv_at hl 5 rfl) ?_
          refine lv_aload_n hx hb dX2_isSure_29 rfl (lv_at hl 2 rfl) ?_
          refine va_get (D := (dC, dI)) (ci := 2) (v := .ref b3) (C := RX2) (T := TX2) (N := 8) hx hb hts inX2 hown hK hP 0 rfl rfl 6 (by decide) (hts _ q_fl_X2_20) (fun _ h9 => h9) rfl dX2_isSure_30 ?_
          refine lv_iload hx hb dX2_isSure_33 (lv_at hl 0 rfl) ?_
          refine aa_ld hx hb hK hP 3 3 rfl rfl (j := i) (by omega) (by omega) dX2_isSure_35 ?_
          refine call_VpS (As := [.int (nI p), .ref rx, .ref (rw i)]) (rest := []) S (m_X2_agree b0 b1 b2 b3 b4 n m tn sl bg ht rs sn rw wy o p rx (rw i) fx (wy i) hn (by omega) hmx (List.mem_append_right _ (List.mem_append_right _ (rB_mem (by omega)))) hfx (hwy i (by omega))) g_X2_X2_agree hd_X2_agree ⟨Nat.le_of_ble_eq_true rfl, Nat.le_of_ble_eq_true rfl⟩ ⟨Nat.zero_le _, Nat.zero_le _⟩ hP hD hK hS hZ (List.Sublist.refl _) 0 rfl rfl hl.1 rfl (Nat.le_of_ble_eq_true rfl) dX2_isSure_36 (fun r H locs hq hP hS => ?_)
          obtain rfl := hq
          refine ifB_ne (tgt := 45) hx hb dX2_isSure_39 (by decide) (fun c_39 => ?_) (fun c_39 => ?_)
          · refine lv_iload hx hb dX2_isSure_45 (lv_at hl 1 rfl) ?_
            refine lv_if_lt (tgt := 66) hx hb dX2_isSure_47 (by decide) (fun c_47 => ?_) (fun c_47 => ?_)
            · refine lv_aload_n hx hb dX2_isSure_66 rfl (lv_at hl 2 rfl) ?_
              refine va_get (D := (dC, dI)) (ci := 2) (v := .ref b3) (C := RX2) (T := TX2) (N := 8) hx hb hts inX2 hown hK hP 0 rfl rfl 6 (by decide) (hts _ q_fl_X2_20) (fun _ h9 => h9) rfl dX2_isSure_67 ?_
              refine lv_iload hx hb dX2_isSure_70 (lv_at hl 0 rfl) ?_
              refine aa_ld hx hb hK hP 3 3 rfl rfl (j := i) (by omega) (by omega) dX2_isSure_72 ?_
              refine lv_iload_n hx hb dX2_isSure_73 rfl (lv_at hl 4 rfl) ?_
              refine ia_ld hx hb hK (hP.one (List.mem_append_right _ (List.mem_append_right _ (rB_mem (by omega))))) 0 0 rfl rfl (j := q) (by omega) (by omega) dX2_isSure_74 ?_
              refine lv_istore (lv' := [(4, .int (nI (wy i q))), (5, .int (nI i)), (0, .ref b0), (1, .int (nI p)), (2, .int (nI q)), (3, .ref rx)]) hx hb dX2_isSure_75 hl (by decide) rfl (fun ls hl => ?_)
              refine lv_iinc (v := nI (i + 1)) (lv' := [(5, .int (nI (i + 1))), (4, .int (nI (wy i q))), (0, .ref b0), (1, .int (nI p)), (2, .int (nI q)), (3, .ref rx)]) hx hb dX2_isSure_77 hl (k := 1) rfl (nI_add _ _) (by decide) rfl (fun ls hl => ?_)
              refine lv_goto (tgt := 6) hx hb dX2_isSure_80 (by decide) ?_
              exact ih6 (i + 1) (some (wy i q)) (by omega) (by omega) (fun v hv => by cases hv; exact hwy i (by omega) q hq9) (surI_0 (oI_lt hc4 c_47) hc (by simp [okS, c_23, c_39])) _ _ hP hD hS _ (lv_sub hl [0, 1, 2, 3, 4, 5] rfl)
            · refine lv_iload hx hb dX2_isSure_50 (lv_at hl 1 rfl) ?_
              refine lv_aload_n hx hb dX2_isSure_52 rfl (lv_at hl 2 rfl) ?_
              refine va_get (D := (dC, dI)) (ci := 2) (v := .ref b3) (C := RX2) (T := TX2) (N := 8) hx hb hts inX2 hown hK hP 0 rfl rfl 6 (by decide) (hts _ q_fl_X2_20) (fun _ h9 => h9) rfl dX2_isSure_53 ?_
              refine lv_iload hx hb dX2_isSure_56 (lv_at hl 0 rfl) ?_
              refine aa_ld hx hb hK hP 3 3 rfl rfl (j := i) (by omega) (by omega) dX2_isSure_58 ?_
              refine lv_iload_n hx hb dX2_isSure_59 rfl (lv_at hl 4 rfl) ?_
              refine ia_ld hx hb hK (hP.one (List.mem_append_right _ (List.mem_append_right _ (rB_mem (by omega))))) 0 0 rfl rfl (j := q) (by omega) (by omega) dX2_isSure_60 ?_
              refine lv_icmp_eq (tgt := 66) hx hb dX2_isSure_61 (by decide) (fun c_61 => ?_) (fun c_61 => ?_)
              · refine lv_aload_n hx hb dX2_isSure_66 rfl (lv_at hl 2 rfl) ?_
                refine va_get (D := (dC, dI)) (ci := 2) (v := .ref b3) (C := RX2) (T := TX2) (N := 8) hx hb hts inX2 hown hK hP 0 rfl rfl 6 (by decide) (hts _ q_fl_X2_20) (fun _ h9 => h9) rfl dX2_isSure_67 ?_
                refine lv_iload hx hb dX2_isSure_70 (lv_at hl 0 rfl) ?_
                refine aa_ld hx hb hK hP 3 3 rfl rfl (j := i) (by omega) (by omega) dX2_isSure_72 ?_
                refine lv_iload_n hx hb dX2_isSure_73 rfl (lv_at hl 4 rfl) ?_
                refine ia_ld hx hb hK (hP.one (List.mem_append_right _ (List.mem_append_right _ (rB_mem (by omega))))) 0 0 rfl rfl (j := q) (by omega) (by omega) dX2_isSure_74 ?_
                refine lv_istore (lv' := [(4, .int (nI (wy i q))), (5, .int (nI i)), (0, .ref b0), (1, .int (nI p)), (2, .int (nI q)), (3, .ref rx)]) hx hb dX2_isSure_75 hl (by decide) rfl (fun ls hl => ?_)
                refine lv_iinc (v := nI (i + 1)) (lv' := [(5, .int (nI (i + 1))), (4, .int (nI (wy i q))), (0, .ref b0), (1, .int (nI p)), (2, .int (nI q)), (3, .ref rx)]) hx hb dX2_isSure_77 hl (k := 1) rfl (nI_add _ _) (by decide) rfl (fun ls hl => ?_)
                refine lv_goto (tgt := 6) hx hb dX2_isSure_80 (by decide) ?_
                exact ih6 (i + 1) (some (wy i q)) (by omega) (by omega) (fun v hv => by cases hv; exact hwy i (by omega) q hq9) (by obtain ⟨v, hv⟩ := oI_ge hc4 c_47; exact surI_s hv hc (by simp [okS, c_23, c_39]) ((nI_eq (by have := hc4 v hv; omega) (by have := hwy i (by omega) q hq9; omega)).mp (by rw [hv] at c_61; exact c_61))) _ _ hP hD hS _ (lv_sub hl [0, 1, 2, 3, 4, 5] rfl)
              · refine lv_iconst (v := nI 0) hx hb dX2_isSure_64 (by decide) ?_
                exact ret _ (sW cI cZ cS cW b0 b1 b2 b3 b4 n m tn sl bg ht rs sn rw wy o) _ _ _ _ dX2_isSure_65 rfl ⟨rfl, bI_f (by obtain ⟨v, hv⟩ := oI_ge hc4 c_47; exact surI_x hv hc (by omega) (by simp [okS, c_23, c_39]) (fun e => c_61 (by rw [hv, e]; rfl)))⟩ (List.Perm.refl _) hP hS
          · refine lv_goto (tgt := 77) hx hb dX2_isSure_42 (by decide) ?_
            refine lv_iinc (v := nI (i + 1)) (lv' := [(5, .int (nI (i + 1))), (4, .int (oI c)), (0, .ref b0), (1, .int (nI p)), (2, .int (nI q)), (3, .ref rx)]) hx hb dX2_isSure_77 hl (k := 0) rfl (nI_add _ _) (by decide) rfl (fun ls hl => ?_)
            refine lv_goto (tgt := 6) hx hb dX2_isSure_80 (by decide) ?_
            exact ih6 (i + 1) c (by omega) (by omega) hc4 (surI_n hc (by simp [okS, c_39])) _ _ hP hD hS _ (lv_sub hl [0, 1, 2, 3, 4, 5] rfl)
  exact lp6 (m + 1) 0 none (by omega) (by omega) (fun v hv => by cases hv) (fun w hw => absurd hw (by omega)) _ _ hP hD hS _ (lv_sub hl [0, 1, 2, 3, 4, 5] rfl)

set_option maxHeartbeats 4000000 in
set_option maxRecDepth 100000 in
theorem m_X2_have (b0 b1 b2 b3 b4 n m tn sl : Nat) (bg : Bool) (ht rs : Nat → Nat) (sn : Nat → Nat → Bool) (rw : Nat → Nat) (wy : Nat → Nat → Nat) (o : Nat → Bool) (ra co : Nat) (fa : Nat → Nat) (hn : n ≤ 5) (hma : (ra, eI cI n fa) ∈ sW cI cZ cS cW b0 b1 b2 b3 b4 n m tn sl bg ht rs sn rw wy o) (hfa : ∀ k, k < n → fa k < 4) (hco : co < 4) : Mp l yX2_have ws_X2_have 0 0 (dC, dI) (tyL cI cZ cS cW) [.ref b0, .ref ra, .int (nI co)] (sW cI cZ cS cW b0 b1 b2 b3 b4 n m tn sl bg ht rs sn rw wy o) (fun r => r = nI (havS fa co n)) := by
  refine Mi_of (by decide +kernel) (Nat.le_of_ble_eq_true rfl) ?_
  intro pr ev sx mi ag bl me cd Q ls S hP hK hD hZ hl ret
  obtain ⟨hx, hb, hml, hown, hts⟩ := id S
  have hown : sx.vm.findClass RX2 = some mi.cls := hown
  have hS : va_S (wIn (sW cI cZ cS cW b0 b1 b2 b3 b4 n m tn sl bg ht rs sn rw wy o)) sx.heap sx.heap [] := va_S.rf
  have hl : lv_has ls 8 [(0, .ref b0), (1, .ref ra), (2, .int (nI co))] := hl
  refine lv_iconst (v := nI 0) hx hb dX2_have_0 (by decide) ?_
  refine lv_istore_n (lv' := [(3, .int (nI 0)), (0, .ref b0), (1, .ref ra), (2, .int (nI co))]) hx hb dX2_have_1 rfl hl (by decide) rfl (fun ls hl => ?_)
  refine lv_aload_n hx hb dX2_have_2 rfl (lv_at hl 2 rfl) ?_
  refine lv_astore (lv' := [(4, .ref ra), (3, .int (nI 0)), (0, .ref b0), (1, .ref ra), (2, .int (nI co))]) hx hb dX2_have_3 hl (by decide) rfl (fun ls hl => ?_)
  refine lv_aload hx hb dX2_have_5 (lv_at hl 0 rfl) ?_
  refine va_alen (v := nI n) hx hb hK (hP.one hma) 0 0 rfl rfl rfl dX2_have_7 ?_
  refine lv_istore (lv' := [(5, .int (nI n)), (4, .ref ra), (3, .int (nI 0)), (0, .ref b0), (1, .ref ra), (2, .int (nI co))]) hx hb dX2_have_8 hl (by decide) rfl (fun ls hl => ?_)
  refine lv_iconst (v := nI 0) hx hb dX2_have_10 (by decide) ?_
  refine lv_istore (lv' := [(6, .int (nI 0)), (5, .int (nI n)), (4, .ref ra), (3, .int (nI 0)), (0, .ref b0), (1, .ref ra), (2, .int (nI co))]) hx hb dX2_have_11 hl (by decide) rfl (fun ls hl => ?_)
  have lp13 : ∀ (kf : Nat) (i : Nat) (a : Nat), n < i + kf → (i ≤ n) → (a = havS fa co i) → ∀ (H : Heap) (locs : List Loc), va_P (dC, dI) vwCl (sW cI cZ cS cW b0 b1 b2 b3 b4 n m tn sl bg ht rs sn rw wy o) H → va_D (wIn (sW cI cZ cS cW b0 b1 b2 b3 b4 n m tn sl bg ht rs sn rw wy o)) (sW cI cZ cS cW b0 b1 b2 b3 b4 n m tn sl bg ht rs sn rw wy o) → va_S (wIn (sW cI cZ cS cW b0 b1 b2 b3 b4 n m tn sl bg ht rs sn rw wy o)) sx.heap H locs → ∀ ls : Array Slot, lv_has ls 8 [(6, .int (nI i)), (5, .int (nI n)), (4, .ref ra), (3, .int (nI a)), (0, .ref b0), (2, .int (nI co))] → W pr l ev (rmB 0 0) sx mi ag bl me cd H locs 0 0 Q (F0 mi 13 ls []) := by
    intro kf
    induction kf with
    | zero => intro i a hkf hi ha; exact absurd hkf (by omega)
    | succ kf ih13 =>
      intro i a hkf hi ha H locs hP hD hS ls hl
      refine lv_iload hx hb dX2_have_13 (lv_at hl 0 rfl) ?_
      refine lv_iload hx hb dX2_have_15 (lv_at hl 1 rfl) ?_
      refine icN_ge (tgt := 47) hx hb dX2_have_17 (by decide) (by omega) (by omega) (fun c_17 => ?_) (fun c_17 => ?_)
      · refine lv_iload_n hx hb dX2_have_47 rfl (lv_at hl 3 rfl) ?_
        exact ret _ (sW cI cZ cS cW b0 b1 b2 b3 b4 n m tn sl bg ht rs sn rw wy o) _ _ _ _ dX2_have_48 rfl ⟨rfl, by rw [ha, show i = n by omega]⟩ (List.Perm.refl _) hP hS
      · refine lv_aload hx hb dX2_have_20 (lv_at hl 2 rfl) ?_
        refine lv_iload hx hb dX2_have_22 (lv_at hl 0 rfl) ?_
        refine ia_ld hx hb hK (hP.one hma) 0 0 rfl rfl (j := i) (by omega) (by omega) dX2_have_24 ?_
        refine lv_istore (lv' := [(7, .int (nI (fa i))), (6, .int (nI i)), (5, .int (nI n)), (4, .ref ra), (3, .int (nI a)), (0, .ref b0), (2, .int (nI co))]) hx hb dX2_have_25 hl (by decide) rfl (fun ls hl => ?_)
        refine lv_iload_n hx hb dX2_have_27 rfl (lv_at hl 4 rfl) ?_
        refine lv_iload hx hb dX2_have_28 (lv_at hl 0 rfl) ?_
        refine lv_iload_n hx hb dX2_have_30 rfl (lv_at hl 6 rfl) ?_
        refine icN_ne (tgt := 38) hx hb dX2_have_31 (by decide) (by have := hfa i (by omega); omega) (by omega) (fun c_31 => ?_) (fun c_31 => ?_)
        · refine lv_iconst (v := nI 0) hx hb dX2_have_38 (by decide) ?_
          refine lv_iadd hx hb dX2_have_39 ?_
          refine W_i (y := nI (a + 0)) (nI_add _ _) ?_
          refine lv_istore_n (lv' := [(3, .int (nI (a + 0))), (7, .int (nI (fa i))), (6, .int (nI i)), (5, .int (nI n)), (4, .ref ra), (0, .ref b0), (2, .int (nI co))]) hx hb dX2_have_40 rfl hl (by decide) rfl (fun ls hl => ?_)
          refine lv_iinc (v := nI (i + 1)) (lv' := [(6, .int (nI (i + 1))), (3, .int (nI (a + 0))), (7, .int (nI (fa i))), (5, .int (nI n)), (4, .ref ra), (0, .ref b0), (2, .int (nI co))]) hx hb dX2_have_41 hl (k := 2) rfl (nI_add _ _) (by decide) rfl (fun ls hl => ?_)
          refine lv_goto (tgt := 13) hx hb dX2_have_44 (by decide) ?_
          exact ih13 (i + 1) _ (by omega) (by omega) (by simp [havS, ha, c_31]) _ _ hP hD hS _ (lv_sub hl [0, 3, 4, 1, 5, 6] rfl)
        · refine lv_iconst (v := nI 1) hx hb dX2_have_34 (by decide) ?_
          refine lv_goto (tgt := 39) hx hb dX2_have_35 (by decide) ?_
          refine lv_iadd hx hb dX2_have_39 ?_
          refine W_i (y := nI (a + 1)) (nI_add _ _) ?_
          refine lv_istore_n (lv' := [(3, .int (nI (a + 1))), (7, .int (nI (fa i))), (6, .int (nI i)), (5, .int (nI n)), (4, .ref ra), (0, .ref b0), (2, .int (nI co))]) hx hb dX2_have_40 rfl hl (by decide) rfl (fun ls hl => ?_)
          refine lv_iinc (v := nI (i + 1)) (lv' := [(6, .int (nI (i + 1))), (3, .int (nI (a + 1))), (7, .int (nI (fa i))), (5, .int (nI n)), (4, .ref ra), (0, .ref b0), (2, .int (nI co))]) hx hb dX2_have_41 hl (k := 2) rfl (nI_add _ _) (by decide) rfl (fun ls hl => ?_)
          refine lv_goto (tgt := 13) hx hb dX2_have_44 (by decide) ?_
          exact ih13 (i + 1) _ (by omega) (by omega) (by simp [havS, ha, c_31]) _ _ hP hD hS _ (lv_sub hl [0, 3, 4, 1, 5, 6] rfl)
  exact lp13 (n + 1) 0 0 (by omega) (by omega) rfl _ _ hP hD hS _ (lv_sub hl [0, 1, 2, 3, 4, 6] rfl)

set_option maxHeartbeats 4000000 in
set_option maxRecDepth 100000 in
theorem m_X2_many (b0 b1 b2 b3 b4 n m tn sl : Nat) (bg : Bool) (ht rs : Nat → Nat) (sn : Nat → Nat → Bool) (rw : Nat → Nat) (wy : Nat → Nat → Nat) (o : Nat → Bool) (hm : m < 2 ^ 31) : Mp l yX2_many ws_X2_many 0 0 (dC, dI) (tyL cI cZ cS cW) [.ref b0] (sW cI cZ cS cW b0 b1 b2 b3 b4 n m tn sl bg ht rs sn rw wy o) (fun r => r = nI (cntP o m)) := by
  refine Mi_of (by decide +kernel) (Nat.le_of_ble_eq_true rfl) ?_
  intro pr ev sx mi ag bl me cd Q ls S hP hK hD hZ hl ret
  obtain ⟨hx, hb, hml, hown, hts⟩ := id S
  have hown : sx.vm.findClass RX2 = some mi.cls := hown
  have hS : va_S (wIn (sW cI cZ cS cW b0 b1 b2 b3 b4 n m tn sl bg ht rs sn rw wy o)) sx.heap sx.heap [] := va_S.rf
  have hl : lv_has ls 6 [(0, .ref b0)] := hl
  refine lv_iconst (v := nI 0) hx hb dX2_many_0 (by decide) ?_
  refine lv_istore_n (lv' := [(1, .int (nI 0)), (0, .ref b0)]) hx hb dX2_many_1 rfl hl (by decide) rfl (fun ls hl => ?_)
  refine lv_aload_n hx hb dX2_many_2 rfl (lv_at hl 1 rfl) ?_
  refine va_get (D := (dC, dI)) (ci := 2) (v := .ref b4) (C := RX2) (T := TX2) (N := 8) hx hb hts inX2 hown hK hP 0 rfl rfl 7 (by decide) (hts _ q_fl_X2_24) (fun _ h9 => h9) rfl dX2_many_3 ?_
  refine lv_astore_n (lv' := [(2, .ref b4), (1, .int (nI 0)), (0, .ref b0)]) hx hb dX2_many_6 rfl hl (by decide) rfl (fun ls hl => ?_)
  refine lv_aload_n hx hb dX2_many_7 rfl (lv_at hl 0 rfl) ?_
  refine va_alen (v := nI m) hx hb hK hP 4 1 rfl rfl rfl dX2_many_8 ?_
  refine lv_istore_n (lv' := [(3, .int (nI m)), (2, .ref b4), (1, .int (nI 0)), (0, .ref b0)]) hx hb dX2_many_9 rfl hl (by decide) rfl (fun ls hl => ?_)
  refine lv_iconst (v := nI 0) hx hb dX2_many_10 (by decide) ?_
  refine lv_istore (lv' := [(4, .int (nI 0)), (3, .int (nI m)), (2, .ref b4), (1, .int (nI 0)), (0, .ref b0)]) hx hb dX2_many_11 hl (by decide) rfl (fun ls hl => ?_)
  have lp13 : ∀ (kf : Nat) (i : Nat) (a : Nat), m < i + kf → (i ≤ m) → (a = cntP o i) → ∀ (H : Heap) (locs : List Loc), va_P (dC, dI) vwCl (sW cI cZ cS cW b0 b1 b2 b3 b4 n m tn sl bg ht rs sn rw wy o) H → va_D (wIn (sW cI cZ cS cW b0 b1 b2 b3 b4 n m tn sl bg ht rs sn rw wy o)) (sW cI cZ cS cW b0 b1 b2 b3 b4 n m tn sl bg ht rs sn rw wy o) → va_S (wIn (sW cI cZ cS cW b0 b1 b2 b3 b4 n m tn sl bg ht rs sn rw wy o)) sx.heap H locs → ∀ ls : Array Slot, lv_has ls 6 [(4, .int (nI i)), (3, .int (nI m)), (2, .ref b4), (1, .int (nI a)), (0, .ref b0)] → W pr l ev (rmB 0 0) sx mi ag bl me cd H locs 0 0 Q (F0 mi 13 ls []) := by
    intro kf
    induction kf with
    | zero => intro i a hkf hi ha; exact absurd hkf (by omega)
    | succ kf ih13 =>
      intro i a hkf hi ha H locs hP hD hS ls hl
      refine lv_iload hx hb dX2_many_13 (lv_at hl 0 rfl) ?_
      refine lv_iload_n hx hb dX2_many_15 rfl (lv_at hl 1 rfl) ?_
      refine icN_ge (tgt := 44) hx hb dX2_many_16 (by decide) (by omega) (by omega) (fun c_16 => ?_) (fun c_16 => ?_)
      · refine lv_iload_n hx hb dX2_many_44 rfl (lv_at hl 3 rfl) ?_
        exact ret _ (sW cI cZ cS cW b0 b1 b2 b3 b4 n m tn sl bg ht rs sn rw wy o) _ _ _ _ dX2_many_45 rfl ⟨rfl, by rw [ha, show i = m by omega]⟩ (List.Perm.refl _) hP hS
      · refine lv_aload_n hx hb dX2_many_19 rfl (lv_at hl 2 rfl) ?_
        refine lv_iload hx hb dX2_many_20 (lv_at hl 0 rfl) ?_
        refine za_ld hx hb hK hP 4 1 rfl rfl (j := i) (by omega) (by omega) dX2_many_22 ?_
        refine lv_istore (lv' := [(5, .int (bI (o i))), (4, .int (nI i)), (3, .int (nI m)), (2, .ref b4), (1, .int (nI a)), (0, .ref b0)]) hx hb dX2_many_23 hl (by decide) rfl (fun ls hl => ?_)
        refine lv_iload_n hx hb dX2_many_25 rfl (lv_at hl 4 rfl) ?_
        refine lv_iload hx hb dX2_many_26 (lv_at hl 0 rfl) ?_
        refine ifB_eq (tgt := 35) hx hb dX2_many_28 (by decide) (fun c_28 => ?_) (fun c_28 => ?_)
        · refine lv_iconst (v := nI 0) hx hb dX2_many_35 (by decide) ?_
          refine lv_iadd hx hb dX2_many_36 ?_
          refine W_i (y := nI (a + 0)) (nI_add _ _) ?_
          refine lv_istore_n (lv' := [(1, .int (nI (a + 0))), (5, .int (bI (o i))), (4, .int (nI i)), (3, .int (nI m)), (2, .ref b4), (0, .ref b0)]) hx hb dX2_many_37 rfl hl (by decide) rfl (fun ls hl => ?_)
          refine lv_iinc (v := nI (i + 1)) (lv' := [(4, .int (nI (i + 1))), (1, .int (nI (a + 0))), (5, .int (bI (o i))), (3, .int (nI m)), (2, .ref b4), (0, .ref b0)]) hx hb dX2_many_38 hl (k := 2) rfl (nI_add _ _) (by decide) rfl (fun ls hl => ?_)
          refine lv_goto (tgt := 13) hx hb dX2_many_41 (by decide) ?_
          exact ih13 (i + 1) _ (by omega) (by omega) (by simp [cntP, ha, c_28]) _ _ hP hD hS _ (lv_sub hl [0, 3, 4, 1, 5] rfl)
        · refine lv_iconst (v := nI 1) hx hb dX2_many_31 (by decide) ?_
          refine lv_goto (tgt := 36) hx hb dX2_many_32 (by decide) ?_
          refine lv_iadd hx hb dX2_many_36 ?_
          refine W_i (y := nI (a + 1)) (nI_add _ _) ?_
          refine lv_istore_n (lv' := [(1, .int (nI (a + 1))), (5, .int (bI (o i))), (4, .int (nI i)), (3, .int (nI m)), (2, .ref b4), (0, .ref b0)]) hx hb dX2_many_37 rfl hl (by decide) rfl (fun ls hl => ?_)
          refine lv_iinc (v := nI (i + 1)) (lv' := [(4, .int (nI (i + 1))), (1, .int (nI (a + 1))), (5, .int (bI (o i))), (3, .int (nI m)), (2, .ref b4), (0, .ref b0)]) hx hb dX2_many_38 hl (k := 2) rfl (nI_add _ _) (by decide) rfl (fun ls hl => ?_)
          refine lv_goto (tgt := 13) hx hb dX2_many_41 (by decide) ?_
          exact ih13 (i + 1) _ (by omega) (by omega) (by simp [cntP, ha, c_28]) _ _ hP hD hS _ (lv_sub hl [0, 3, 4, 1, 5] rfl)
  exact lp13 (m + 1) 0 0 (by omega) (by omega) rfl _ _ hP hD hS _ (lv_sub hl [0, 1, 2, 3, 4] rfl)

set_option maxHeartbeats 4000000 in
set_option maxRecDepth 100000 in
theorem m_X2_certain (b0 b1 b2 b3 b4 n m tn sl : Nat) (bg : Bool) (ht rs : Nat → Nat) (sn : Nat → Nat → Bool) (rw : Nat → Nat) (wy : Nat → Nat → Nat) (o : Nat → Bool) (hn : n ≤ 5) (hm : m < 2 ^ 31) (hht : ∀ k, k < n → ht k < 4) (hwy : ∀ w, w < m → ∀ k, k < n → wy w k < 4) : Mp l yX2_certain ws_X2_certain 2 49 (dC, dI) (tyL cI cZ cS cW) [.ref b0] (sW cI cZ cS cW b0 b1 b2 b3 b4 n m tn sl bg ht rs sn rw wy o) (fun r => r = nI (cerS n m sn ht wy o n)) := by
  refine Mi_of (by decide +kernel) (Nat.le_of_ble_eq_true rfl) ?_
  intro pr ev sx mi ag bl me cd Q ls S hP hK hD hZ hl ret
  obtain ⟨hx, hb, hml, hown, hts⟩ := id S
  have hown : sx.vm.findClass RX2 = some mi.cls := hown
  have hS : va_S (wIn (sW cI cZ cS cW b0 b1 b2 b3 b4 n m tn sl bg ht rs sn rw wy o)) sx.heap sx.heap [] := va_S.rf
  have hl : lv_has ls 3 [(0, .ref b0)] := hl
  refine lv_iconst (v := nI 0) hx hb dX2_certain_0 (by decide) ?_
  refine lv_istore_n (lv' := [(1, .int (nI 0)), (0, .ref b0)]) hx hb dX2_certain_1 rfl hl (by decide) rfl (fun ls hl => ?_)
  refine lv_iconst (v := nI 0) hx hb dX2_certain_2 (by decide) ?_
  refine lv_istore_n (lv' := [(2, .int (nI 0)), (1, .int (nI 0)), (0, .ref b0)]) hx hb dX2_certain_3 rfl hl (by decide) rfl (fun ls hl => ?_)
  have lp4 : ∀ (kf : Nat) (i : Nat) (a : Nat), n < i + kf → (i ≤ n) → (a = cerS n m sn ht wy o i) → ∀ (H : Heap) (locs : List Loc), va_P (dC, dI) vwCl (sW cI cZ cS cW b0 b1 b2 b3 b4 n m tn sl bg ht rs sn rw wy o) H → va_D (wIn (sW cI cZ cS cW b0 b1 b2 b3 b4 n m tn sl bg ht rs sn rw wy o)) (sW cI cZ cS cW b0 b1 b2 b3 b4 n m tn sl bg ht rs sn rw wy o) → va_S (wIn (sW cI cZ cS cW b0 b1 b2 b3 b4 n m tn sl bg ht rs sn rw wy o)) sx.heap H locs → ∀ ls : Array Slot, lv_has ls 3 [(2, .int (nI i)), (1, .int (nI a)), (0, .ref b0)] → W pr l ev (rmB 2 49) sx mi ag bl me cd H locs 0 0 Q (F0 mi 4 ls []) := by
    intro kf
    induction kf with
    | zero => intro i a hkf hi ha; exact absurd hkf (by omega)
    | succ kf ih4 =>
      intro i a hkf hi ha H locs hP hD hS ls hl
      refine lv_iload_n hx hb dX2_certain_4 rfl (lv_at hl 0 rfl) ?_
      refine lv_aload_n hx hb dX2_certain_5 rfl (lv_at hl 2 rfl) ?_
      refine va_get (D := (dC, dI)) (ci := 2) (v := .int (nI n)) (C := RX2) (T := TX2) (N := 8) hx hb hts inX2 hown hK hP 0 rfl rfl 0 (by decide) (hts _ q_fl_X2_27) (fun _ h9 => h9) rfl dX2_certain_6 ?_
      refine icN_ge (tgt := 39) hx hb dX2_certain_9 (by decide) (by omega) (by omega) (fun c_9 => ?_) (fun c_9 => ?_)
      · refine lv_iload_n hx hb dX2_certain_39 rfl (lv_at hl 1 rfl) ?_
        exact ret _ (sW cI cZ cS cW b0 b1 b2 b3 b4 n m tn sl bg ht rs sn rw wy o) _ _ _ _ dX2_certain_40 rfl ⟨rfl, by rw [ha, show i = n by omega]⟩ (List.Perm.refl _) hP hS
      · refine lv_iload_n hx hb dX2_certain_12 rfl (lv_at hl 1 rfl) ?_
        refine lv_aload_n hx hb dX2_certain_13 rfl (lv_at hl 2 rfl) ?_
        refine lv_iload_n hx hb dX2_certain_14 rfl (lv_at hl 0 rfl) ?_
        refine lv_iload_n hx hb dX2_certain_15 rfl (lv_at hl 0 rfl) ?_
        refine lv_aload_n hx hb dX2_certain_16 rfl (lv_at hl 2 rfl) ?_
        refine va_get (D := (dC, dI)) (ci := 2) (v := .ref b1) (C := RX2) (T := TX2) (N := 8) hx hb hts inX2 hown hK hP 0 rfl rfl 4 (by decide) (hts _ q_fl_X2_7) (fun _ h9 => h9) rfl dX2_certain_17 ?_
        refine call_VpS (As := [.int (nI i), .int (nI i), .ref b1]) (rest := [.int (nI a)]) S (m_X2_isSure b0 b1 b2 b3 b4 n m tn sl bg ht rs sn rw wy o i i b1 ht hn (by omega) (by omega) (by omega) (List.mem_append_left _ (List.mem_cons_of_mem _ List.mem_cons_self)) hht hwy) g_X2_X2_isSure hd_X2_isSure ⟨Nat.le_of_ble_eq_true rfl, Nat.le_of_ble_eq_true rfl⟩ ⟨Nat.zero_le _, Nat.zero_le _⟩ hP hD hK hS hZ (List.Sublist.refl _) 0 rfl rfl hl.1 rfl (Nat.le_of_ble_eq_true rfl) dX2_certain_20 (fun r H locs hq hP hS => ?_)
        obtain rfl := hq
        refine ifB_eq (tgt := 30) hx hb dX2_certain_23 (by decide) (fun c_23 => ?_) (fun c_23 => ?_)
        · refine lv_iconst (v := nI 0) hx hb dX2_certain_30 (by decide) ?_
          refine lv_iadd hx hb dX2_certain_31 ?_
          refine W_i (y := nI (a + 0)) (nI_add _ _) ?_
          refine lv_istore_n (lv' := [(1, .int (nI (a + 0))), (2, .int (nI i)), (0, .ref b0)]) hx hb dX2_certain_32 rfl hl (by decide) rfl (fun ls hl => ?_)
          refine lv_iinc (v := nI (i + 1)) (lv' := [(2, .int (nI (i + 1))), (1, .int (nI (a + 0))), (0, .ref b0)]) hx hb dX2_certain_33 hl (k := 1) rfl (nI_add _ _) (by decide) rfl (fun ls hl => ?_)
          refine lv_goto (tgt := 4) hx hb dX2_certain_36 (by decide) ?_
          exact ih4 (i + 1) _ (by omega) (by omega) (by simp [cerS, ha, c_23]) _ _ hP hD hS _ (lv_sub hl [0, 1, 2] rfl)
        · refine lv_iconst (v := nI 1) hx hb dX2_certain_26 (by decide) ?_
          refine lv_goto (tgt := 31) hx hb dX2_certain_27 (by decide) ?_
          refine lv_iadd hx hb dX2_certain_31 ?_
          refine W_i (y := nI (a + 1)) (nI_add _ _) ?_
          refine lv_istore_n (lv' := [(1, .int (nI (a + 1))), (2, .int (nI i)), (0, .ref b0)]) hx hb dX2_certain_32 rfl hl (by decide) rfl (fun ls hl => ?_)
          refine lv_iinc (v := nI (i + 1)) (lv' := [(2, .int (nI (i + 1))), (1, .int (nI (a + 1))), (0, .ref b0)]) hx hb dX2_certain_33 hl (k := 1) rfl (nI_add _ _) (by decide) rfl (fun ls hl => ?_)
          refine lv_goto (tgt := 4) hx hb dX2_certain_36 (by decide) ?_
          exact ih4 (i + 1) _ (by omega) (by omega) (by simp [cerS, ha, c_23]) _ _ hP hD hS _ (lv_sub hl [0, 1, 2] rfl)
  exact lp4 (n + 1) 0 0 (by omega) (by omega) rfl _ _ hP hD hS _ (lv_sub hl [0, 1, 2] rfl)

end
