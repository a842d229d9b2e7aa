/-! game and model, one step of the law: the answers agree, the relation stays -/
def AnsI (r : Int32) (x : Int64) : Prop := x = r.toInt64
def AnsB (r : Int32) (x : Int64) : Prop := ∃ b, r = bI b ∧ x = lB b
theorem upd0 (f : Nat → Int64) (x : Int64) : vp_updL f 0 x 0 = x := by simp [vp_updL]
theorem arg_cs (a : Int32) (n : Nat) : (∃ j, j < n ∧ a = nI j) ∨ (∀ j, j < n → a ≠ nI j) := by
  by_cases h : ∃ j, j < n ∧ a = nI j
  · exact .inl h
  · exact .inr (fun j hj he => h ⟨j, hj, he⟩)
abbrev GO (cI cJ : ClassId) (ao h0 h1 h2 h3 h4 h5 h6 : Nat) (f : Nat → Int64) (n wn t tc sc : Nat) (uw : Bool) (c1 c2 : Nat) (s ow hf tf : Nat → Nat) : va_W := (ao, .inl (cJ, 1, .inr (.inl f))) :: gW cI h0 h1 h2 h3 h4 h5 h6 h1 h2 n wn t tc sc uw c1 c2 s ow hf tf
def JQ (cI cZ cJ : ClassId) (ao h0 h1 h2 h3 h4 h5 h6 m0 tn0 : Nat) (Ans : Int32 → Int64 → Prop) (r1 : Int32) (u1 : va_W) (r2 : Int32) (u2 : va_W) : Prop :=
  ∃ (f : Nat → Int64) (n wn t tc sc : Nat) (uw : Bool) (c1 c2 : Nat) (s ow hf tf : Nat → Nat) (m1 m2 m3 m4 m5 m6 th : Nat) (bg : Bool) (tn sl : Nat) (ht sn : Nat → Nat) (o nx kp : Nat → Bool) (ow2 : Nat → Nat),
    u1 = GO cI cJ ao h0 h1 h2 h3 h4 h5 h6 f n wn t tc sc uw c1 c2 s ow hf tf ∧ u2 = mW cI cZ m0 m1 m2 m3 m4 m5 m6 th n bg tn sl ht sn o nx kp ow2 ∧ Rl n wn t tc sc uw c1 s hf bg tn sl ht sn o ∧ tn ≤ tn0 + 1 ∧ th < 4 ∧ r1 = nI th ∧ (th = 0 → Ans r2 (f 0))
abbrev OP (l : Launch) (D : va_G) (ty : List (ClassId × FieldType)) (yL : MethodName) (wsL : List Cond) (y2 : MethodName) (ws2 : List Cond) (av1 av2 : List Value) (G M : va_W) (J : Int32 → va_W → Int32 → va_W → Prop) : Prop :=
  ∃ (P1 P2 : Int32 → va_W → Prop) (fr lo : Nat), fr ≤ 11 ∧ lo ≤ 390 ∧ Hi l yL wsL D ty av1 G P1 ∧ Mi l y2 ws2 fr lo D ty av2 M P2 ∧ ∀ r1 u1 r2 u2, P1 r1 u1 → P2 r2 u2 → J r1 u1 r2 u2
section
variable {l : Launch} {dC : Nat → ClassId} {dI : Nat → Nat → Nat} {cI cZ cJ : ClassId}

set_option maxHeartbeats 4000000 in
set_option maxRecDepth 100000 in
theorem op_addPlayer (hlt : l.stackTraces = false) (ao h0 h1 h2 h3 h4 h5 h6 n wn t tc sc : Nat) (uw : Bool) (c1 c2 : Nat) (s ow hf tf : Nat → Nat) (f : Nat → Int64) (m0 m1 m2 m3 m4 m5 m6 th : Nat) (bg : Bool) (tn sl : Nat) (ht sn : Nat → Nat) (o nx kp : Nat → Bool) (ow2 : Nat → Nat) (R : Rl n wn t tc sc uw c1 s hf bg tn sl ht sn o) (htn : tn < 2 ^ 20) (a0 : Int32) : OP l (dC, dI) (tyL cI cZ cJ) yL_addPlayer ws_L_addPlayer yX2_addPlayer ws_X2_addPlayer [.ref h0, .int a0, .ref ao] [.ref m0, .int a0] (GO cI cJ ao h0 h1 h2 h3 h4 h5 h6 f n wn t tc sc uw c1 c2 s ow hf tf) (mW cI cZ m0 m1 m2 m3 m4 m5 m6 th n bg tn sl ht sn o nx kp ow2) (JQ cI cZ cJ ao h0 h1 h2 h3 h4 h5 h6 m0 tn AnsI) := by
  have e1 : uw = bg := R.2.2.2.2.1
  subst e1
  have e2 : tc = tn := R.2.2.2.2.2.1
  subst e2
  have e3 : sc = sl := R.2.2.2.2.2.2.1
  subst e3
  obtain ⟨hn, hw, hs, hc1, hb1, ht5, hsn, hht⟩ := R.inv
  have C := R.cx
  have P := R.rp
  rcases arg_cs a0 3 with ⟨co, hco, rfl⟩ | ha0
  · by_cases hg : n < 5 ∧ uw = false
    · obtain ⟨hn5, hu⟩ := hg
      have hc81 : c1 ≤ 81 := Nat.le_trans R.c1n (p3_81 n hn5)
      refine ⟨_, _, _, _, ?_, ?_, w_L_addPlayer_ok _ h0 ao _ f _ _ _ _ _ _ ⟨by decide, by decide⟩ (m_X1_addPlayer h0 h1 h2 h3 h4 h5 h6 n wn t tc sc uw c1 c2 s ow hf tf co hco hn5 hu hc81 hn hw hs hc1 hb1) (fun a u q => by obtain ⟨-, g, rfl, -⟩ := q; exact List.Perm.refl _), (m_X2_addPlayer m0 m1 m2 m3 m4 m5 m6 th n uw tc sc ht sn o nx kp ow2 co hco hn5 hu), fun r1 u1 r2 u2 q1 q2 => ?_⟩
      · decide
      · decide
      obtain ⟨rfl, a, w1, ⟨rfl, g, rfl, hg⟩, rfl⟩ := q1
      obtain ⟨rfl, rfl⟩ := q2
      exact ⟨_, _, _, _, _, _, _, _, _, _, _, _, _, _, _, _, _, _, _, _, _, _, _, _, _, _, _, _, _, rfl, rfl, R.add hn5 hu hco hg, by omega, by decide, rfl, fun _ => (upd0 _ _).trans (rfl)⟩
    · have hb0 : n < 5 → uw = true := fun h => by cases hu : uw with | true => rfl | false => exact absurd ⟨h, hu⟩ hg
      refine ⟨_, _, _, _, ?_, ?_, w_L_addPlayer_2 _ h0 ao _ f _ _ _ _ _ _ ⟨by decide, by decide⟩ (mx_X1_addPlayer_b hlt h0 h1 h2 h3 h4 h5 h6 n wn t tc sc uw c1 c2 s ow hf tf co hn hco hb0), (mf_X2_addPlayer_b m0 m1 m2 m3 m4 m5 m6 th n uw tc sc ht sn o nx kp ow2 co hn hco hb0), fun r1 u1 r2 u2 q1 q2 => ?_⟩
      · decide
      · decide
      obtain ⟨rfl, rfl⟩ := q1
      obtain ⟨-, rfl⟩ := q2
      exact ⟨_, n, wn, t, tc, sc, uw, c1, c2, s, ow, hf, tf, m1, m2, m3, m4, m5, m6, 2, uw, tc, sc, ht, sn, o, nx, kp, ow2, rfl, rfl, R, by omega, by decide, rfl, fun h => absurd h (by decide)⟩
  · refine ⟨_, _, _, _, ?_, ?_, w_L_addPlayer_1 _ h0 ao _ f _ _ _ _ _ _ ⟨by decide, by decide⟩ (mx_X1_addPlayer_a hlt h0 h1 h2 h3 h4 h5 h6 n wn t tc sc uw c1 c2 s ow hf tf a0 ha0), (mf_X2_addPlayer_a m0 m1 m2 m3 m4 m5 m6 th n uw tc sc ht sn o nx kp ow2 a0 ha0), fun r1 u1 r2 u2 q1 q2 => ?_⟩
    · decide
    · decide
    obtain ⟨rfl, rfl⟩ := q1
    obtain ⟨-, rfl⟩ := q2
    exact ⟨_, n, wn, t, tc, sc, uw, c1, c2, s, ow, hf, tf, m1, m2, m3, m4, m5, m6, 1, uw, tc, sc, ht, sn, o, nx, kp, ow2, rfl, rfl, R, by omega, by decide, rfl, fun h => absurd h (by decide)⟩

set_option maxHeartbeats 4000000 in
set_option maxRecDepth 100000 in
theorem op_turnAway (hlt : l.stackTraces = false) (ao h0 h1 h2 h3 h4 h5 h6 n wn t tc sc : Nat) (uw : Bool) (c1 c2 : Nat) (s ow hf tf : Nat → Nat) (f : Nat → Int64) (m0 m1 m2 m3 m4 m5 m6 th : Nat) (bg : Bool) (tn sl : Nat) (ht sn : Nat → Nat) (o nx kp : Nat → Bool) (ow2 : Nat → Nat) (R : Rl n wn t tc sc uw c1 s hf bg tn sl ht sn o) (htn : tn < 2 ^ 20) (a0 a1 : Int32) : OP l (dC, dI) (tyL cI cZ cJ) yL_turnAway ws_L_turnAway yX2_turnAway ws_X2_turnAway [.ref h0, .int a0, .int a1, .ref ao] [.ref m0, .int a0, .int a1] (GO cI cJ ao h0 h1 h2 h3 h4 h5 h6 f n wn t tc sc uw c1 c2 s ow hf tf) (mW cI cZ m0 m1 m2 m3 m4 m5 m6 th n bg tn sl ht sn o nx kp ow2) (JQ cI cZ cJ ao h0 h1 h2 h3 h4 h5 h6 m0 tn AnsB) := by
  have e1 : uw = bg := R.2.2.2.2.1
  subst e1
  have e2 : tc = tn := R.2.2.2.2.2.1
  subst e2
  have e3 : sc = sl := R.2.2.2.2.2.2.1
  subst e3
  obtain ⟨hn, hw, hs, hc1, hb1, ht5, hsn, hht⟩ := R.inv
  have C := R.cx
  have P := R.rp
  rcases arg_cs a0 n with ⟨j, hj, rfl⟩ | ha0
  · rcases arg_cs a1 n with ⟨k, hk, rfl⟩ | ha1
    · by_cases hjk : j = k
      · subst hjk
        refine ⟨_, _, _, _, ?_, ?_, w_L_turnAway_2 _ _ h0 ao _ f _ _ _ _ _ _ ⟨by decide, by decide⟩ (mx_X1_turnAway_c hlt h0 h1 h2 h3 h4 h5 h6 n wn t tc sc uw c1 c2 s ow hf tf j hn hj), (mf_X2_turnAway_c m0 m1 m2 m3 m4 m5 m6 th n uw tc sc ht sn o nx kp ow2 j hn hj), fun r1 u1 r2 u2 q1 q2 => ?_⟩
        · decide
        · decide
        obtain ⟨rfl, rfl⟩ := q1
        obtain ⟨-, rfl⟩ := q2
        exact ⟨_, n, wn, t, tc, sc, uw, c1, c2, s, ow, hf, tf, m1, m2, m3, m4, m5, m6, 2, uw, tc, sc, ht, sn, o, nx, kp, ow2, rfl, rfl, R, by omega, by decide, rfl, fun h => absurd h (by decide)⟩
      · refine ⟨_, _, _, _, ?_, ?_, w_L_turnAway_ok _ _ h0 ao _ f _ _ _ _ _ _ ⟨by decide, by decide⟩ (m_X1_turnAway h0 h1 h2 h3 h4 h5 h6 n wn t tc sc uw c1 c2 s ow hf tf j k hj hk hjk hn hw hs hc1 hb1) (fun a u q => by obtain ⟨-, rfl⟩ := q; exact List.Perm.refl _) (fun a u q => ⟨_, q.1⟩), (m_X2_turnAway m0 m1 m2 m3 m4 m5 m6 th n uw tc sc ht sn o nx kp ow2 j k hn hsn hj hk hjk), fun r1 u1 r2 u2 q1 q2 => ?_⟩
        · decide
        · decide
        obtain ⟨rfl, b, w1, ⟨hbq, rfl⟩, rfl⟩ := q1
        obtain ⟨rfl, rfl⟩ := q2
        have hb2 := bI_inj.mp hbq
        subst hb2
        exact ⟨_, _, _, _, _, _, _, _, _, _, _, _, _, _, _, _, _, _, _, _, _, _, _, _, _, _, _, _, _, rfl, rfl, R.away hj hk hjk, by omega, by decide, rfl, fun _ => ⟨_, rfl, (upd0 _ _).trans (congrArg lB ((R.away hj hk hjk).cx.see hj (by omega)))⟩⟩
    · refine ⟨_, _, _, _, ?_, ?_, w_L_turnAway_1 _ _ h0 ao _ f _ _ _ _ _ _ ⟨by decide, by decide⟩ (mx_X1_turnAway_b hlt h0 h1 h2 h3 h4 h5 h6 n wn t tc sc uw c1 c2 s ow hf tf j a1 hn hj ha1), (mf_X2_turnAway_b m0 m1 m2 m3 m4 m5 m6 th n uw tc sc ht sn o nx kp ow2 j a1 hn hj ha1), fun r1 u1 r2 u2 q1 q2 => ?_⟩
      · decide
      · decide
      obtain ⟨rfl, rfl⟩ := q1
      obtain ⟨-, rfl⟩ := q2
      exact ⟨_, n, wn, t, tc, sc, uw, c1, c2, s, ow, hf, tf, m1, m2, m3, m4, m5, m6, 1, uw, tc, sc, ht, sn, o, nx, kp, ow2, rfl, rfl, R, by omega, by decide, rfl, fun h => absurd h (by decide)⟩
  · refine ⟨_, _, _, _, ?_, ?_, w_L_turnAway_1 _ _ h0 ao _ f _ _ _ _ _ _ ⟨by decide, by decide⟩ (mx_X1_turnAway_a hlt h0 h1 h2 h3 h4 h5 h6 n wn t tc sc uw c1 c2 s ow hf tf a0 a1 hn ha0), (mf_X2_turnAway_a m0 m1 m2 m3 m4 m5 m6 th n uw tc sc ht sn o nx kp ow2 a0 a1 hn ha0), fun r1 u1 r2 u2 q1 q2 => ?_⟩
    · decide
    · decide
    obtain ⟨rfl, rfl⟩ := q1
    obtain ⟨-, rfl⟩ := q2
    exact ⟨_, n, wn, t, tc, sc, uw, c1, c2, s, ow, hf, tf, m1, m2, m3, m4, m5, m6, 1, uw, tc, sc, ht, sn, o, nx, kp, ow2, rfl, rfl, R, by omega, by decide, rfl, fun h => absurd h (by decide)⟩

set_option maxHeartbeats 4000000 in
set_option maxRecDepth 100000 in
theorem op_borrow (hlt : l.stackTraces = false) (ao h0 h1 h2 h3 h4 h5 h6 n wn t tc sc : Nat) (uw : Bool) (c1 c2 : Nat) (s ow hf tf : Nat → Nat) (f : Nat → Int64) (m0 m1 m2 m3 m4 m5 m6 th : Nat) (bg : Bool) (tn sl : Nat) (ht sn : Nat → Nat) (o nx kp : Nat → Bool) (ow2 : Nat → Nat) (R : Rl n wn t tc sc uw c1 s hf bg tn sl ht sn o) (htn : tn < 2 ^ 20) (a0 a1 : Int32) : OP l (dC, dI) (tyL cI cZ cJ) yL_borrow ws_L_borrow yX2_borrow ws_X2_borrow [.ref h0, .int a0, .int a1, .ref ao] [.ref m0, .int a0, .int a1] (GO cI cJ ao h0 h1 h2 h3 h4 h5 h6 f n wn t tc sc uw c1 c2 s ow hf tf) (mW cI cZ m0 m1 m2 m3 m4 m5 m6 th n bg tn sl ht sn o nx kp ow2) (JQ cI cZ cJ ao h0 h1 h2 h3 h4 h5 h6 m0 tn AnsI) := by
  have e1 : uw = bg := R.2.2.2.2.1
  subst e1
  have e2 : tc = tn := R.2.2.2.2.2.1
  subst e2
  have e3 : sc = sl := R.2.2.2.2.2.2.1
  subst e3
  obtain ⟨hn, hw, hs, hc1, hb1, ht5, hsn, hht⟩ := R.inv
  have C := R.cx
  have P := R.rp
  rcases arg_cs a0 n with ⟨j, hj, rfl⟩ | ha0
  · rcases arg_cs a1 n with ⟨k, hk, rfl⟩ | ha1
    · by_cases hjk : j = k
      · subst hjk
        refine ⟨_, _, _, _, ?_, ?_, w_L_borrow_2 _ _ h0 ao _ f _ _ _ _ _ _ ⟨by decide, by decide⟩ (mx_X1_borrow_c hlt h0 h1 h2 h3 h4 h5 h6 n wn t tc sc uw c1 c2 s ow hf tf j hn hj), (mf_X2_borrow_c m0 m1 m2 m3 m4 m5 m6 th n uw tc sc ht sn o nx kp ow2 j hn hj), fun r1 u1 r2 u2 q1 q2 => ?_⟩
        · decide
        · decide
        obtain ⟨rfl, rfl⟩ := q1
        obtain ⟨-, rfl⟩ := q2
        exact ⟨_, n, wn, t, tc, sc, uw, c1, c2, s, ow, hf, tf, m1, m2, m3, m4, m5, m6, 2, uw, tc, sc, ht, sn, o, nx, kp, ow2, rfl, rfl, R, by omega, by decide, rfl, fun h => absurd h (by decide)⟩
      · refine ⟨_, _, _, _, ?_, ?_, w_L_borrow_ok _ _ h0 ao _ f _ _ _ _ _ _ ⟨by decide, by decide⟩ (m_X1_borrow h0 h1 h2 h3 h4 h5 h6 n wn t tc sc uw c1 c2 s ow hf tf j k hj hk hjk hn hw hs hc1 hb1) (fun a u q => by obtain ⟨-, g, rfl, -⟩ := q; exact List.Perm.refl _), (m_X2_borrow m0 m1 m2 m3 m4 m5 m6 th n uw tc sc ht sn o nx kp ow2 j k hn hsn hht hj hk hjk), fun r1 u1 r2 u2 q1 q2 => ?_⟩
        · decide
        · decide
        obtain ⟨rfl, a, w1, ⟨rfl, g, rfl, hg⟩, rfl⟩ := q1
        obtain ⟨rfl, rfl⟩ := q2
        exact ⟨_, _, _, _, _, _, _, _, _, _, _, _, _, _, _, _, _, _, _, _, _, _, _, _, _, _, _, _, _, rfl, rfl, R.borrow hj hk hjk hg, by omega, by decide, rfl, fun _ => (upd0 _ _).trans (congrArg Int32.toInt64 (congrArg nI (R.borrowA hj hk hjk)))⟩
    · refine ⟨_, _, _, _, ?_, ?_, w_L_borrow_1 _ _ h0 ao _ f _ _ _ _ _ _ ⟨by decide, by decide⟩ (mx_X1_borrow_b hlt h0 h1 h2 h3 h4 h5 h6 n wn t tc sc uw c1 c2 s ow hf tf j a1 hn hj ha1), (mf_X2_borrow_b m0 m1 m2 m3 m4 m5 m6 th n uw tc sc ht sn o nx kp ow2 j a1 hn hj ha1), fun r1 u1 r2 u2 q1 q2 => ?_⟩
      · decide
      · decide
      obtain ⟨rfl, rfl⟩ := q1
      obtain ⟨-, rfl⟩ := q2
      exact ⟨_, n, wn, t, tc, sc, uw, c1, c2, s, ow, hf, tf, m1, m2, m3, m4, m5, m6, 1, uw, tc, sc, ht, sn, o, nx, kp, ow2, rfl, rfl, R, by omega, by decide, rfl, fun h => absurd h (by decide)⟩
  · refine ⟨_, _, _, _, ?_, ?_, w_L_borrow_1 _ _ h0 ao _ f _ _ _ _ _ _ ⟨by decide, by decide⟩ (mx_X1_borrow_a hlt h0 h1 h2 h3 h4 h5 h6 n wn t tc sc uw c1 c2 s ow hf tf a0 a1 hn ha0), (mf_X2_borrow_a m0 m1 m2 m3 m4 m5 m6 th n uw tc sc ht sn o nx kp ow2 a0 a1 hn ha0), fun r1 u1 r2 u2 q1 q2 => ?_⟩
    · decide
    · decide
    obtain ⟨rfl, rfl⟩ := q1
    obtain ⟨-, rfl⟩ := q2
    exact ⟨_, n, wn, t, tc, sc, uw, c1, c2, s, ow, hf, tf, m1, m2, m3, m4, m5, m6, 1, uw, tc, sc, ht, sn, o, nx, kp, ow2, rfl, rfl, R, by omega, by decide, rfl, fun h => absurd h (by decide)⟩

set_option maxHeartbeats 4000000 in
set_option maxRecDepth 100000 in
theorem op_takeTurn (hlt : l.stackTraces = false) (ao h0 h1 h2 h3 h4 h5 h6 n wn t tc sc : Nat) (uw : Bool) (c1 c2 : Nat) (s ow hf tf : Nat → Nat) (f : Nat → Int64) (m0 m1 m2 m3 m4 m5 m6 th : Nat) (bg : Bool) (tn sl : Nat) (ht sn : Nat → Nat) (o nx kp : Nat → Bool) (ow2 : Nat → Nat) (R : Rl n wn t tc sc uw c1 s hf bg tn sl ht sn o) (htn : tn < 2 ^ 20) : OP l (dC, dI) (tyL cI cZ cJ) yL_takeTurn ws_L_takeTurn yX2_takeTurn ws_X2_takeTurn [.ref h0, .ref ao] [.ref m0] (GO cI cJ ao h0 h1 h2 h3 h4 h5 h6 f n wn t tc sc uw c1 c2 s ow hf tf) (mW cI cZ m0 m1 m2 m3 m4 m5 m6 th n bg tn sl ht sn o nx kp ow2) (JQ cI cZ cJ ao h0 h1 h2 h3 h4 h5 h6 m0 tn AnsI) := by
  have e1 : uw = bg := R.2.2.2.2.1
  subst e1
  have e2 : tc = tn := R.2.2.2.2.2.1
  subst e2
  have e3 : sc = sl := R.2.2.2.2.2.2.1
  subst e3
  obtain ⟨hn, hw, hs, hc1, hb1, ht5, hsn, hht⟩ := R.inv
  have C := R.cx
  have P := R.rp
  by_cases h0n : 0 < n
  · refine ⟨_, _, _, _, ?_, ?_, w_L_takeTurn_ok  h0 ao _ f _ _ _ _ _ _ ⟨by decide, by decide⟩ (m_X1_takeTurn h0 h1 h2 h3 h4 h5 h6 n wn t tc sc uw c1 c2 s ow hf tf h0n ht5 hn hw hs hc1 hb1) (fun a u q => by obtain ⟨-, k, og, g, rfl, -⟩ := q; exact List.Perm.refl _), (m_X2_takeTurn m0 m1 m2 m3 m4 m5 m6 th n uw tc sc ht sn o nx kp ow2 hn hsn hht htn h0n), fun r1 u1 r2 u2 q1 q2 => ?_⟩
    · decide
    · decide
    obtain ⟨rfl, a, w1, ⟨rfl, k, og, g, rfl, hg⟩, rfl⟩ := q1
    obtain ⟨rfl, rfl⟩ := q2
    exact ⟨_, _, _, _, _, _, _, _, _, _, _, _, _, _, _, _, _, _, _, _, _, _, _, _, _, _, _, _, _, rfl, rfl, R.turn h0n hg, by omega, by decide, rfl, fun _ => (upd0 _ _).trans (congrArg Int32.toInt64 (R.turnA h0n))⟩
  · have hn0 : n = 0 := by omega
    refine ⟨_, _, _, _, ?_, ?_, w_L_takeTurn_1  h0 ao _ f _ _ _ _ _ _ ⟨by decide, by decide⟩ (mx_X1_takeTurn_a hlt h0 h1 h2 h3 h4 h5 h6 n wn t tc sc uw c1 c2 s ow hf tf hn0), (mf_X2_takeTurn_a m0 m1 m2 m3 m4 m5 m6 th n uw tc sc ht sn o nx kp ow2 hn0), fun r1 u1 r2 u2 q1 q2 => ?_⟩
    · decide
    · decide
    obtain ⟨rfl, rfl⟩ := q1
    obtain ⟨-, rfl⟩ := q2
    exact ⟨_, n, wn, t, tc, sc, uw, c1, c2, s, ow, hf, tf, m1, m2, m3, m4, m5, m6, 1, uw, tc, sc, ht, sn, o, nx, kp, ow2, rfl, rfl, R, by omega, by decide, rfl, fun h => absurd h (by decide)⟩

set_option maxHeartbeats 4000000 in
set_option maxRecDepth 100000 in
theorem op_openAfterTurn (hlt : l.stackTraces = false) (ao h0 h1 h2 h3 h4 h5 h6 n wn t tc sc : Nat) (uw : Bool) (c1 c2 : Nat) (s ow hf tf : Nat → Nat) (f : Nat → Int64) (m0 m1 m2 m3 m4 m5 m6 th : Nat) (bg : Bool) (tn sl : Nat) (ht sn : Nat → Nat) (o nx kp : Nat → Bool) (ow2 : Nat → Nat) (R : Rl n wn t tc sc uw c1 s hf bg tn sl ht sn o) (htn : tn < 2 ^ 20) : OP l (dC, dI) (tyL cI cZ cJ) yL_openAfterTurn ws_L_openAfterTurn yX2_openAfterTurn ws_X2_openAfterTurn [.ref h0, .ref ao] [.ref m0] (GO cI cJ ao h0 h1 h2 h3 h4 h5 h6 f n wn t tc sc uw c1 c2 s ow hf tf) (mW cI cZ m0 m1 m2 m3 m4 m5 m6 th n bg tn sl ht sn o nx kp ow2) (JQ cI cZ cJ ao h0 h1 h2 h3 h4 h5 h6 m0 tn AnsI) := by
  have e1 : uw = bg := R.2.2.2.2.1
  subst e1
  have e2 : tc = tn := R.2.2.2.2.2.1
  subst e2
  have e3 : sc = sl := R.2.2.2.2.2.2.1
  subst e3
  obtain ⟨hn, hw, hs, hc1, hb1, ht5, hsn, hht⟩ := R.inv
  have C := R.cx
  have P := R.rp
  by_cases h0n : 0 < n
  · refine ⟨_, _, _, _, ?_, ?_, w_L_openAfterTurn_ok  h0 ao _ f _ _ _ _ _ _ ⟨by decide, by decide⟩ (m_X1_openAfterTurn h0 h1 h2 h3 h4 h5 h6 n wn t tc sc uw c1 c2 s ow hf tf h0n ht5 hn hw hs hc1 hb1) (fun a u q => by obtain ⟨-, k, og, g, rfl⟩ := q; exact List.Perm.refl _), (m_X2_openAfterTurn m0 m1 m2 m3 m4 m5 m6 th n uw tc sc ht sn o nx kp ow2 hn hsn hht htn h0n), fun r1 u1 r2 u2 q1 q2 => ?_⟩
    · decide
    · decide
    obtain ⟨rfl, a, w1, ⟨rfl, k, og, g, rfl⟩, rfl⟩ := q1
    obtain ⟨rfl, nx2, ow3, rfl⟩ := q2
    exact ⟨_, _, _, _, _, _, _, _, _, _, _, _, _, _, _, _, _, _, _, _, _, _, _, _, _, _, _, _, _, rfl, rfl, R, by omega, by decide, rfl, fun _ => (upd0 _ _).trans (congrArg Int32.toInt64 (congrArg nI ((by have hT := R.2.2.2.1 h0n; have hT2 : t < n := (by rw [hT]; exact Nat.mod_lt _ h0n); rw [(C.turn P hT2).len, ← hT]))))⟩
  · have hn0 : n = 0 := by omega
    refine ⟨_, _, _, _, ?_, ?_, w_L_openAfterTurn_1  h0 ao _ f _ _ _ _ _ _ ⟨by decide, by decide⟩ (mx_X1_openAfterTurn_a hlt h0 h1 h2 h3 h4 h5 h6 n wn t tc sc uw c1 c2 s ow hf tf hn0), (mf_X2_openAfterTurn_a m0 m1 m2 m3 m4 m5 m6 th n uw tc sc ht sn o nx kp ow2 hn0), fun r1 u1 r2 u2 q1 q2 => ?_⟩
    · decide
    · decide
    obtain ⟨rfl, rfl⟩ := q1
    obtain rfl := q2
    exact ⟨_, n, wn, t, tc, sc, uw, c1, c2, s, ow, hf, tf, m1, m2, m3, m4, m5, m6, 1, uw, tc, sc, ht, sn, o, nx, kp, ow2, rfl, rfl, R, by omega, by decide, rfl, fun h => absurd h (by decide)⟩

set_option maxHeartbeats 4000000 in
set_option maxRecDepth 100000 in
theorem op_sayAtLeast (hlt : l.stackTraces = false) (ao h0 h1 h2 h3 h4 h5 h6 n wn t tc sc : Nat) (uw : Bool) (c1 c2 : Nat) (s ow hf tf : Nat → Nat) (f : Nat → Int64) (m0 m1 m2 m3 m4 m5 m6 th : Nat) (bg : Bool) (tn sl : Nat) (ht sn : Nat → Nat) (o nx kp : Nat → Bool) (ow2 : Nat → Nat) (R : Rl n wn t tc sc uw c1 s hf bg tn sl ht sn o) (htn : tn < 2 ^ 20) (a0 a1 : Int32) : OP l (dC, dI) (tyL cI cZ cJ) yL_sayAtLeast ws_L_sayAtLeast yX2_sayAtLeast ws_X2_sayAtLeast [.ref h0, .int a0, .int a1, .ref ao] [.ref m0, .int a0, .int a1] (GO cI cJ ao h0 h1 h2 h3 h4 h5 h6 f n wn t tc sc uw c1 c2 s ow hf tf) (mW cI cZ m0 m1 m2 m3 m4 m5 m6 th n bg tn sl ht sn o nx kp ow2) (JQ cI cZ cJ ao h0 h1 h2 h3 h4 h5 h6 m0 tn AnsI) := by
  have e1 : uw = bg := R.2.2.2.2.1
  subst e1
  have e2 : tc = tn := R.2.2.2.2.2.1
  subst e2
  have e3 : sc = sl := R.2.2.2.2.2.2.1
  subst e3
  obtain ⟨hn, hw, hs, hc1, hb1, ht5, hsn, hht⟩ := R.inv
  have C := R.cx
  have P := R.rp
  rcases arg_cs a0 3 with ⟨co, hco, rfl⟩ | ha0
  · rcases arg_cs a1 6 with ⟨many, hmany, rfl⟩ | ha1
    · by_cases hl1 : many ≤ hatsN n wn co
      · have hok : isM n (realN ht n) co many true = true := by rw [C.isMl C.real, ← C.2.2.1]; have := hatsN_le n wn co; simp; omega
        refine ⟨_, _, _, _, ?_, ?_, w_L_sayAtLeast_ok _ _ h0 ao _ f _ _ _ _ _ _ ⟨by decide, by decide⟩ (m_X1_sayAtLeast h0 h1 h2 h3 h4 h5 h6 n wn t tc sc uw c1 c2 s ow hf tf co many hco hmany hl1 hn hw hs hc1 hb1) (fun a u q => by obtain ⟨k, g, -, rfl, -⟩ := q; exact List.Perm.refl _), (m_X2_sayAtLeast m0 m1 m2 m3 m4 m5 m6 th n uw tc sc ht sn o nx kp ow2 co many hn hsn hht hco hmany hok), fun r1 u1 r2 u2 q1 q2 => ?_⟩
        · decide
        · decide
        obtain ⟨rfl, a, w1, ⟨k, g, rfl, rfl, hg⟩, rfl⟩ := q1
        obtain ⟨rfl, rfl⟩ := q2
        exact ⟨_, _, _, _, _, _, _, _, _, _, _, _, _, _, _, _, _, _, _, _, _, _, _, _, _, _, _, _, _, rfl, rfl, R.say (f2 := fun w => isM n w co many true) hg (fun w hw => C.isMl hw), by omega, by decide, rfl, fun _ => (upd0 _ _).trans (congrArg Int32.toInt64 (congrArg nI ((R.say (f2 := fun w => isM n w co many true) hg (fun w hw => C.isMl hw)).c1e)))⟩
      · have hbad : hatsN n wn co < many := by omega
        have hok : isM n (realN ht n) co many true = false := by rw [C.isMl C.real, ← C.2.2.1]; have := hatsN_le n wn co; simp; omega
        refine ⟨_, _, _, _, ?_, ?_, w_L_sayAtLeast_3 _ _ h0 ao _ f _ _ _ _ _ _ ⟨by decide, by decide⟩ (mx_X1_sayAtLeast_c hlt h0 h1 h2 h3 h4 h5 h6 n wn t tc sc uw c1 c2 s ow hf tf co many hn hw hco hmany hbad), (mf_X2_sayAtLeast_c m0 m1 m2 m3 m4 m5 m6 th n uw tc sc ht sn o nx kp ow2 co many hco hmany hok hn hsn hht), fun r1 u1 r2 u2 q1 q2 => ?_⟩
        · decide
        · decide
        obtain ⟨rfl, rfl⟩ := q1
        obtain ⟨-, rfl⟩ := q2
        exact ⟨_, n, wn, t, tc, sc, uw, c1, c2, s, ow, hf, tf, m1, m2, m3, m4, m5, m6, 3, uw, tc, sc, ht, sn, o, nx, kp, ow2, rfl, rfl, R, by omega, by decide, rfl, fun h => absurd h (by decide)⟩
    · refine ⟨_, _, _, _, ?_, ?_, w_L_sayAtLeast_2 _ _ h0 ao _ f _ _ _ _ _ _ ⟨by decide, by decide⟩ (mx_X1_sayAtLeast_b hlt h0 h1 h2 h3 h4 h5 h6 n wn t tc sc uw c1 c2 s ow hf tf co a1 hco ha1), (mf_X2_sayAtLeast_b m0 m1 m2 m3 m4 m5 m6 th n uw tc sc ht sn o nx kp ow2 co a1 hco ha1 hn hsn hht), fun r1 u1 r2 u2 q1 q2 => ?_⟩
      · decide
      · decide
      obtain ⟨rfl, rfl⟩ := q1
      obtain ⟨-, rfl⟩ := q2
      exact ⟨_, n, wn, t, tc, sc, uw, c1, c2, s, ow, hf, tf, m1, m2, m3, m4, m5, m6, 2, uw, tc, sc, ht, sn, o, nx, kp, ow2, rfl, rfl, R, by omega, by decide, rfl, fun h => absurd h (by decide)⟩
  · refine ⟨_, _, _, _, ?_, ?_, w_L_sayAtLeast_1 _ _ h0 ao _ f _ _ _ _ _ _ ⟨by decide, by decide⟩ (mx_X1_sayAtLeast_a hlt h0 h1 h2 h3 h4 h5 h6 n wn t tc sc uw c1 c2 s ow hf tf a0 a1 ha0), (mf_X2_sayAtLeast_a m0 m1 m2 m3 m4 m5 m6 th n uw tc sc ht sn o nx kp ow2 a0 a1 ha0 hn hsn hht), fun r1 u1 r2 u2 q1 q2 => ?_⟩
    · decide
    · decide
    obtain ⟨rfl, rfl⟩ := q1
    obtain ⟨-, rfl⟩ := q2
    exact ⟨_, n, wn, t, tc, sc, uw, c1, c2, s, ow, hf, tf, m1, m2, m3, m4, m5, m6, 1, uw, tc, sc, ht, sn, o, nx, kp, ow2, rfl, rfl, R, by omega, by decide, rfl, fun h => absurd h (by decide)⟩

set_option maxHeartbeats 4000000 in
set_option maxRecDepth 100000 in
theorem op_sayAtMost (hlt : l.stackTraces = false) (ao h0 h1 h2 h3 h4 h5 h6 n wn t tc sc : Nat) (uw : Bool) (c1 c2 : Nat) (s ow hf tf : Nat → Nat) (f : Nat → Int64) (m0 m1 m2 m3 m4 m5 m6 th : Nat) (bg : Bool) (tn sl : Nat) (ht sn : Nat → Nat) (o nx kp : Nat → Bool) (ow2 : Nat → Nat) (R : Rl n wn t tc sc uw c1 s hf bg tn sl ht sn o) (htn : tn < 2 ^ 20) (a0 a1 : Int32) : OP l (dC, dI) (tyL cI cZ cJ) yL_sayAtMost ws_L_sayAtMost yX2_sayAtMost ws_X2_sayAtMost [.ref h0, .int a0, .int a1, .ref ao] [.ref m0, .int a0, .int a1] (GO cI cJ ao h0 h1 h2 h3 h4 h5 h6 f n wn t tc sc uw c1 c2 s ow hf tf) (mW cI cZ m0 m1 m2 m3 m4 m5 m6 th n bg tn sl ht sn o nx kp ow2) (JQ cI cZ cJ ao h0 h1 h2 h3 h4 h5 h6 m0 tn AnsI) := by
  have e1 : uw = bg := R.2.2.2.2.1
  subst e1
  have e2 : tc = tn := R.2.2.2.2.2.1
  subst e2
  have e3 : sc = sl := R.2.2.2.2.2.2.1
  subst e3
  obtain ⟨hn, hw, hs, hc1, hb1, ht5, hsn, hht⟩ := R.inv
  have C := R.cx
  have P := R.rp
  rcases arg_cs a0 3 with ⟨co, hco, rfl⟩ | ha0
  · rcases arg_cs a1 6 with ⟨many, hmany, rfl⟩ | ha1
    · by_cases hl2 : hatsN n wn co ≤ many
      · have hok : isM n (realN ht n) co many false = true := by rw [C.isMm C.real, ← C.2.2.1]; have := hatsN_le n wn co; simp; omega
        refine ⟨_, _, _, _, ?_, ?_, w_L_sayAtMost_ok _ _ h0 ao _ f _ _ _ _ _ _ ⟨by decide, by decide⟩ (m_X1_sayAtMost h0 h1 h2 h3 h4 h5 h6 n wn t tc sc uw c1 c2 s ow hf tf co many hco hmany hl2 hn hw hs hc1 hb1) (fun a u q => by obtain ⟨k, g, -, rfl, -⟩ := q; exact List.Perm.refl _), (m_X2_sayAtMost m0 m1 m2 m3 m4 m5 m6 th n uw tc sc ht sn o nx kp ow2 co many hn hsn hht hco hmany hok), fun r1 u1 r2 u2 q1 q2 => ?_⟩
        · decide
        · decide
        obtain ⟨rfl, a, w1, ⟨k, g, rfl, rfl, hg⟩, rfl⟩ := q1
        obtain ⟨rfl, rfl⟩ := q2
        exact ⟨_, _, _, _, _, _, _, _, _, _, _, _, _, _, _, _, _, _, _, _, _, _, _, _, _, _, _, _, _, rfl, rfl, R.say (f2 := fun w => isM n w co many false) hg (fun w hw => C.isMm hw), by omega, by decide, rfl, fun _ => (upd0 _ _).trans (congrArg Int32.toInt64 (congrArg nI ((R.say (f2 := fun w => isM n w co many false) hg (fun w hw => C.isMm hw)).c1e)))⟩
      · have hbad : many < hatsN n wn co := by omega
        have hok : isM n (realN ht n) co many false = false := by rw [C.isMm C.real, ← C.2.2.1]; have := hatsN_le n wn co; simp; omega
        refine ⟨_, _, _, _, ?_, ?_, w_L_sayAtMost_3 _ _ h0 ao _ f _ _ _ _ _ _ ⟨by decide, by decide⟩ (mx_X1_sayAtMost_c hlt h0 h1 h2 h3 h4 h5 h6 n wn t tc sc uw c1 c2 s ow hf tf co many hn hw hco hmany hbad), (mf_X2_sayAtMost_c m0 m1 m2 m3 m4 m5 m6 th n uw tc sc ht sn o nx kp ow2 co many hco hmany hok hn hsn hht), fun r1 u1 r2 u2 q1 q2 => ?_⟩
        · decide
        · decide
        obtain ⟨rfl, rfl⟩ := q1
        obtain ⟨-, rfl⟩ := q2
        exact ⟨_, n, wn, t, tc, sc, uw, c1, c2, s, ow, hf, tf, m1, m2, m3, m4, m5, m6, 3, uw, tc, sc, ht, sn, o, nx, kp, ow2, rfl, rfl, R, by omega, by decide, rfl, fun h => absurd h (by decide)⟩
    · refine ⟨_, _, _, _, ?_, ?_, w_L_sayAtMost_2 _ _ h0 ao _ f _ _ _ _ _ _ ⟨by decide, by decide⟩ (mx_X1_sayAtMost_b hlt h0 h1 h2 h3 h4 h5 h6 n wn t tc sc uw c1 c2 s ow hf tf co a1 hco ha1), (mf_X2_sayAtMost_b m0 m1 m2 m3 m4 m5 m6 th n uw tc sc ht sn o nx kp ow2 co a1 hco ha1 hn hsn hht), fun r1 u1 r2 u2 q1 q2 => ?_⟩
      · decide
      · decide
      obtain ⟨rfl, rfl⟩ := q1
      obtain ⟨-, rfl⟩ := q2
      exact ⟨_, n, wn, t, tc, sc, uw, c1, c2, s, ow, hf, tf, m1, m2, m3, m4, m5, m6, 2, uw, tc, sc, ht, sn, o, nx, kp, ow2, rfl, rfl, R, by omega, by decide, rfl, fun h => absurd h (by decide)⟩
  · refine ⟨_, _, _, _, ?_, ?_, w_L_sayAtMost_1 _ _ h0 ao _ f _ _ _ _ _ _ ⟨by decide, by decide⟩ (mx_X1_sayAtMost_a hlt h0 h1 h2 h3 h4 h5 h6 n wn t tc sc uw c1 c2 s ow hf tf a0 a1 ha0), (mf_X2_sayAtMost_a m0 m1 m2 m3 m4 m5 m6 th n uw tc sc ht sn o nx kp ow2 a0 a1 ha0 hn hsn hht), fun r1 u1 r2 u2 q1 q2 => ?_⟩
    · decide
    · decide
    obtain ⟨rfl, rfl⟩ := q1
    obtain ⟨-, rfl⟩ := q2
    exact ⟨_, n, wn, t, tc, sc, uw, c1, c2, s, ow, hf, tf, m1, m2, m3, m4, m5, m6, 1, uw, tc, sc, ht, sn, o, nx, kp, ow2, rfl, rfl, R, by omega, by decide, rfl, fun h => absurd h (by decide)⟩

set_option maxHeartbeats 4000000 in
set_option maxRecDepth 100000 in
theorem op_hatOf (hlt : l.stackTraces = false) (ao h0 h1 h2 h3 h4 h5 h6 n wn t tc sc : Nat) (uw : Bool) (c1 c2 : Nat) (s ow hf tf : Nat → Nat) (f : Nat → Int64) (m0 m1 m2 m3 m4 m5 m6 th : Nat) (bg : Bool) (tn sl : Nat) (ht sn : Nat → Nat) (o nx kp : Nat → Bool) (ow2 : Nat → Nat) (R : Rl n wn t tc sc uw c1 s hf bg tn sl ht sn o) (htn : tn < 2 ^ 20) (a0 : Int32) : OP l (dC, dI) (tyL cI cZ cJ) yL_hatOf ws_L_hatOf yX2_hatOf ws_X2_hatOf [.ref h0, .int a0, .ref ao] [.ref m0, .int a0] (GO cI cJ ao h0 h1 h2 h3 h4 h5 h6 f n wn t tc sc uw c1 c2 s ow hf tf) (mW cI cZ m0 m1 m2 m3 m4 m5 m6 th n bg tn sl ht sn o nx kp ow2) (JQ cI cZ cJ ao h0 h1 h2 h3 h4 h5 h6 m0 tn AnsI) := by
  have e1 : uw = bg := R.2.2.2.2.1
  subst e1
  have e2 : tc = tn := R.2.2.2.2.2.1
  subst e2
  have e3 : sc = sl := R.2.2.2.2.2.2.1
  subst e3
  obtain ⟨hn, hw, hs, hc1, hb1, ht5, hsn, hht⟩ := R.inv
  have C := R.cx
  have P := R.rp
  rcases arg_cs a0 n with ⟨j, hj, rfl⟩ | ha0
  · refine ⟨_, _, _, _, ?_, ?_, w_L_hatOf_ok _ h0 ao _ f _ _ _ _ _ _ ⟨by decide, by decide⟩ (m_X1_hatOf h0 h1 h2 h3 h4 h5 h6 n wn t tc sc uw c1 c2 s ow hf tf j hj hn hw hs hc1 hb1) (fun a u q => by obtain ⟨rfl, -⟩ := q; exact List.Perm.refl _), (m_X2_hatOf m0 m1 m2 m3 m4 m5 m6 th n uw tc sc ht sn o nx kp ow2 j hn hj), fun r1 u1 r2 u2 q1 q2 => ?_⟩
    · decide
    · decide
    obtain ⟨rfl, a, w1, ⟨rfl, rfl⟩, rfl⟩ := q1
    obtain ⟨rfl, rfl⟩ := q2
    exact ⟨_, _, _, _, _, _, _, _, _, _, _, _, _, _, _, _, _, _, _, _, _, _, _, _, _, _, _, _, _, rfl, rfl, R, by omega, by decide, rfl, fun _ => (upd0 _ _).trans (congrArg Int32.toInt64 (congrArg nI (C.qdr hj)))⟩
  · refine ⟨_, _, _, _, ?_, ?_, w_L_hatOf_1 _ h0 ao _ f _ _ _ _ _ _ ⟨by decide, by decide⟩ (mx_X1_hatOf_a hlt h0 h1 h2 h3 h4 h5 h6 n wn t tc sc uw c1 c2 s ow hf tf a0 hn ha0), (mf_X2_hatOf_a m0 m1 m2 m3 m4 m5 m6 th n uw tc sc ht sn o nx kp ow2 a0 hn ha0), fun r1 u1 r2 u2 q1 q2 => ?_⟩
    · decide
    · decide
    obtain ⟨rfl, rfl⟩ := q1
    obtain rfl := q2
    exact ⟨_, n, wn, t, tc, sc, uw, c1, c2, s, ow, hf, tf, m1, m2, m3, m4, m5, m6, 1, uw, tc, sc, ht, sn, o, nx, kp, ow2, rfl, rfl, R, by omega, by decide, rfl, fun h => absurd h (by decide)⟩

set_option maxHeartbeats 4000000 in
set_option maxRecDepth 100000 in
theorem op_sees (hlt : l.stackTraces = false) (ao h0 h1 h2 h3 h4 h5 h6 n wn t tc sc : Nat) (uw : Bool) (c1 c2 : Nat) (s ow hf tf : Nat → Nat) (f : Nat → Int64) (m0 m1 m2 m3 m4 m5 m6 th : Nat) (bg : Bool) (tn sl : Nat) (ht sn : Nat → Nat) (o nx kp : Nat → Bool) (ow2 : Nat → Nat) (R : Rl n wn t tc sc uw c1 s hf bg tn sl ht sn o) (htn : tn < 2 ^ 20) (a0 a1 : Int32) : OP l (dC, dI) (tyL cI cZ cJ) yL_sees ws_L_sees yX2_sees_ ws_X2_sees_ [.ref h0, .int a0, .int a1, .ref ao] [.ref m0, .int a0, .int a1] (GO cI cJ ao h0 h1 h2 h3 h4 h5 h6 f n wn t tc sc uw c1 c2 s ow hf tf) (mW cI cZ m0 m1 m2 m3 m4 m5 m6 th n bg tn sl ht sn o nx kp ow2) (JQ cI cZ cJ ao h0 h1 h2 h3 h4 h5 h6 m0 tn AnsB) := by
  have e1 : uw = bg := R.2.2.2.2.1
  subst e1
  have e2 : tc = tn := R.2.2.2.2.2.1
  subst e2
  have e3 : sc = sl := R.2.2.2.2.2.2.1
  subst e3
  obtain ⟨hn, hw, hs, hc1, hb1, ht5, hsn, hht⟩ := R.inv
  have C := R.cx
  have P := R.rp
  rcases arg_cs a0 n with ⟨j, hj, rfl⟩ | ha0
  · rcases arg_cs a1 n with ⟨k, hk, rfl⟩ | ha1
    · refine ⟨_, _, _, _, ?_, ?_, w_L_sees_ok _ _ h0 ao _ f _ _ _ _ _ _ ⟨by decide, by decide⟩ (m_X1_sees h0 h1 h2 h3 h4 h5 h6 n wn t tc sc uw c1 c2 s ow hf tf j k hj hk hn hw hs hc1 hb1) (fun a u q => by obtain ⟨rfl, -⟩ := q; exact List.Perm.refl _) (fun a u q => ⟨_, q.2⟩), (m_X2_sees_ m0 m1 m2 m3 m4 m5 m6 th n uw tc sc ht sn o nx kp ow2 j k hn hsn hj hk), fun r1 u1 r2 u2 q1 q2 => ?_⟩
      · decide
      · decide
      obtain ⟨rfl, b, w1, ⟨rfl, hbq⟩, rfl⟩ := q1
      obtain ⟨rfl, rfl⟩ := q2
      have hb2 := bI_inj.mp hbq
      subst hb2
      exact ⟨_, _, _, _, _, _, _, _, _, _, _, _, _, _, _, _, _, _, _, _, _, _, _, _, _, _, _, _, _, rfl, rfl, R, by omega, by decide, rfl, fun _ => ⟨_, rfl, (upd0 _ _).trans (congrArg lB (C.see hj (by omega)))⟩⟩
    · refine ⟨_, _, _, _, ?_, ?_, w_L_sees_1 _ _ h0 ao _ f _ _ _ _ _ _ ⟨by decide, by decide⟩ (mx_X1_sees_b hlt h0 h1 h2 h3 h4 h5 h6 n wn t tc sc uw c1 c2 s ow hf tf j a1 hn hj ha1), (mf_X2_sees__b m0 m1 m2 m3 m4 m5 m6 th n uw tc sc ht sn o nx kp ow2 j a1 hj ha1 hn), fun r1 u1 r2 u2 q1 q2 => ?_⟩
      · decide
      · decide
      obtain ⟨rfl, rfl⟩ := q1
      obtain rfl := q2
      exact ⟨_, n, wn, t, tc, sc, uw, c1, c2, s, ow, hf, tf, m1, m2, m3, m4, m5, m6, 1, uw, tc, sc, ht, sn, o, nx, kp, ow2, rfl, rfl, R, by omega, by decide, rfl, fun h => absurd h (by decide)⟩
  · refine ⟨_, _, _, _, ?_, ?_, w_L_sees_1 _ _ h0 ao _ f _ _ _ _ _ _ ⟨by decide, by decide⟩ (mx_X1_sees_a hlt h0 h1 h2 h3 h4 h5 h6 n wn t tc sc uw c1 c2 s ow hf tf a0 a1 hn ha0), (mf_X2_sees__a m0 m1 m2 m3 m4 m5 m6 th n uw tc sc ht sn o nx kp ow2 a0 a1 ha0 hn), fun r1 u1 r2 u2 q1 q2 => ?_⟩
    · decide
    · decide
    obtain ⟨rfl, rfl⟩ := q1
    obtain rfl := q2
    exact ⟨_, n, wn, t, tc, sc, uw, c1, c2, s, ow, hf, tf, m1, m2, m3, m4, m5, m6, 1, uw, tc, sc, ht, sn, o, nx, kp, ow2, rfl, rfl, R, by omega, by decide, rfl, fun h => absurd h (by decide)⟩

set_option maxHeartbeats 4000000 in
set_option maxRecDepth 100000 in
theorem op_hatsOf (hlt : l.stackTraces = false) (ao h0 h1 h2 h3 h4 h5 h6 n wn t tc sc : Nat) (uw : Bool) (c1 c2 : Nat) (s ow hf tf : Nat → Nat) (f : Nat → Int64) (m0 m1 m2 m3 m4 m5 m6 th : Nat) (bg : Bool) (tn sl : Nat) (ht sn : Nat → Nat) (o nx kp : Nat → Bool) (ow2 : Nat → Nat) (R : Rl n wn t tc sc uw c1 s hf bg tn sl ht sn o) (htn : tn < 2 ^ 20) (a0 : Int32) : OP l (dC, dI) (tyL cI cZ cJ) yL_hatsOf ws_L_hatsOf yX2_hatsOf ws_X2_hatsOf [.ref h0, .int a0, .ref ao] [.ref m0, .int a0] (GO cI cJ ao h0 h1 h2 h3 h4 h5 h6 f n wn t tc sc uw c1 c2 s ow hf tf) (mW cI cZ m0 m1 m2 m3 m4 m5 m6 th n bg tn sl ht sn o nx kp ow2) (JQ cI cZ cJ ao h0 h1 h2 h3 h4 h5 h6 m0 tn AnsI) := by
  have e1 : uw = bg := R.2.2.2.2.1
  subst e1
  have e2 : tc = tn := R.2.2.2.2.2.1
  subst e2
  have e3 : sc = sl := R.2.2.2.2.2.2.1
  subst e3
  obtain ⟨hn, hw, hs, hc1, hb1, ht5, hsn, hht⟩ := R.inv
  have C := R.cx
  have P := R.rp
  rcases arg_cs a0 3 with ⟨co, hco, rfl⟩ | ha0
  · refine ⟨_, _, _, _, ?_, ?_, w_L_hatsOf_ok _ h0 ao _ f _ _ _ _ _ _ ⟨by decide, by decide⟩ (m_X1_hatsOf h0 h1 h2 h3 h4 h5 h6 n wn t tc sc uw c1 c2 s ow hf tf co hco hn hw hs hc1 hb1) (fun a u q => by obtain ⟨rfl, -⟩ := q; exact List.Perm.refl _), (m_X2_hatsOf m0 m1 m2 m3 m4 m5 m6 th n uw tc sc ht sn o nx kp ow2 co hn hsn hht hco), fun r1 u1 r2 u2 q1 q2 => ?_⟩
    · decide
    · decide
    obtain ⟨rfl, a, w1, ⟨rfl, rfl⟩, rfl⟩ := q1
    obtain ⟨rfl, rfl⟩ := q2
    exact ⟨_, _, _, _, _, _, _, _, _, _, _, _, _, _, _, _, _, _, _, _, _, _, _, _, _, _, _, _, _, rfl, rfl, R, by omega, by decide, rfl, fun _ => (upd0 _ _).trans (congrArg Int32.toInt64 (congrArg nI (C.hatr co)))⟩
  · refine ⟨_, _, _, _, ?_, ?_, w_L_hatsOf_1 _ h0 ao _ f _ _ _ _ _ _ ⟨by decide, by decide⟩ (mx_X1_hatsOf_a hlt h0 h1 h2 h3 h4 h5 h6 n wn t tc sc uw c1 c2 s ow hf tf a0 ha0), (mf_X2_hatsOf_a m0 m1 m2 m3 m4 m5 m6 th n uw tc sc ht sn o nx kp ow2 a0 ha0 hn), fun r1 u1 r2 u2 q1 q2 => ?_⟩
    · decide
    · decide
    obtain ⟨rfl, rfl⟩ := q1
    obtain rfl := q2
    exact ⟨_, n, wn, t, tc, sc, uw, c1, c2, s, ow, hf, tf, m1, m2, m3, m4, m5, m6, 1, uw, tc, sc, ht, sn, o, nx, kp, ow2, rfl, rfl, R, by omega, by decide, rfl, fun h => absurd h (by decide)⟩

set_option maxHeartbeats 4000000 in
set_option maxRecDepth 100000 in
theorem op_openWaysWith (hlt : l.stackTraces = false) (ao h0 h1 h2 h3 h4 h5 h6 n wn t tc sc : Nat) (uw : Bool) (c1 c2 : Nat) (s ow hf tf : Nat → Nat) (f : Nat → Int64) (m0 m1 m2 m3 m4 m5 m6 th : Nat) (bg : Bool) (tn sl : Nat) (ht sn : Nat → Nat) (o nx kp : Nat → Bool) (ow2 : Nat → Nat) (R : Rl n wn t tc sc uw c1 s hf bg tn sl ht sn o) (htn : tn < 2 ^ 20) (a0 a1 : Int32) : OP l (dC, dI) (tyL cI cZ cJ) yL_openWaysWith ws_L_openWaysWith yX2_openWaysWith ws_X2_openWaysWith [.ref h0, .int a0, .int a1, .ref ao] [.ref m0, .int a0, .int a1] (GO cI cJ ao h0 h1 h2 h3 h4 h5 h6 f n wn t tc sc uw c1 c2 s ow hf tf) (mW cI cZ m0 m1 m2 m3 m4 m5 m6 th n bg tn sl ht sn o nx kp ow2) (JQ cI cZ cJ ao h0 h1 h2 h3 h4 h5 h6 m0 tn AnsI) := by
  have e1 : uw = bg := R.2.2.2.2.1
  subst e1
  have e2 : tc = tn := R.2.2.2.2.2.1
  subst e2
  have e3 : sc = sl := R.2.2.2.2.2.2.1
  subst e3
  obtain ⟨hn, hw, hs, hc1, hb1, ht5, hsn, hht⟩ := R.inv
  have C := R.cx
  have P := R.rp
  rcases arg_cs a0 n with ⟨j, hj, rfl⟩ | ha0
  · rcases arg_cs a1 3 with ⟨co, hco, rfl⟩ | ha1
    · refine ⟨_, _, _, _, ?_, ?_, w_L_openWaysWith_ok _ _ h0 ao _ f _ _ _ _ _ _ ⟨by decide, by decide⟩ (m_X1_openWaysWith h0 h1 h2 h3 h4 h5 h6 n wn t tc sc uw c1 c2 s ow hf tf j co hj hco hn hw hs hc1 hb1) (fun a u q => by obtain ⟨rfl, -⟩ := q; exact List.Perm.refl _), (m_X2_openWaysWith m0 m1 m2 m3 m4 m5 m6 th n uw tc sc ht sn o nx kp ow2 j co hn hj hco), fun r1 u1 r2 u2 q1 q2 => ?_⟩
      · decide
      · decide
      obtain ⟨rfl, a, w1, ⟨rfl, rfl⟩, rfl⟩ := q1
      obtain ⟨rfl, rfl⟩ := q2
      exact ⟨_, _, _, _, _, _, _, _, _, _, _, _, _, _, _, _, _, _, _, _, _, _, _, _, _, _, _, _, _, rfl, rfl, R, by omega, by decide, rfl, fun _ => (upd0 _ _).trans (congrArg Int32.toInt64 (congrArg nI (C.withN P hj)))⟩
    · refine ⟨_, _, _, _, ?_, ?_, w_L_openWaysWith_1 _ _ h0 ao _ f _ _ _ _ _ _ ⟨by decide, by decide⟩ (mx_X1_openWaysWith_b hlt h0 h1 h2 h3 h4 h5 h6 n wn t tc sc uw c1 c2 s ow hf tf j a1 hn hj ha1), (mf_X2_openWaysWith_b m0 m1 m2 m3 m4 m5 m6 th n uw tc sc ht sn o nx kp ow2 j a1 hj ha1 hn), fun r1 u1 r2 u2 q1 q2 => ?_⟩
      · decide
      · decide
      obtain ⟨rfl, rfl⟩ := q1
      obtain rfl := q2
      exact ⟨_, n, wn, t, tc, sc, uw, c1, c2, s, ow, hf, tf, m1, m2, m3, m4, m5, m6, 1, uw, tc, sc, ht, sn, o, nx, kp, ow2, rfl, rfl, R, by omega, by decide, rfl, fun h => absurd h (by decide)⟩
  · refine ⟨_, _, _, _, ?_, ?_, w_L_openWaysWith_1 _ _ h0 ao _ f _ _ _ _ _ _ ⟨by decide, by decide⟩ (mx_X1_openWaysWith_a hlt h0 h1 h2 h3 h4 h5 h6 n wn t tc sc uw c1 c2 s ow hf tf a0 a1 hn ha0), (mf_X2_openWaysWith_a m0 m1 m2 m3 m4 m5 m6 th n uw tc sc ht sn o nx kp ow2 a0 a1 ha0 hn), fun r1 u1 r2 u2 q1 q2 => ?_⟩
    · decide
    · decide
    obtain ⟨rfl, rfl⟩ := q1
    obtain rfl := q2
    exact ⟨_, n, wn, t, tc, sc, uw, c1, c2, s, ow, hf, tf, m1, m2, m3, m4, m5, m6, 1, uw, tc, sc, ht, sn, o, nx, kp, ow2, rfl, rfl, R, by omega, by decide, rfl, fun h => absurd h (by decide)⟩

set_option maxHeartbeats 4000000 in
set_option maxRecDepth 100000 in
theorem op_isKnownToAll (hlt : l.stackTraces = false) (ao h0 h1 h2 h3 h4 h5 h6 n wn t tc sc : Nat) (uw : Bool) (c1 c2 : Nat) (s ow hf tf : Nat → Nat) (f : Nat → Int64) (m0 m1 m2 m3 m4 m5 m6 th : Nat) (bg : Bool) (tn sl : Nat) (ht sn : Nat → Nat) (o nx kp : Nat → Bool) (ow2 : Nat → Nat) (R : Rl n wn t tc sc uw c1 s hf bg tn sl ht sn o) (htn : tn < 2 ^ 20) (a0 : Int32) : OP l (dC, dI) (tyL cI cZ cJ) yL_isKnownToAll ws_L_isKnownToAll yX2_isKnownToAll ws_X2_isKnownToAll [.ref h0, .int a0, .ref ao] [.ref m0, .int a0] (GO cI cJ ao h0 h1 h2 h3 h4 h5 h6 f n wn t tc sc uw c1 c2 s ow hf tf) (mW cI cZ m0 m1 m2 m3 m4 m5 m6 th n bg tn sl ht sn o nx kp ow2) (JQ cI cZ cJ ao h0 h1 h2 h3 h4 h5 h6 m0 tn AnsB) := by
  have e1 : uw = bg := R.2.2.2.2.1
  subst e1
  have e2 : tc = tn := R.2.2.2.2.2.1
  subst e2
  have e3 : sc = sl := R.2.2.2.2.2.2.1
  subst e3
  obtain ⟨hn, hw, hs, hc1, hb1, ht5, hsn, hht⟩ := R.inv
  have C := R.cx
  have P := R.rp
  rcases arg_cs a0 n with ⟨j, hj, rfl⟩ | ha0
  · refine ⟨_, _, _, _, ?_, ?_, w_L_isKnownToAll_ok _ h0 ao _ f _ _ _ _ _ _ ⟨by decide, by decide⟩ (m_X1_isKnownToAll h0 h1 h2 h3 h4 h5 h6 n wn t tc sc uw c1 c2 s ow hf tf j hj hn hw hs hc1 hb1) (fun a u q => by obtain ⟨rfl, -⟩ := q; exact List.Perm.refl _) (fun a u q => ⟨_, q.2⟩), (m_X2_isKnownToAll m0 m1 m2 m3 m4 m5 m6 th n uw tc sc ht sn o nx kp ow2 j hn hht hj), fun r1 u1 r2 u2 q1 q2 => ?_⟩
    · decide
    · decide
    obtain ⟨rfl, b, w1, ⟨rfl, hbq⟩, rfl⟩ := q1
    obtain ⟨rfl, rfl⟩ := q2
    have hb2 := bI_inj.mp hbq
    subst hb2
    exact ⟨_, _, _, _, _, _, _, _, _, _, _, _, _, _, _, _, _, _, _, _, _, _, _, _, _, _, _, _, _, rfl, rfl, R, by omega, by decide, rfl, fun _ => ⟨_, rfl, (upd0 _ _).trans (congrArg lB (C.all P hj))⟩⟩
  · refine ⟨_, _, _, _, ?_, ?_, w_L_isKnownToAll_1 _ h0 ao _ f _ _ _ _ _ _ ⟨by decide, by decide⟩ (mx_X1_isKnownToAll_a hlt h0 h1 h2 h3 h4 h5 h6 n wn t tc sc uw c1 c2 s ow hf tf a0 hn ha0), (mf_X2_isKnownToAll_a m0 m1 m2 m3 m4 m5 m6 th n uw tc sc ht sn o nx kp ow2 a0 hn ha0), fun r1 u1 r2 u2 q1 q2 => ?_⟩
    · decide
    · decide
    obtain ⟨rfl, rfl⟩ := q1
    obtain rfl := q2
    exact ⟨_, n, wn, t, tc, sc, uw, c1, c2, s, ow, hf, tf, m1, m2, m3, m4, m5, m6, 1, uw, tc, sc, ht, sn, o, nx, kp, ow2, rfl, rfl, R, by omega, by decide, rfl, fun h => absurd h (by decide)⟩

set_option maxHeartbeats 4000000 in
set_option maxRecDepth 100000 in
theorem op_possibleWays (hlt : l.stackTraces = false) (ao h0 h1 h2 h3 h4 h5 h6 n wn t tc sc : Nat) (uw : Bool) (c1 c2 : Nat) (s ow hf tf : Nat → Nat) (f : Nat → Int64) (m0 m1 m2 m3 m4 m5 m6 th : Nat) (bg : Bool) (tn sl : Nat) (ht sn : Nat → Nat) (o nx kp : Nat → Bool) (ow2 : Nat → Nat) (R : Rl n wn t tc sc uw c1 s hf bg tn sl ht sn o) (htn : tn < 2 ^ 20) (a0 : Int32) : OP l (dC, dI) (tyL cI cZ cJ) yL_possibleWays ws_L_possibleWays yX2_possibleWays ws_X2_possibleWays [.ref h0, .int a0, .ref ao] [.ref m0, .int a0] (GO cI cJ ao h0 h1 h2 h3 h4 h5 h6 f n wn t tc sc uw c1 c2 s ow hf tf) (mW cI cZ m0 m1 m2 m3 m4 m5 m6 th n bg tn sl ht sn o nx kp ow2) (JQ cI cZ cJ ao h0 h1 h2 h3 h4 h5 h6 m0 tn AnsI) := by
  have e1 : uw = bg := R.2.2.2.2.1
  subst e1
  have e2 : tc = tn := R.2.2.2.2.2.1
  subst e2
  have e3 : sc = sl := R.2.2.2.2.2.2.1
  subst e3
  obtain ⟨hn, hw, hs, hc1, hb1, ht5, hsn, hht⟩ := R.inv
  have C := R.cx
  have P := R.rp
  rcases arg_cs a0 n with ⟨j, hj, rfl⟩ | ha0
  · refine ⟨_, _, _, _, ?_, ?_, w_L_possibleWays_ok _ h0 ao _ f _ _ _ _ _ _ ⟨by decide, by decide⟩ (m_X1_possibleWays h0 h1 h2 h3 h4 h5 h6 n wn t tc sc uw c1 c2 s ow hf tf j hj hn hw hs hc1 hb1) (fun a u q => by obtain ⟨rfl, -⟩ := q; exact List.Perm.refl _), (m_X2_possibleWays m0 m1 m2 m3 m4 m5 m6 th n uw tc sc ht sn o nx kp ow2 j hn hsn hht hj), fun r1 u1 r2 u2 q1 q2 => ?_⟩
    · decide
    · decide
    obtain ⟨rfl, a, w1, ⟨rfl, rfl⟩, rfl⟩ := q1
    obtain ⟨rfl, rfl⟩ := q2
    exact ⟨_, _, _, _, _, _, _, _, _, _, _, _, _, _, _, _, _, _, _, _, _, _, _, _, _, _, _, _, _, rfl, rfl, R, by omega, by decide, rfl, fun _ => (upd0 _ _).trans (congrArg Int32.toInt64 (congrArg nI (C.poss P hj)))⟩
  · refine ⟨_, _, _, _, ?_, ?_, w_L_possibleWays_1 _ h0 ao _ f _ _ _ _ _ _ ⟨by decide, by decide⟩ (mx_X1_possibleWays_a hlt h0 h1 h2 h3 h4 h5 h6 n wn t tc sc uw c1 c2 s ow hf tf a0 hn ha0), (mf_X2_possibleWays_a m0 m1 m2 m3 m4 m5 m6 th n uw tc sc ht sn o nx kp ow2 a0 hn ha0), fun r1 u1 r2 u2 q1 q2 => ?_⟩
    · decide
    · decide
    obtain ⟨rfl, rfl⟩ := q1
    obtain rfl := q2
    exact ⟨_, n, wn, t, tc, sc, uw, c1, c2, s, ow, hf, tf, m1, m2, m3, m4, m5, m6, 1, uw, tc, sc, ht, sn, o, nx, kp, ow2, rfl, rfl, R, by omega, by decide, rfl, fun h => absurd h (by decide)⟩

set_option maxHeartbeats 4000000 in
set_option maxRecDepth 100000 in
theorem op_holdsPossible (hlt : l.stackTraces = false) (ao h0 h1 h2 h3 h4 h5 h6 n wn t tc sc : Nat) (uw : Bool) (c1 c2 : Nat) (s ow hf tf : Nat → Nat) (f : Nat → Int64) (m0 m1 m2 m3 m4 m5 m6 th : Nat) (bg : Bool) (tn sl : Nat) (ht sn : Nat → Nat) (o nx kp : Nat → Bool) (ow2 : Nat → Nat) (R : Rl n wn t tc sc uw c1 s hf bg tn sl ht sn o) (htn : tn < 2 ^ 20) (a0 a1 a2 : Int32) : OP l (dC, dI) (tyL cI cZ cJ) yL_holdsPossible ws_L_holdsPossible yX2_holdsPossible ws_X2_holdsPossible [.ref h0, .int a0, .int a1, .int a2, .ref ao] [.ref m0, .int a0, .int a1, .int a2] (GO cI cJ ao h0 h1 h2 h3 h4 h5 h6 f n wn t tc sc uw c1 c2 s ow hf tf) (mW cI cZ m0 m1 m2 m3 m4 m5 m6 th n bg tn sl ht sn o nx kp ow2) (JQ cI cZ cJ ao h0 h1 h2 h3 h4 h5 h6 m0 tn AnsB) := by
  have e1 : uw = bg := R.2.2.2.2.1
  subst e1
  have e2 : tc = tn := R.2.2.2.2.2.1
  subst e2
  have e3 : sc = sl := R.2.2.2.2.2.2.1
  subst e3
  obtain ⟨hn, hw, hs, hc1, hb1, ht5, hsn, hht⟩ := R.inv
  have C := R.cx
  have P := R.rp
  rcases arg_cs a0 n with ⟨j, hj, rfl⟩ | ha0
  · rcases arg_cs a1 n with ⟨k, hk, rfl⟩ | ha1
    · rcases arg_cs a2 3 with ⟨co, hco, rfl⟩ | ha2
      · refine ⟨_, _, _, _, ?_, ?_, w_L_holdsPossible_ok _ _ _ h0 ao _ f _ _ _ _ _ _ ⟨by decide, by decide⟩ (m_X1_holdsPossible h0 h1 h2 h3 h4 h5 h6 n wn t tc sc uw c1 c2 s ow hf tf j k co hj hk hco hn hw hs hc1 hb1) (fun a u q => by obtain ⟨rfl, -⟩ := q; exact List.Perm.refl _) (fun a u q => ⟨_, q.2⟩), (m_X2_holdsPossible m0 m1 m2 m3 m4 m5 m6 th n uw tc sc ht sn o nx kp ow2 j k co hn hsn hht hj hk hco), fun r1 u1 r2 u2 q1 q2 => ?_⟩
        · decide
        · decide
        obtain ⟨rfl, b, w1, ⟨rfl, hbq⟩, rfl⟩ := q1
        obtain ⟨rfl, rfl⟩ := q2
        have hb2 := bI_inj.mp hbq
        subst hb2
        exact ⟨_, _, _, _, _, _, _, _, _, _, _, _, _, _, _, _, _, _, _, _, _, _, _, _, _, _, _, _, _, rfl, rfl, R, by omega, by decide, rfl, fun _ => ⟨_, rfl, (upd0 _ _).trans (congrArg lB (by rw [C.pc P hj hk]; exact col_bit _ (col_lt ..) _ hco))⟩⟩
      · refine ⟨_, _, _, _, ?_, ?_, w_L_holdsPossible_1 _ _ _ h0 ao _ f _ _ _ _ _ _ ⟨by decide, by decide⟩ (mx_X1_holdsPossible_c hlt h0 h1 h2 h3 h4 h5 h6 n wn t tc sc uw c1 c2 s ow hf tf j k a2 hn hj hk ha2), (mf_X2_holdsPossible_c m0 m1 m2 m3 m4 m5 m6 th n uw tc sc ht sn o nx kp ow2 j k a2 hj hk ha2 hn), fun r1 u1 r2 u2 q1 q2 => ?_⟩
        · decide
        · decide
        obtain ⟨rfl, rfl⟩ := q1
        obtain rfl := q2
        exact ⟨_, n, wn, t, tc, sc, uw, c1, c2, s, ow, hf, tf, m1, m2, m3, m4, m5, m6, 1, uw, tc, sc, ht, sn, o, nx, kp, ow2, rfl, rfl, R, by omega, by decide, rfl, fun h => absurd h (by decide)⟩
    · refine ⟨_, _, _, _, ?_, ?_, w_L_holdsPossible_1 _ _ _ h0 ao _ f _ _ _ _ _ _ ⟨by decide, by decide⟩ (mx_X1_holdsPossible_b hlt h0 h1 h2 h3 h4 h5 h6 n wn t tc sc uw c1 c2 s ow hf tf j a1 a2 hn hj ha1), (mf_X2_holdsPossible_b m0 m1 m2 m3 m4 m5 m6 th n uw tc sc ht sn o nx kp ow2 j a1 a2 hj ha1 hn), fun r1 u1 r2 u2 q1 q2 => ?_⟩
      · decide
      · decide
      obtain ⟨rfl, rfl⟩ := q1
      obtain rfl := q2
      exact ⟨_, n, wn, t, tc, sc, uw, c1, c2, s, ow, hf, tf, m1, m2, m3, m4, m5, m6, 1, uw, tc, sc, ht, sn, o, nx, kp, ow2, rfl, rfl, R, by omega, by decide, rfl, fun h => absurd h (by decide)⟩
  · refine ⟨_, _, _, _, ?_, ?_, w_L_holdsPossible_1 _ _ _ h0 ao _ f _ _ _ _ _ _ ⟨by decide, by decide⟩ (mx_X1_holdsPossible_a hlt h0 h1 h2 h3 h4 h5 h6 n wn t tc sc uw c1 c2 s ow hf tf a0 a1 a2 hn ha0), (mf_X2_holdsPossible_a m0 m1 m2 m3 m4 m5 m6 th n uw tc sc ht sn o nx kp ow2 a0 a1 a2 ha0 hn), fun r1 u1 r2 u2 q1 q2 => ?_⟩
    · decide
    · decide
    obtain ⟨rfl, rfl⟩ := q1
    obtain rfl := q2
    exact ⟨_, n, wn, t, tc, sc, uw, c1, c2, s, ow, hf, tf, m1, m2, m3, m4, m5, m6, 1, uw, tc, sc, ht, sn, o, nx, kp, ow2, rfl, rfl, R, by omega, by decide, rfl, fun h => absurd h (by decide)⟩

set_option maxHeartbeats 4000000 in
set_option maxRecDepth 100000 in
theorem op_isCertain (hlt : l.stackTraces = false) (ao h0 h1 h2 h3 h4 h5 h6 n wn t tc sc : Nat) (uw : Bool) (c1 c2 : Nat) (s ow hf tf : Nat → Nat) (f : Nat → Int64) (m0 m1 m2 m3 m4 m5 m6 th : Nat) (bg : Bool) (tn sl : Nat) (ht sn : Nat → Nat) (o nx kp : Nat → Bool) (ow2 : Nat → Nat) (R : Rl n wn t tc sc uw c1 s hf bg tn sl ht sn o) (htn : tn < 2 ^ 20) (a0 : Int32) : OP l (dC, dI) (tyL cI cZ cJ) yL_isCertain ws_L_isCertain yX2_isCertain ws_X2_isCertain [.ref h0, .int a0, .ref ao] [.ref m0, .int a0] (GO cI cJ ao h0 h1 h2 h3 h4 h5 h6 f n wn t tc sc uw c1 c2 s ow hf tf) (mW cI cZ m0 m1 m2 m3 m4 m5 m6 th n bg tn sl ht sn o nx kp ow2) (JQ cI cZ cJ ao h0 h1 h2 h3 h4 h5 h6 m0 tn AnsB) := by
  have e1 : uw = bg := R.2.2.2.2.1
  subst e1
  have e2 : tc = tn := R.2.2.2.2.2.1
  subst e2
  have e3 : sc = sl := R.2.2.2.2.2.2.1
  subst e3
  obtain ⟨hn, hw, hs, hc1, hb1, ht5, hsn, hht⟩ := R.inv
  have C := R.cx
  have P := R.rp
  rcases arg_cs a0 n with ⟨j, hj, rfl⟩ | ha0
  · refine ⟨_, _, _, _, ?_, ?_, w_L_isCertain_ok _ h0 ao _ f _ _ _ _ _ _ ⟨by decide, by decide⟩ (m_X1_isCertain h0 h1 h2 h3 h4 h5 h6 n wn t tc sc uw c1 c2 s ow hf tf j hj hn hw hs hc1 hb1) (fun a u q => by obtain ⟨rfl, -⟩ := q; exact List.Perm.refl _) (fun a u q => ⟨_, q.2⟩), (m_X2_isCertain m0 m1 m2 m3 m4 m5 m6 th n uw tc sc ht sn o nx kp ow2 j hn hsn hht hj), fun r1 u1 r2 u2 q1 q2 => ?_⟩
    · decide
    · decide
    obtain ⟨rfl, b, w1, ⟨rfl, hbq⟩, rfl⟩ := q1
    obtain ⟨rfl, rfl⟩ := q2
    have hb2 := bI_inj.mp hbq
    subst hb2
    exact ⟨_, _, _, _, _, _, _, _, _, _, _, _, _, _, _, _, _, _, _, _, _, _, _, _, _, _, _, _, _, rfl, rfl, R, by omega, by decide, rfl, fun _ => ⟨_, rfl, (upd0 _ _).trans (congrArg lB (C.certB P hj))⟩⟩
  · refine ⟨_, _, _, _, ?_, ?_, w_L_isCertain_1 _ h0 ao _ f _ _ _ _ _ _ ⟨by decide, by decide⟩ (mx_X1_isCertain_a hlt h0 h1 h2 h3 h4 h5 h6 n wn t tc sc uw c1 c2 s ow hf tf a0 hn ha0), (mf_X2_isCertain_a m0 m1 m2 m3 m4 m5 m6 th n uw tc sc ht sn o nx kp ow2 a0 hn ha0), fun r1 u1 r2 u2 q1 q2 => ?_⟩
    · decide
    · decide
    obtain ⟨rfl, rfl⟩ := q1
    obtain rfl := q2
    exact ⟨_, n, wn, t, tc, sc, uw, c1, c2, s, ow, hf, tf, m1, m2, m3, m4, m5, m6, 1, uw, tc, sc, ht, sn, o, nx, kp, ow2, rfl, rfl, R, by omega, by decide, rfl, fun h => absurd h (by decide)⟩

set_option maxHeartbeats 4000000 in
set_option maxRecDepth 100000 in
theorem op_knowsHatOf (hlt : l.stackTraces = false) (ao h0 h1 h2 h3 h4 h5 h6 n wn t tc sc : Nat) (uw : Bool) (c1 c2 : Nat) (s ow hf tf : Nat → Nat) (f : Nat → Int64) (m0 m1 m2 m3 m4 m5 m6 th : Nat) (bg : Bool) (tn sl : Nat) (ht sn : Nat → Nat) (o nx kp : Nat → Bool) (ow2 : Nat → Nat) (R : Rl n wn t tc sc uw c1 s hf bg tn sl ht sn o) (htn : tn < 2 ^ 20) (a0 a1 : Int32) : OP l (dC, dI) (tyL cI cZ cJ) yL_knowsHatOf ws_L_knowsHatOf yX2_knowsHatOf ws_X2_knowsHatOf [.ref h0, .int a0, .int a1, .ref ao] [.ref m0, .int a0, .int a1] (GO cI cJ ao h0 h1 h2 h3 h4 h5 h6 f n wn t tc sc uw c1 c2 s ow hf tf) (mW cI cZ m0 m1 m2 m3 m4 m5 m6 th n bg tn sl ht sn o nx kp ow2) (JQ cI cZ cJ ao h0 h1 h2 h3 h4 h5 h6 m0 tn AnsB) := by
  have e1 : uw = bg := R.2.2.2.2.1
  subst e1
  have e2 : tc = tn := R.2.2.2.2.2.1
  subst e2
  have e3 : sc = sl := R.2.2.2.2.2.2.1
  subst e3
  obtain ⟨hn, hw, hs, hc1, hb1, ht5, hsn, hht⟩ := R.inv
  have C := R.cx
  have P := R.rp
  rcases arg_cs a0 n with ⟨j, hj, rfl⟩ | ha0
  · rcases arg_cs a1 n with ⟨k, hk, rfl⟩ | ha1
    · refine ⟨_, _, _, _, ?_, ?_, w_L_knowsHatOf_ok _ _ h0 ao _ f _ _ _ _ _ _ ⟨by decide, by decide⟩ (m_X1_knowsHatOf h0 h1 h2 h3 h4 h5 h6 n wn t tc sc uw c1 c2 s ow hf tf j k hj hk hn hw hs hc1 hb1) (fun a u q => by obtain ⟨rfl, -⟩ := q; exact List.Perm.refl _) (fun a u q => ⟨_, q.2⟩), (m_X2_knowsHatOf m0 m1 m2 m3 m4 m5 m6 th n uw tc sc ht sn o nx kp ow2 j k hn hsn hht hj hk), fun r1 u1 r2 u2 q1 q2 => ?_⟩
      · decide
      · decide
      obtain ⟨rfl, b, w1, ⟨rfl, hbq⟩, rfl⟩ := q1
      obtain ⟨rfl, rfl⟩ := q2
      have hb2 := bI_inj.mp hbq
      subst hb2
      exact ⟨_, _, _, _, _, _, _, _, _, _, _, _, _, _, _, _, _, _, _, _, _, _, _, _, _, _, _, _, _, rfl, rfl, R, by omega, by decide, rfl, fun _ => ⟨_, rfl, (upd0 _ _).trans (congrArg lB (C.knw P hj hk))⟩⟩
    · refine ⟨_, _, _, _, ?_, ?_, w_L_knowsHatOf_1 _ _ h0 ao _ f _ _ _ _ _ _ ⟨by decide, by decide⟩ (mx_X1_knowsHatOf_b hlt h0 h1 h2 h3 h4 h5 h6 n wn t tc sc uw c1 c2 s ow hf tf j a1 hn hj ha1), (mf_X2_knowsHatOf_b m0 m1 m2 m3 m4 m5 m6 th n uw tc sc ht sn o nx kp ow2 j a1 hj ha1 hn), fun r1 u1 r2 u2 q1 q2 => ?_⟩
      · decide
      · decide
      obtain ⟨rfl, rfl⟩ := q1
      obtain rfl := q2
      exact ⟨_, n, wn, t, tc, sc, uw, c1, c2, s, ow, hf, tf, m1, m2, m3, m4, m5, m6, 1, uw, tc, sc, ht, sn, o, nx, kp, ow2, rfl, rfl, R, by omega, by decide, rfl, fun h => absurd h (by decide)⟩
  · refine ⟨_, _, _, _, ?_, ?_, w_L_knowsHatOf_1 _ _ h0 ao _ f _ _ _ _ _ _ ⟨by decide, by decide⟩ (mx_X1_knowsHatOf_a hlt h0 h1 h2 h3 h4 h5 h6 n wn t tc sc uw c1 c2 s ow hf tf a0 a1 hn ha0), (mf_X2_knowsHatOf_a m0 m1 m2 m3 m4 m5 m6 th n uw tc sc ht sn o nx kp ow2 a0 a1 ha0 hn), fun r1 u1 r2 u2 q1 q2 => ?_⟩
    · decide
    · decide
    obtain ⟨rfl, rfl⟩ := q1
    obtain rfl := q2
    exact ⟨_, n, wn, t, tc, sc, uw, c1, c2, s, ow, hf, tf, m1, m2, m3, m4, m5, m6, 1, uw, tc, sc, ht, sn, o, nx, kp, ow2, rfl, rfl, R, by omega, by decide, rfl, fun h => absurd h (by decide)⟩

set_option maxHeartbeats 4000000 in
set_option maxRecDepth 100000 in
theorem op_knowsCertain (hlt : l.stackTraces = false) (ao h0 h1 h2 h3 h4 h5 h6 n wn t tc sc : Nat) (uw : Bool) (c1 c2 : Nat) (s ow hf tf : Nat → Nat) (f : Nat → Int64) (m0 m1 m2 m3 m4 m5 m6 th : Nat) (bg : Bool) (tn sl : Nat) (ht sn : Nat → Nat) (o nx kp : Nat → Bool) (ow2 : Nat → Nat) (R : Rl n wn t tc sc uw c1 s hf bg tn sl ht sn o) (htn : tn < 2 ^ 20) (a0 a1 : Int32) : OP l (dC, dI) (tyL cI cZ cJ) yL_knowsCertain ws_L_knowsCertain yX2_knowsCertain ws_X2_knowsCertain [.ref h0, .int a0, .int a1, .ref ao] [.ref m0, .int a0, .int a1] (GO cI cJ ao h0 h1 h2 h3 h4 h5 h6 f n wn t tc sc uw c1 c2 s ow hf tf) (mW cI cZ m0 m1 m2 m3 m4 m5 m6 th n bg tn sl ht sn o nx kp ow2) (JQ cI cZ cJ ao h0 h1 h2 h3 h4 h5 h6 m0 tn AnsB) := by
  have e1 : uw = bg := R.2.2.2.2.1
  subst e1
  have e2 : tc = tn := R.2.2.2.2.2.1
  subst e2
  have e3 : sc = sl := R.2.2.2.2.2.2.1
  subst e3
  obtain ⟨hn, hw, hs, hc1, hb1, ht5, hsn, hht⟩ := R.inv
  have C := R.cx
  have P := R.rp
  rcases arg_cs a0 n with ⟨j, hj, rfl⟩ | ha0
  · rcases arg_cs a1 n with ⟨k, hk, rfl⟩ | ha1
    · refine ⟨_, _, _, _, ?_, ?_, w_L_knowsCertain_ok _ _ h0 ao _ f _ _ _ _ _ _ ⟨by decide, by decide⟩ (m_X1_knowsCertain h0 h1 h2 h3 h4 h5 h6 n wn t tc sc uw c1 c2 s ow hf tf j k hj hk hn hw hs hc1 hb1) (fun a u q => by obtain ⟨-, og, rfl⟩ := q; exact List.Perm.refl _) (fun a u q => ⟨_, q.1⟩), (m_X2_knowsCertain m0 m1 m2 m3 m4 m5 m6 th n uw tc sc ht sn o nx kp ow2 j k hn hsn hht hj hk), fun r1 u1 r2 u2 q1 q2 => ?_⟩
      · decide
      · decide
      obtain ⟨rfl, b, w1, ⟨hbq, og, rfl⟩, rfl⟩ := q1
      obtain ⟨rfl, rfl⟩ := q2
      have hb2 := bI_inj.mp hbq
      subst hb2
      exact ⟨_, _, _, _, _, _, _, _, _, _, _, _, _, _, _, _, _, _, _, _, _, _, _, _, _, _, _, _, _, rfl, rfl, R, by omega, by decide, rfl, fun _ => ⟨_, rfl, (upd0 _ _).trans (congrArg lB (C.sure P hj hk))⟩⟩
    · refine ⟨_, _, _, _, ?_, ?_, w_L_knowsCertain_1 _ _ h0 ao _ f _ _ _ _ _ _ ⟨by decide, by decide⟩ (mx_X1_knowsCertain_b hlt h0 h1 h2 h3 h4 h5 h6 n wn t tc sc uw c1 c2 s ow hf tf j a1 hn hj ha1), (mf_X2_knowsCertain_b m0 m1 m2 m3 m4 m5 m6 th n uw tc sc ht sn o nx kp ow2 j a1 hj ha1 hn), fun r1 u1 r2 u2 q1 q2 => ?_⟩
      · decide
      · decide
      obtain ⟨rfl, rfl⟩ := q1
      obtain rfl := q2
      exact ⟨_, n, wn, t, tc, sc, uw, c1, c2, s, ow, hf, tf, m1, m2, m3, m4, m5, m6, 1, uw, tc, sc, ht, sn, o, nx, kp, ow2, rfl, rfl, R, by omega, by decide, rfl, fun h => absurd h (by decide)⟩
  · refine ⟨_, _, _, _, ?_, ?_, w_L_knowsCertain_1 _ _ h0 ao _ f _ _ _ _ _ _ ⟨by decide, by decide⟩ (mx_X1_knowsCertain_a hlt h0 h1 h2 h3 h4 h5 h6 n wn t tc sc uw c1 c2 s ow hf tf a0 a1 hn ha0), (mf_X2_knowsCertain_a m0 m1 m2 m3 m4 m5 m6 th n uw tc sc ht sn o nx kp ow2 a0 a1 ha0 hn), fun r1 u1 r2 u2 q1 q2 => ?_⟩
    · decide
    · decide
    obtain ⟨rfl, rfl⟩ := q1
    obtain rfl := q2
    exact ⟨_, n, wn, t, tc, sc, uw, c1, c2, s, ow, hf, tf, m1, m2, m3, m4, m5, m6, 1, uw, tc, sc, ht, sn, o, nx, kp, ow2, rfl, rfl, R, by omega, by decide, rfl, fun h => absurd h (by decide)⟩

set_option maxHeartbeats 4000000 in
set_option maxRecDepth 100000 in
theorem op_turnsUntilCertain (hlt : l.stackTraces = false) (ao h0 h1 h2 h3 h4 h5 h6 n wn t tc sc : Nat) (uw : Bool) (c1 c2 : Nat) (s ow hf tf : Nat → Nat) (f : Nat → Int64) (m0 m1 m2 m3 m4 m5 m6 th : Nat) (bg : Bool) (tn sl : Nat) (ht sn : Nat → Nat) (o nx kp : Nat → Bool) (ow2 : Nat → Nat) (R : Rl n wn t tc sc uw c1 s hf bg tn sl ht sn o) (htn : tn < 2 ^ 20) (a0 : Int32) : OP l (dC, dI) (tyL cI cZ cJ) yL_turnsUntilCertain ws_L_turnsUntilCertain yX2_turnsUntilCertain ws_X2_turnsUntilCertain [.ref h0, .int a0, .ref ao] [.ref m0, .int a0] (GO cI cJ ao h0 h1 h2 h3 h4 h5 h6 f n wn t tc sc uw c1 c2 s ow hf tf) (mW cI cZ m0 m1 m2 m3 m4 m5 m6 th n bg tn sl ht sn o nx kp ow2) (JQ cI cZ cJ ao h0 h1 h2 h3 h4 h5 h6 m0 tn AnsI) := by
  have e1 : uw = bg := R.2.2.2.2.1
  subst e1
  have e2 : tc = tn := R.2.2.2.2.2.1
  subst e2
  have e3 : sc = sl := R.2.2.2.2.2.2.1
  subst e3
  obtain ⟨hn, hw, hs, hc1, hb1, ht5, hsn, hht⟩ := R.inv
  have C := R.cx
  have P := R.rp
  rcases arg_cs a0 n with ⟨j, hj, rfl⟩ | ha0
  · refine ⟨_, _, _, _, ?_, ?_, w_L_turnsUntilCertain_ok _ h0 ao _ f _ _ _ _ _ _ ⟨by decide, by decide⟩ (m_X1_turnsUntilCertain h0 h1 h2 h3 h4 h5 h6 n wn t tc sc uw c1 c2 s ow hf tf j hj ht5 hn hw hs hc1 hb1) (fun a u q => by obtain ⟨-, k, og, g, rfl⟩ := q; exact List.Perm.refl _), (m_X2_turnsUntilCertain m0 m1 m2 m3 m4 m5 m6 th n uw tc sc ht sn o nx kp ow2 j hn hsn hht htn hj), fun r1 u1 r2 u2 q1 q2 => ?_⟩
    · decide
    · decide
    obtain ⟨rfl, a, w1, ⟨rfl, k, og, g, rfl⟩, rfl⟩ := q1
    obtain ⟨rfl, x, y, nx2, ow3, -, rfl⟩ := q2
    exact ⟨_, _, _, _, _, _, _, _, _, _, _, _, _, _, _, _, _, _, _, _, _, _, _, _, _, _, _, _, _, rfl, rfl, R, by omega, by decide, rfl, fun _ => (upd0 _ _).trans (congrArg Int32.toInt64 (congrArg oI (C.until1 P hj (R.2.2.2.1 (by omega)))))⟩
  · refine ⟨_, _, _, _, ?_, ?_, w_L_turnsUntilCertain_1 _ h0 ao _ f _ _ _ _ _ _ ⟨by decide, by decide⟩ (mx_X1_turnsUntilCertain_a hlt h0 h1 h2 h3 h4 h5 h6 n wn t tc sc uw c1 c2 s ow hf tf a0 hn ha0), (mf_X2_turnsUntilCertain_a m0 m1 m2 m3 m4 m5 m6 th n uw tc sc ht sn o nx kp ow2 a0 hn ha0), fun r1 u1 r2 u2 q1 q2 => ?_⟩
    · decide
    · decide
    obtain ⟨rfl, rfl⟩ := q1
    obtain rfl := q2
    exact ⟨_, n, wn, t, tc, sc, uw, c1, c2, s, ow, hf, tf, m1, m2, m3, m4, m5, m6, 1, uw, tc, sc, ht, sn, o, nx, kp, ow2, rfl, rfl, R, by omega, by decide, rfl, fun h => absurd h (by decide)⟩

set_option maxHeartbeats 4000000 in
set_option maxRecDepth 100000 in
theorem op_certainIfTold (hlt : l.stackTraces = false) (ao h0 h1 h2 h3 h4 h5 h6 n wn t tc sc : Nat) (uw : Bool) (c1 c2 : Nat) (s ow hf tf : Nat → Nat) (f : Nat → Int64) (m0 m1 m2 m3 m4 m5 m6 th : Nat) (bg : Bool) (tn sl : Nat) (ht sn : Nat → Nat) (o nx kp : Nat → Bool) (ow2 : Nat → Nat) (R : Rl n wn t tc sc uw c1 s hf bg tn sl ht sn o) (htn : tn < 2 ^ 20) (a0 : Int32) : OP l (dC, dI) (tyL cI cZ cJ) yL_certainIfTold ws_L_certainIfTold yX2_certainIfTold ws_X2_certainIfTold [.ref h0, .int a0, .ref ao] [.ref m0, .int a0] (GO cI cJ ao h0 h1 h2 h3 h4 h5 h6 f n wn t tc sc uw c1 c2 s ow hf tf) (mW cI cZ m0 m1 m2 m3 m4 m5 m6 th n bg tn sl ht sn o nx kp ow2) (JQ cI cZ cJ ao h0 h1 h2 h3 h4 h5 h6 m0 tn AnsI) := by
  have e1 : uw = bg := R.2.2.2.2.1
  subst e1
  have e2 : tc = tn := R.2.2.2.2.2.1
  subst e2
  have e3 : sc = sl := R.2.2.2.2.2.2.1
  subst e3
  obtain ⟨hn, hw, hs, hc1, hb1, ht5, hsn, hht⟩ := R.inv
  have C := R.cx
  have P := R.rp
  rcases arg_cs a0 n with ⟨j, hj, rfl⟩ | ha0
  · refine ⟨_, _, _, _, ?_, ?_, w_L_certainIfTold_ok _ h0 ao _ f _ _ _ _ _ _ ⟨by decide, by decide⟩ (m_X1_certainIfTold h0 h1 h2 h3 h4 h5 h6 n wn t tc sc uw c1 c2 s ow hf tf j hj hn hw hs hc1 hb1) (fun a u q => by obtain ⟨-, k, g, rfl⟩ := q; exact List.Perm.refl _), (m_X2_certainIfTold m0 m1 m2 m3 m4 m5 m6 th n uw tc sc ht sn o nx kp ow2 j hn hsn hht hj), fun r1 u1 r2 u2 q1 q2 => ?_⟩
    · decide
    · decide
    obtain ⟨rfl, a, w1, ⟨rfl, k, g, rfl⟩, rfl⟩ := q1
    obtain ⟨rfl, rfl⟩ := q2
    exact ⟨_, _, _, _, _, _, _, _, _, _, _, _, _, _, _, _, _, _, _, _, _, _, _, _, _, _, _, _, _, rfl, rfl, R, by omega, by decide, rfl, fun _ => (upd0 _ _).trans (congrArg Int32.toInt64 (congrArg nI (C.certs (C.told P hj) n (Nat.le_refl _))))⟩
  · refine ⟨_, _, _, _, ?_, ?_, w_L_certainIfTold_1 _ h0 ao _ f _ _ _ _ _ _ ⟨by decide, by decide⟩ (mx_X1_certainIfTold_a hlt h0 h1 h2 h3 h4 h5 h6 n wn t tc sc uw c1 c2 s ow hf tf a0 hn ha0), (mf_X2_certainIfTold_a m0 m1 m2 m3 m4 m5 m6 th n uw tc sc ht sn o nx kp ow2 a0 hn ha0), fun r1 u1 r2 u2 q1 q2 => ?_⟩
    · decide
    · decide
    obtain ⟨rfl, rfl⟩ := q1
    obtain rfl := q2
    exact ⟨_, n, wn, t, tc, sc, uw, c1, c2, s, ow, hf, tf, m1, m2, m3, m4, m5, m6, 1, uw, tc, sc, ht, sn, o, nx, kp, ow2, rfl, rfl, R, by omega, by decide, rfl, fun h => absurd h (by decide)⟩

end
