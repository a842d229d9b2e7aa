/-! the law's loop: what holds at its head, and a turn of it for each case -/
theorem ix_B (a b : va_W) (n : Nat) (h : a.length = n) : ((List.range b.length).map (· + n)).map (fun i => (a ++ b)[i]?) = b.map some := by
  subst h
  rw [List.map_map]
  refine List.ext_getElem? (fun i => ?_)
  rw [List.getElem?_map, List.getElem?_map]
  by_cases hi : i < b.length
  · rw [List.getElem?_range hi, List.getElem?_eq_getElem hi]
    show some ((a ++ b)[i + a.length]?) = _
    rw [List.getElem?_append_right (Nat.le_add_left _ _), Nat.add_sub_cancel, List.getElem?_eq_getElem hi]
    rfl
  · rw [List.getElem?_eq_none (by simpa using hi), List.getElem?_eq_none (by simpa using hi)]
    rfl
theorem nd_of : ∀ (l : List Nat), l.Nodup → va_nd l = true
  | [], _ => rfl
  | a :: l, h => by
    have h2 := List.nodup_cons.mp h
    show (decide (a ∉ l) && va_nd l) = true
    rw [nd_of l h2.2]
    simpa using h2.1
theorem nd_B (n : Nat) : va_nd ((List.range n).map (· + 7) ++ [0, 1, 2, 3, 4, 5, 6]) = true := by
  refine nd_of _ (List.nodup_append.mpr ⟨?_, by decide, ?_⟩)
  · refine List.pairwise_map.mpr ((List.nodup_range (n := n)).imp ?_)
    intro a b hab he
    exact hab (Nat.add_right_cancel he)
  · intro a ha c hc he
    obtain ⟨x, -, rfl⟩ := List.mem_map.mp ha
    subst he
    simp only [List.mem_cons, List.not_mem_nil, or_false] at hc
    omega
def LX (p : Program) (l : Launch) (s : State) (m : MethodId) (args : Array Value) (c : Code) (dC : Nat → ClassId) (dI : Nat → Nat → Nat) (cI cZ cJ : ClassId) (A : Nat → Prop) (b L : Nat) (xs : Nat → Int32) : Prop :=
  CallFix p m c cL_law 9 s args bw RL ∧ l.stackTraces = false ∧ va_K (dC, dI) vwCl (tyL cI cZ cJ) s ∧ pwOK A s s.heap ∧ exOK A s s.heap ∧ ncOK s ∧ va_Nw (.methodLinkNest RX1 9 yX0_init RX1) s ∧ (∀ q, s.heap.size ≤ q → A q) ∧ ¬ A b ∧ va_X b L xs s s.heap ∧ b < s.heap.size ∧ L ≤ 2048
def NX (p : Program) (l : Launch) (e : Env) (s : State) (m : MethodId) (args : Array Value) (below : List Frame) (meth : Method) (c : Code) (dC : Nat → ClassId) (dI : Nat → Nat → Nat) (cI cZ cJ : ClassId) (A : Nat → Prop) (Q : State → Prop) (b ao h0 h1 h2 h3 h4 h5 h6 m0 pc i kk kc : Nat) : Prop :=
  ∀ (f : Nat → Int64) (n wn t tc sc : Nat) (uw : Bool) (c1 c2 : Nat) (s' ow hf tf : Nat → Nat) (m1 m2 m3 m4 m5 m6 th : Nat) (bg : Bool) (tn sl : Nat) (ht sn : Nat → Nat) (o nx kp : Nat → Bool) (ow2 : Nat → Nat) (H : Heap) (locs : List Loc) (ls : Array Slot) (cells slots : Nat),
    Rl n wn t tc sc uw c1 s' hf bg tn sl ht sn o → tn ≤ kk → lv_has ls 9 [(4, .int (nI i)), (0, .ref b), (1, .ref h0), (2, .ref m0), (3, .ref ao)] → va_P (dC, dI) vwCl (GO cI cJ ao h0 h1 h2 h3 h4 h5 h6 f n wn t tc sc uw c1 c2 s' ow hf tf ++ mW cI cZ m0 m1 m2 m3 m4 m5 m6 th n bg tn sl ht sn o nx kp ow2) H →
    va_D A (GO cI cJ ao h0 h1 h2 h3 h4 h5 h6 f n wn t tc sc uw c1 c2 s' ow hf tf ++ mW cI cZ m0 m1 m2 m3 m4 m5 m6 th n bg tn sl ht sn o nx kp ow2) → va_S A s.heap H locs → cells ≤ 15 + 6 * kc → slots ≤ 2523 + 33 * kc → W p l e room_1 s m args below meth c H locs cells slots Q (F0 m pc ls [])
