/-! the moves of the law's own model -/
def isS (f : Nat → Nat) (co many n : Nat) (least : Bool) : Bool := if least = true then decide (many ≤ havS f co n) else decide (havS f co n ≤ many)
def swS (f : Nat → Nat) (a b : Nat) : Nat → Nat := fun k => if k = a then f b else if k = b then f a else f k
theorem swS_up {f : Nat → Nat} {a b : Nat} (h : a ≠ b) : upN (upN f a (f b)) b (f a) = swS f a b := by
  funext k
  by_cases h1 : k = a
  · subst h1; simp [upN, swS, h]
  · by_cases h2 : k = b
    · subst h2; simp [upN, swS, h1]
    · simp [upN, swS, h1, h2]
def nxS (n m : Nat) (sn : Nat → Nat → Bool) (wy : Nat → Nat → Nat) (o : Nat → Bool) (ht : Nat → Nat) (p : Nat) (is : Bool) (w : Nat) : Bool := o w && (surS n m sn wy o p p (wy w) == is) && (!is || wy w p == ht p)
def dg3 (w p : Nat) : Nat := w / 3 ^ p % 3
theorem dg3_lt (w p : Nat) : dg3 w p < 3 := Nat.mod_lt _ (by omega)
def adS (n : Nat) (sn : Nat → Nat → Bool) (p k : Nat) : Bool := !(p == k) && (p == n || k == n || sn p k)
theorem q0_eq (cS : ClassId) : eQ cS 0 (fun _ => 0) = .inl (cS, 0, .inr (.inr (.inr (.inr (fun _ => none))))) := by
  simp [eQ]
theorem rows_pm (A Z B I : va_W) : ((B ++ A) ++ (Z ++ I)).Perm ((A ++ Z) ++ (B ++ I)) := by
  rw [List.append_assoc, List.append_assoc]
  exact ((List.perm_append_comm_assoc Z B I).append_left A |>.trans (List.perm_append_comm_assoc A B (Z ++ I))).symm
section
variable {p : Program} {l : Launch} {e : Env} {R : Room} {s : State} {m : MethodId} {args : Array Value} {below : List Frame} {meth : Method} {c : Code} {H : Heap} {locs : List Loc} {cells slots : Nat} {Q : State → Prop}
variable {pc : Nat} {ls : Array Slot} {rest : List Value} {cc : ByteArray} {D : va_G} {cl : List vw_C} {A : Nat → Prop} {a : Nat} {tys : List (ClassId × FieldType)} {ws : va_W} {H0 : Heap}
/-- a truth row of the last block is written -/
theorem rz_stL {X T : va_W} (hexec : p.tables.exec = Jvm.exec) (hb : c.code = cc) (hK : va_K D cl tys s) {cZ : ClassId} {n m2 : Nat} {sn : Nat → Nat → Bool} {ad : Nat → Nat} (hP : va_P D cl (X ++ (T ++ rB (fun w => eZ cZ n (sn w)) ad m2)) H) (hD : va_D A (X ++ (T ++ rB (fun w => eZ cZ n (sn w)) ad m2))) (hS : va_S A H0 H locs) (t0 : Nat) (ht : tys[t0]? = some (cZ, .boolean)) {w j : Nat} {v : Bool} (hw : w < m2) (hj : j < n) (hn : n < 2 ^ 31) (hdg : decode cc pc = .ok (.bastore, 1))
    (kk : ∀ (H1 : Heap) (locs1 : List Loc), va_P D cl (X ++ (T ++ rB (fun u => eZ cZ n (upN sn w (upN (sn w) j v) u)) ad m2)) H1 → va_D A (X ++ (T ++ rB (fun u => eZ cZ n (upN sn w (upN (sn w) j v) u)) ad m2)) → va_S A H0 H1 locs1 → W p l e R s m args below meth c H1 locs1 cells slots Q (F0 m (pc + 1) ls rest)) : W p l e R s m args below meth c H locs cells slots Q (F0 m pc ls (.int (bI v) :: .int (nI j) :: .ref (ad w) :: rest)) := by
  refine rz_st (X := X) (T := T) (B := []) hexec hb hK (by rw [List.append_nil]; exact hP) (by rw [List.append_nil]; exact hD) hS t0 ht hw hj hn hdg (fun H1 locs1 hP1 hD1 hS1 => ?_)
  rw [List.append_nil] at hP1 hD1
  exact kk H1 locs1 hP1 hD1 hS1
/-- a new row for rows: new T[n][] -/
theorem my_newqA (hexec : p.tables.exec = Jvm.exec) (hb : c.code = cc) {own : String} {index : Nat} {ty : FieldType} (t0 : Nat) {cA : ClassId} (ht0 : tys[t0]? = some (cA, .array ty)) (hprim : ty = .int ∨ ty = .boolean) (hown : s.vm.findClass own = some m.cls) (hclink : (Cond.classLink own index (FieldType.array ty).toString).before args s = true) (hover : va_AOA ty s) (hK : va_K D cl tys s) (hP : va_P D cl ws H) (hD : va_D A ws) (hS : va_S A H0 H locs) (hA : ∀ q, H0.size ≤ q → A q)
    {n : Int32} {N' : Nat} (hn : ¬ n < 0) (hN : n.toNatClampNeg = N') (hbytes : N' * 4 ≤ 536870912) (hcells : cells + 1 ≤ R.cells) (hslots : slots + N' ≤ R.slots) (hdg : decode cc pc = .ok (.anewarray index, 3))
    (kk : ∀ (q : Nat) (H1 : Heap), va_P D cl (ws ++ [(q, .inl (cA, N', .inr (.inr (.inr (.inr (fun _ => none))))))]) H1 → va_D A (ws ++ [(q, .inl (cA, N', .inr (.inr (.inr (.inr (fun _ => none))))))]) → va_S A H0 H1 locs →
      W p l e R s m args below meth c H1 locs (cells + 1) (slots + N') Q (F0 m (pc + 3) ls (.ref q :: rest))) : W p l e R s m args below meth c H locs cells slots Q (F0 m pc ls (.int n :: rest)) := by
  subst hN
  refine W.anewA hexec hb hown hclink (va_AOA.use hover) rfl hdg rfl hn hbytes hcells hslots fun cA2 kA comp f1 f2 f3 f4 => ?_
  have e1 : s.vm.findClass ("[" ++ (FieldType.array ty).toString) = some cA := by
    have h := (hK.2 t0 _ ht0).2
    rcases hprim with rfl | rfl <;> exact h
  have : cA2 = cA := Option.some.inj (f1.symm.trans e1)
  subst this
  generalize hH1 : H.push ({ cls := cA2, slots := Array.replicate n.toNatClampNeg .null, vm := .none } : Cell) = H1
  have z1 : H1.size = H.size + 1 := by rw [← hH1, Array.size_push]
  have g1 : H1[H.size]? = some (arrV cA2 n.toNatClampNeg (fun _ => .null)) := by rw [← hH1, Array.getElem?_push_size, ← arrV_new]
  have o1 : ∀ q : Nat, q < H.size → H1[q]? = H[q]? := fun q hq => by rw [← hH1, Array.getElem?_push, if_neg (Nat.ne_of_lt hq)]
  have hk : ∀ (k : Nat) (x : Nat × va_E), ws[k]? = some x → H1[x.1]? = H[x.1]? := fun k x hx => o1 x.1 ((hP k x hx).lt)
  refine kk H.size H1 ((hP.kept hk).app (fun k x hx => ?_)) (hD.push hP rfl (hA _ hS.1)) ⟨Nat.le_trans hS.1 (by omega), fun x h1 h2 => (o1 x (Nat.lt_of_lt_of_le h1 hS.1)).trans (hS.2.1 x h1 h2), hS.2.2⟩
  have hz : k < 1 := (List.getElem?_eq_some_iff.mp hx).1
  rw [show k = 0 by omega] at hx
  cases hx
  show H1[H.size]? = some (vp_cell _ _)
  rw [vp_cell_q]
  exact g1
/-- an int row goes into a row of rows -/
theorem aa_st (hexec : p.tables.exec = Jvm.exec) (hb : c.code = cc) (hK : va_K D cl tys s) (hover : va_AOA .int s) (hP : va_P D cl ws H) (hD : va_D A ws) (hS : va_S A H0 H locs) (q0 qk t0 t1 : Nat) {cA cI : ClassId} {n v N : Nat} {f : Nat → Option Nat} {g : Nat → Int32} (ha : ws[q0]? = some (a, .inl (cA, n, .inr (.inr (.inr (.inr f)))))) (hv : ws[qk]? = some (v, .inl (cI, N, .inl g))) (ht0 : tys[t0]? = some (cA, .array .int)) (ht1 : tys[t1]? = some (cI, .int)) {j : Nat} (hj : j < n) (hn : n < 2 ^ 31) (hdg : decode cc pc = .ok (.aastore, 1))
    (kk : ∀ (H1 : Heap) (locs1 : List Loc), va_P D cl (ws.set q0 (a, .inl (cA, n, .inr (.inr (.inr (.inr (va_up f j (some v)))))))) H1 → va_D A (ws.set q0 (a, .inl (cA, n, .inr (.inr (.inr (.inr (va_up f j (some v)))))))) → va_S A H0 H1 locs1 → W p l e R s m args below meth c H1 locs1 cells slots Q (F0 m (pc + 1) ls rest)) : W p l e R s m args below meth c H locs cells slots Q (F0 m pc ls (.ref v :: .int (nI j) :: .ref a :: rest)) := by
  obtain ⟨comp, c2, k, d1, -, d2, d3, d4⟩ := arrayOverA_spec (va_AOA.use (A := args) hover)
  have r1 : s.vm.findClass ("[" ++ (FieldType.array .int).toString) = some cA := (hK.2 t0 _ ht0).2
  have r2 : s.vm.findClass (FieldType.array .int).toString = some cI := (hK.2 t1 _ ht1).2
  cases d4.symm.trans r1
  cases d1.symm.trans r2
  obtain ⟨-, kI, hkI, -⟩ := (hK.2 t1 _ ht1).1 N (fun _ => .null)
  have hkI : s.vm.classes[cI]? = some kI := hkI
  refine W.aast hexec hb (hP q0 _ ha) (fun q h => by cases h) (fun h => by cases h) d2 d3 rfl hkI ⟨nI_pos (by omega), by show _ < (arrV _ _ _).slots.size; rw [arrV_size, nI_clamp (by omega)]; exact hj⟩ (hP qk _ hv) (fun q h => by cases h) hkI (by show Vm.assignableAux s.vm (255 + 1) cI cI = true; rw [Vm.assignableAux]; simp) rfl rfl hdg fun H1 e z oq => ?_
  refine kk H1 _ (hP.set hD ha ?_ oq) (hD.set ha) (hS.put z oq (hD.2 q0 _ ha))
  show H1[a]? = some (vp_cell _ _)
  rw [e]
  rw [vp_cell_q, vp_cell_q, arrV_store, nI_clamp (by omega)]
  congr 2
  funext q
  by_cases hq : q = j
  · subst hq
    simp [updV, va_up, va_rf]
  · simp [updV, va_up, hq]
end
section
variable {l : Launch} {dC : Nat → ClassId} {dI : Nat → Nat → Nat} {cI cZ cS cW : ClassId}

set_option maxHeartbeats 4000000 in
set_option maxRecDepth 100000 in
theorem m_X2_say (b0 b1 b2 b3 b4 n m tn sl : Nat) (bg : Bool) (ht rs : Nat → Nat) (sn : Nat → Nat → Bool) (rw : Nat → Nat) (wy : Nat → Nat → Nat) (o : Nat → Bool) (co many : Nat) (least : Bool) (hn : n ≤ 5) (hm : m ≤ 243) (hco : co < 4) (hmany : many < 6) (hwy : ∀ w, w < m → ∀ k, k < n → wy w k < 4) (sz : Nat) : Gi l yX2_say ws_X2_say 1 27 0 0 sz (dC, dI) (tyL cI cZ cS cW) [.ref b0, .int (nI co), .int (nI many), .int (bI least)] (sW cI cZ cS cW b0 b1 b2 b3 b4 n m tn sl bg ht rs sn rw wy o) (fun r u => ∃ o2 : Nat → Bool, r = nI (cntP o2 m) ∧ (∀ w, w < m → o2 w = (o w && isS (wy w) co many n least)) ∧ u = sW cI cZ cS cW b0 b1 b2 b3 b4 n m tn sl true ht rs sn rw wy o2) := by
  refine Gi_of (by decide +kernel) (Nat.le_of_ble_eq_true rfl) ?_
  intro pr ev sx mi ag bl me cd Q ls A S hP hK hD hA hZ hl hin ret
  obtain ⟨hx, hb, hml, hown, hts⟩ := id S
  have hown : sx.vm.findClass RX2 = some mi.cls := hown
  have hS : va_S A sx.heap sx.heap [] := va_S.rf
  have hl : lv_has ls 6 [(0, .ref b0), (1, .int (nI co)), (2, .int (nI many)), (3, .int (bI least))] := hl
  refine lv_iconst (v := nI 0) hx hb dX2_say_0 (by decide) ?_
  refine lv_istore (lv' := [(4, .int (nI 0)), (0, .ref b0), (1, .int (nI co)), (2, .int (nI many)), (3, .int (bI least))]) hx hb dX2_say_1 hl (by decide) rfl (fun ls hl => ?_)
  have lp3 : ∀ (kf : Nat) (i : Nat) (g : Nat → Bool), m < i + kf → (i ≤ m) → (∀ w, w < i → g w = (o w && isS (wy w) co many n least)) → (∀ w, i ≤ w → g w = o w) → ∀ (H : Heap) (locs : List Loc), va_P (dC, dI) vwCl (sW cI cZ cS cW b0 b1 b2 b3 b4 n m tn sl bg ht rs sn rw wy g) H → va_D A (sW cI cZ cS cW b0 b1 b2 b3 b4 n m tn sl bg ht rs sn rw wy g) → va_S A sx.heap H locs → ∀ ls : Array Slot, lv_has ls 6 [(4, .int (nI i)), (0, .ref b0), (1, .int (nI co)), (2, .int (nI many)), (3, .int (bI least))] → W pr l ev (rmG 1 27 0 0) sx mi ag bl me cd H locs 0 0 Q (F0 mi 3 ls []) := by
    intro kf
    induction kf with
    | zero => intro i g hkf hi hg1 hg2; exact absurd hkf (by omega)
    | succ kf ih3 =>
      intro i g hkf hi hg1 hg2 H locs hP hD hS ls hl
      refine lv_iload hx hb dX2_say_3 (lv_at hl 0 rfl) ?_
      refine lv_aload_n hx hb dX2_say_5 rfl (lv_at hl 1 rfl) ?_
      refine va_get (D := (dC, dI)) (ci := 2) (v := .ref b3) (C := RX2) (T := TX2) (N := 8) hx hb hts inX2 hown hK hP 0 rfl rfl 6 (by decide) (hts _ q_fl_X2_20) (fun _ h9 => h9) rfl dX2_say_6 ?_
      refine va_alen (v := nI m) hx hb hK hP 3 3 rfl rfl rfl dX2_say_9 ?_
      refine icN_ge (tgt := 74) hx hb dX2_say_10 (by decide) (by omega) (by omega) (fun c_10 => ?_) (fun c_10 => ?_)
      · refine lv_aload_n hx hb dX2_say_74 rfl (lv_at hl 1 rfl) ?_
        refine lv_iconst (v := nI 1) hx hb dX2_say_75 (by decide) ?_
        refine W_i (y := bI true) rfl ?_
        refine va_put (D := (dC, dI)) (ci := 2) (v := .int (bI true)) (ty := .boolean) (C := RX2) (T := TX2) (N := 8) hx hb hts inX2 tyX2 tyX2_ok nmX2 hown hK hP hD hS 0 rfl rfl 3 (by decide) (hts _ q_fl_X2_50) (fun _ h9 => h9) rfl (by decide +kernel) rfl rfl (Nat.le_of_ble_eq_true rfl) dX2_say_76 (fun H locs hP hD hS => ?_)
        have hP : va_P (dC, dI) vwCl (sW cI cZ cS cW b0 b1 b2 b3 b4 n m tn sl true ht rs sn rw wy g) H := hP
        have hD : va_D A (sW cI cZ cS cW b0 b1 b2 b3 b4 n m tn sl true ht rs sn rw wy g) := hD
        refine lv_aload_n hx hb dX2_say_79 rfl (lv_at hl 1 rfl) ?_
        refine call_VpS (As := []) (rest := []) S (m_X2_many b0 b1 b2 b3 b4 n m tn sl true ht rs sn rw wy g (by omega)) g_X2_X2_many hd_X2_many ⟨Nat.le_of_ble_eq_true rfl, Nat.le_of_ble_eq_true rfl⟩ ⟨by show _ ≤ 0; omega, by show _ ≤ 0; omega⟩ hP hD hK hS hZ (List.Sublist.refl _) 0 rfl rfl hl.1 rfl (Nat.le_of_ble_eq_true rfl) dX2_say_80 (fun r H locs hq hP hS => ?_)
        obtain rfl := hq
        refine W.widen (k := 0) (n := 0) (by omega) (by omega) ?_
        exact ret _ (sW cI cZ cS cW b0 b1 b2 b3 b4 n m tn sl true ht rs sn rw wy g) _ _ _ _ dX2_say_83 rfl ⟨g, rfl, fun w hw => hg1 w (by omega), rfl⟩ hP hD hS
      · refine lv_aload_n hx hb dX2_say_13 rfl (lv_at hl 1 rfl) ?_
        refine lv_aload_n hx hb dX2_say_14 rfl (lv_at hl 1 rfl) ?_
        refine va_get (D := (dC, dI)) (ci := 2) (v := .ref b3) (C := RX2) (T := TX2) (N := 8) hx hb hts inX2 hown hK hP 0 rfl rfl 6 (by decide) (hts _ q_fl_X2_20) (fun _ h9 => h9) rfl dX2_say_15 ?_
        refine lv_iload hx hb dX2_say_18 (lv_at hl 0 rfl) ?_
        refine aa_ld hx hb hK hP 3 3 rfl rfl (j := i) (by omega) (by omega) dX2_say_20 ?_
        refine lv_iload_n hx hb dX2_say_21 rfl (lv_at hl 2 rfl) ?_
        refine call_VpS (As := [.ref (rw i), .int (nI co)]) (rest := []) S (m_X2_have b0 b1 b2 b3 b4 n m tn sl bg ht rs sn rw wy g (rw i) co (wy i) hn (List.mem_append_right _ (List.mem_append_right _ (rB_mem (by omega)))) (hwy i (by omega)) (by omega)) g_X2_X2_have hd_X2_have ⟨Nat.le_of_ble_eq_true rfl, Nat.le_of_ble_eq_true rfl⟩ ⟨by show _ ≤ 0; omega, by show _ ≤ 0; omega⟩ hP hD hK hS hZ (List.Sublist.refl _) 0 rfl rfl hl.1 rfl (Nat.le_of_ble_eq_true rfl) dX2_say_22 (fun r H locs hq hP hS => ?_)
        obtain rfl := hq
        refine lv_istore (lv' := [(5, .int (nI (havS (wy i) co n))), (4, .int (nI i)), (0, .ref b0), (1, .int (nI co)), (2, .int (nI many)), (3, .int (bI least))]) hx hb dX2_say_25 hl (by decide) rfl (fun ls hl => ?_)
        refine lv_aload_n hx hb dX2_say_27 rfl (lv_at hl 2 rfl) ?_
        refine va_get (D := (dC, dI)) (ci := 2) (v := .ref b4) (C := RX2) (T := TX2) (N := 8) hx hb hts inX2 hown hK hP 0 rfl rfl 7 (by decide) (hts _ q_fl_X2_24) (fun _ h9 => h9) rfl dX2_say_28 ?_
        refine lv_iload hx hb dX2_say_31 (lv_at hl 1 rfl) ?_
        refine lv_aload_n hx hb dX2_say_33 rfl (lv_at hl 2 rfl) ?_
        refine va_get (D := (dC, dI)) (ci := 2) (v := .ref b4) (C := RX2) (T := TX2) (N := 8) hx hb hts inX2 hown hK hP 0 rfl rfl 7 (by decide) (hts _ q_fl_X2_24) (fun _ h9 => h9) rfl dX2_say_34 ?_
        refine lv_iload hx hb dX2_say_37 (lv_at hl 1 rfl) ?_
        refine za_ld hx hb hK hP 4 1 rfl rfl (j := i) (by omega) (by omega) dX2_say_39 ?_
        refine ifB_eq (tgt := 66) hx hb dX2_say_40 (by decide) (fun c_40 => ?_) (fun c_40 => ?_)
        · refine lv_iconst (v := nI 0) hx hb dX2_say_66 (by decide) ?_
          refine W_i (y := bI false) rfl ?_
          refine za_st hx hb hK hP hD hS 4 1 rfl rfl (j := i) (v := false) (by omega) (by omega) dX2_say_67 (fun H locs hP hD hS => ?_)
          have hP : va_P (dC, dI) vwCl (sW cI cZ cS cW b0 b1 b2 b3 b4 n m tn sl bg ht rs sn rw wy (upN g i false)) H := hP
          have hD : va_D A (sW cI cZ cS cW b0 b1 b2 b3 b4 n m tn sl bg ht rs sn rw wy (upN g i false)) := hD
          refine lv_iinc (v := nI (i + 1)) (lv' := [(4, .int (nI (i + 1))), (5, .int (nI (havS (wy i) co n))), (0, .ref b0), (1, .int (nI co)), (2, .int (nI many)), (3, .int (bI least))]) hx hb dX2_say_68 hl (k := 1) rfl (nI_add _ _) (by decide) rfl (fun ls hl => ?_)
          refine lv_goto (tgt := 3) hx hb dX2_say_71 (by decide) ?_
          exact ih3 (i + 1) _ (by omega) (by omega) (fun w hw => by rcases Nat.lt_or_ge w i with z | z; (· rw [upN_n _ _ (by omega)]; exact hg1 w z); (· rw [show w = i by omega, upN_s]; exact (by simp [← hg2 i (by omega), c_40]))) (fun w hw => by rw [upN_n _ _ (by omega)]; exact hg2 w (by omega)) _ _ hP hD hS _ (lv_sub hl [0, 2, 3, 4, 5] rfl)
        · refine lv_iload_n hx hb dX2_say_43 rfl (lv_at hl 5 rfl) ?_
          refine ifB_eq (tgt := 56) hx hb dX2_say_44 (by decide) (fun c_44 => ?_) (fun c_44 => ?_)
          · refine lv_iload hx hb dX2_say_56 (lv_at hl 0 rfl) ?_
            refine lv_iload_n hx hb dX2_say_58 rfl (lv_at hl 4 rfl) ?_
            refine icN_gt (tgt := 66) hx hb dX2_say_59 (by decide) (by have := havS_le (wy i) co n; omega) (by omega) (fun c_59 => ?_) (fun c_59 => ?_)
            · refine lv_iconst (v := nI 0) hx hb dX2_say_66 (by decide) ?_
              refine W_i (y := bI false) rfl ?_
              refine za_st hx hb hK hP hD hS 4 1 rfl rfl (j := i) (v := false) (by omega) (by omega) dX2_say_67 (fun H locs hP hD hS => ?_)
              have hP : va_P (dC, dI) vwCl (sW cI cZ cS cW b0 b1 b2 b3 b4 n m tn sl bg ht rs sn rw wy (upN g i false)) H := hP
              have hD : va_D A (sW cI cZ cS cW b0 b1 b2 b3 b4 n m tn sl bg ht rs sn rw wy (upN g i false)) := hD
              refine lv_iinc (v := nI (i + 1)) (lv' := [(4, .int (nI (i + 1))), (5, .int (nI (havS (wy i) co n))), (0, .ref b0), (1, .int (nI co)), (2, .int (nI many)), (3, .int (bI least))]) hx hb dX2_say_68 hl (k := 1) rfl (nI_add _ _) (by decide) rfl (fun ls hl => ?_)
              refine lv_goto (tgt := 3) hx hb dX2_say_71 (by decide) ?_
              exact ih3 (i + 1) _ (by omega) (by omega) (fun w hw => by rcases Nat.lt_or_ge w i with z | z; (· rw [upN_n _ _ (by omega)]; exact hg1 w z); (· rw [show w = i by omega, upN_s]; exact (by simp [isS, (show o i = true by rw [← hg2 i (by omega)]; exact c_40), c_44]; omega))) (fun w hw => by rw [upN_n _ _ (by omega)]; exact hg2 w (by omega)) _ _ hP hD hS _ (lv_sub hl [0, 2, 3, 4, 5] rfl)
            · refine lv_iconst (v := nI 1) hx hb dX2_say_62 (by decide) ?_
              refine lv_goto (tgt := 67) hx hb dX2_say_63 (by decide) ?_
              refine W_i (y := bI true) rfl ?_
              refine za_st hx hb hK hP hD hS 4 1 rfl rfl (j := i) (v := true) (by omega) (by omega) dX2_say_67 (fun H locs hP hD hS => ?_)
              have hP : va_P (dC, dI) vwCl (sW cI cZ cS cW b0 b1 b2 b3 b4 n m tn sl bg ht rs sn rw wy (upN g i true)) H := hP
              have hD : va_D A (sW cI cZ cS cW b0 b1 b2 b3 b4 n m tn sl bg ht rs sn rw wy (upN g i true)) := hD
              refine lv_iinc (v := nI (i + 1)) (lv' := [(4, .int (nI (i + 1))), (5, .int (nI (havS (wy i) co n))), (0, .ref b0), (1, .int (nI co)), (2, .int (nI many)), (3, .int (bI least))]) hx hb dX2_say_68 hl (k := 1) rfl (nI_add _ _) (by decide) rfl (fun ls hl => ?_)
              refine lv_goto (tgt := 3) hx hb dX2_say_71 (by decide) ?_
              exact ih3 (i + 1) _ (by omega) (by omega) (fun w hw => by rcases Nat.lt_or_ge w i with z | z; (· rw [upN_n _ _ (by omega)]; exact hg1 w z); (· rw [show w = i by omega, upN_s]; exact (by simp [isS, (show o i = true by rw [← hg2 i (by omega)]; exact c_40), c_44, c_59]))) (fun w hw => by rw [upN_n _ _ (by omega)]; exact hg2 w (by omega)) _ _ hP hD hS _ (lv_sub hl [0, 2, 3, 4, 5] rfl)
          · refine lv_iload hx hb dX2_say_47 (lv_at hl 0 rfl) ?_
            refine lv_iload_n hx hb dX2_say_49 rfl (lv_at hl 4 rfl) ?_
            refine icN_lt (tgt := 66) hx hb dX2_say_50 (by decide) (by have := havS_le (wy i) co n; omega) (by omega) (fun c_50 => ?_) (fun c_50 => ?_)
            · refine lv_iconst (v := nI 0) hx hb dX2_say_66 (by decide) ?_
              refine W_i (y := bI false) rfl ?_
              refine za_st hx hb hK hP hD hS 4 1 rfl rfl (j := i) (v := false) (by omega) (by omega) dX2_say_67 (fun H locs hP hD hS => ?_)
              have hP : va_P (dC, dI) vwCl (sW cI cZ cS cW b0 b1 b2 b3 b4 n m tn sl bg ht rs sn rw wy (upN g i false)) H := hP
              have hD : va_D A (sW cI cZ cS cW b0 b1 b2 b3 b4 n m tn sl bg ht rs sn rw wy (upN g i false)) := hD
              refine lv_iinc (v := nI (i + 1)) (lv' := [(4, .int (nI (i + 1))), (5, .int (nI (havS (wy i) co n))), (0, .ref b0), (1, .int (nI co)), (2, .int (nI many)), (3, .int (bI least))]) hx hb dX2_say_68 hl (k := 1) rfl (nI_add _ _) (by decide) rfl (fun ls hl => ?_)
              refine lv_goto (tgt := 3) hx hb dX2_say_71 (by decide) ?_
              exact ih3 (i + 1) _ (by omega) (by omega) (fun w hw => by rcases Nat.lt_or_ge w i with z | z; (· rw [upN_n _ _ (by omega)]; exact hg1 w z); (· rw [show w = i by omega, upN_s]; exact (by simp [isS, (show o i = true by rw [← hg2 i (by omega)]; exact c_40), c_44]; omega))) (fun w hw => by rw [upN_n _ _ (by omega)]; exact hg2 w (by omega)) _ _ hP hD hS _ (lv_sub hl [0, 2, 3, 4, 5] rfl)
            · refine lv_goto (tgt := 62) hx hb dX2_say_53 (by decide) ?_
              refine lv_iconst (v := nI 1) hx hb dX2_say_62 (by decide) ?_
              refine lv_goto (tgt := 67) hx hb dX2_say_63 (by decide) ?_
              refine W_i (y := bI true) rfl ?_
              refine za_st hx hb hK hP hD hS 4 1 rfl rfl (j := i) (v := true) (by omega) (by omega) dX2_say_67 (fun H locs hP hD hS => ?_)
              have hP : va_P (dC, dI) vwCl (sW cI cZ cS cW b0 b1 b2 b3 b4 n m tn sl bg ht rs sn rw wy (upN g i true)) H := hP
              have hD : va_D A (sW cI cZ cS cW b0 b1 b2 b3 b4 n m tn sl bg ht rs sn rw wy (upN g i true)) := hD
              refine lv_iinc (v := nI (i + 1)) (lv' := [(4, .int (nI (i + 1))), (5, .int (nI (havS (wy i) co n))), (0, .ref b0), (1, .int (nI co)), (2, .int (nI many)), (3, .int (bI least))]) hx hb dX2_say_68 hl (k := 1) rfl (nI_add _ _) (by decide) rfl (fun ls hl => ?_)
              refine lv_goto (tgt := 3) hx hb dX2_say_71 (by decide) ?_
              exact ih3 (i + 1) _ (by omega) (by omega) (fun w hw => by rcases Nat.lt_or_ge w i with z | z; (· rw [upN_n _ _ (by omega)]; exact hg1 w z); (· rw [show w = i by omega, upN_s]; exact (by simp [isS, (show o i = true by rw [← hg2 i (by omega)]; exact c_40), c_44, c_50]))) (fun w hw => by rw [upN_n _ _ (by omega)]; exact hg2 w (by omega)) _ _ hP hD hS _ (lv_sub hl [0, 2, 3, 4, 5] rfl)
  exact lp3 (m + 1) 0 o (by omega) (by omega) (fun w hw => absurd hw (by omega)) (fun _ _ => rfl) _ _ hP hD hS _ (lv_sub hl [0, 1, 2, 3, 4] rfl)

set_option maxHeartbeats 4000000 in
set_option maxRecDepth 100000 in
theorem m_X2_borrow (b0 b1 b2 b3 b4 n m tn sl : Nat) (bg : Bool) (ht rs : Nat → Nat) (sn : Nat → Nat → Bool) (rw : Nat → Nat) (wy : Nat → Nat → Nat) (o : Nat → Bool) (a b : Nat) (hn : n ≤ 5) (hm : m ≤ 243) (ha5 : a < n) (hb5 : b < n) (hab : a ≠ b) (sz : Nat) : Gv l yX2_borrow ws_X2_borrow 0 0 0 0 sz (dC, dI) (tyL cI cZ cS cW) [.ref b0, .int (nI a), .int (nI b)] (sW cI cZ cS cW b0 b1 b2 b3 b4 n m tn sl bg ht rs sn rw wy o) (fun u => ∃ wy2 : Nat → Nat → Nat, (∀ w, w < m → wy2 w = swS (wy w) a b) ∧ u = sW cI cZ cS cW b0 b1 b2 b3 b4 n m tn sl true (upN (upN ht a (ht b)) b (ht a)) rs sn rw wy2 o) := by
  refine Gv_of (by decide +kernel) (Nat.le_of_ble_eq_true rfl) ?_
  intro pr ev sx mi ag bl me cd Q ls A S hP hK hD hA hZ hl hin ret
  obtain ⟨hx, hb, hml, hown, hts⟩ := id S
  have hown : sx.vm.findClass RX2 = some mi.cls := hown
  have hS : va_S A sx.heap sx.heap [] := va_S.rf
  have hl : lv_has ls 8 [(0, .ref b0), (1, .int (nI a)), (2, .int (nI b))] := hl
  refine lv_aload_n hx hb dX2_borrow_0 rfl (lv_at hl 0 rfl) ?_
  refine va_get (D := (dC, dI)) (ci := 2) (v := .ref b3) (C := RX2) (T := TX2) (N := 8) hx hb hts inX2 hown hK hP 0 rfl rfl 6 (by decide) (hts _ q_fl_X2_20) (fun _ h9 => h9) rfl dX2_borrow_1 ?_
  refine lv_astore_n (lv' := [(3, .ref b3), (0, .ref b0), (1, .int (nI a)), (2, .int (nI b))]) hx hb dX2_borrow_4 rfl hl (by decide) rfl (fun ls hl => ?_)
  refine lv_aload_n hx hb dX2_borrow_5 rfl (lv_at hl 0 rfl) ?_
  refine va_alen (v := nI m) hx hb hK hP 3 3 rfl rfl rfl dX2_borrow_6 ?_
  refine lv_istore (lv' := [(4, .int (nI m)), (3, .ref b3), (0, .ref b0), (1, .int (nI a)), (2, .int (nI b))]) hx hb dX2_borrow_7 hl (by decide) rfl (fun ls hl => ?_)
  refine lv_iconst (v := nI 0) hx hb dX2_borrow_9 (by decide) ?_
  refine lv_istore (lv' := [(5, .int (nI 0)), (4, .int (nI m)), (3, .ref b3), (0, .ref b0), (1, .int (nI a)), (2, .int (nI b))]) hx hb dX2_borrow_10 hl (by decide) rfl (fun ls hl => ?_)
  have lp12 : ∀ (kf : Nat) (i : Nat) (g : Nat → Nat → Nat), m < i + kf → (i ≤ m) → (∀ w, w < i → g w = swS (wy w) a b) → (∀ w, i ≤ w → g w = wy w) → ∀ (H : Heap) (locs : List Loc), va_P (dC, dI) vwCl (sW cI cZ cS cW b0 b1 b2 b3 b4 n m tn sl bg ht rs sn rw g o) H → va_D A (sW cI cZ cS cW b0 b1 b2 b3 b4 n m tn sl bg ht rs sn rw g o) → va_S A sx.heap H locs → ∀ ls : Array Slot, lv_has ls 8 [(5, .int (nI i)), (4, .int (nI m)), (3, .ref b3), (0, .ref b0), (1, .int (nI a)), (2, .int (nI b))] → W pr l ev (rmG 0 0 0 0) sx mi ag bl me cd H locs 0 0 Q (F0 mi 12 ls []) := by
    intro kf
    induction kf with
    | zero => intro i g hkf hi hg1 hg2; exact absurd hkf (by omega)
    | succ kf ih12 =>
      intro i g hkf hi hg1 hg2 H locs hP hD hS ls hl
      refine lv_iload hx hb dX2_borrow_12 (lv_at hl 0 rfl) ?_
      refine lv_iload hx hb dX2_borrow_14 (lv_at hl 1 rfl) ?_
      refine icN_ge (tgt := 51) hx hb dX2_borrow_16 (by decide) (by omega) (by omega) (fun c_16 => ?_) (fun c_16 => ?_)
      · refine lv_aload_n hx hb dX2_borrow_51 rfl (lv_at hl 3 rfl) ?_
        refine va_get (D := (dC, dI)) (ci := 2) (v := .ref b1) (C := RX2) (T := TX2) (N := 8) hx hb hts inX2 hown hK hP 0 rfl rfl 4 (by decide) (hts _ q_fl_X2_7) (fun _ h9 => h9) rfl dX2_borrow_52 ?_
        refine lv_iload_n hx hb dX2_borrow_55 rfl (lv_at hl 4 rfl) ?_
        refine ia_ld hx hb hK hP 1 0 rfl rfl (j := a) (by omega) (by omega) dX2_borrow_56 ?_
        refine lv_istore_n (lv' := [(3, .int (nI (ht a))), (5, .int (nI i)), (4, .int (nI m)), (0, .ref b0), (1, .int (nI a)), (2, .int (nI b))]) hx hb dX2_borrow_57 rfl hl (by decide) rfl (fun ls hl => ?_)
        refine lv_aload_n hx hb dX2_borrow_58 rfl (lv_at hl 3 rfl) ?_
        refine va_get (D := (dC, dI)) (ci := 2) (v := .ref b1) (C := RX2) (T := TX2) (N := 8) hx hb hts inX2 hown hK hP 0 rfl rfl 4 (by decide) (hts _ q_fl_X2_7) (fun _ h9 => h9) rfl dX2_borrow_59 ?_
        refine lv_iload_n hx hb dX2_borrow_62 rfl (lv_at hl 4 rfl) ?_
        refine lv_aload_n hx hb dX2_borrow_63 rfl (lv_at hl 3 rfl) ?_
        refine va_get (D := (dC, dI)) (ci := 2) (v := .ref b1) (C := RX2) (T := TX2) (N := 8) hx hb hts inX2 hown hK hP 0 rfl rfl 4 (by decide) (hts _ q_fl_X2_7) (fun _ h9 => h9) rfl dX2_borrow_64 ?_
        refine lv_iload_n hx hb dX2_borrow_67 rfl (lv_at hl 5 rfl) ?_
        refine ia_ld hx hb hK hP 1 0 rfl rfl (j := b) (by omega) (by omega) dX2_borrow_68 ?_
        refine ia_st hx hb hK hP hD hS 1 0 rfl rfl (j := a) (v := ht b) (by omega) (by omega) dX2_borrow_69 (fun H locs hP hD hS => ?_)
        have hP : va_P (dC, dI) vwCl (sW cI cZ cS cW b0 b1 b2 b3 b4 n m tn sl bg (upN ht a (ht b)) rs sn rw g o) H := hP
        have hD : va_D A (sW cI cZ cS cW b0 b1 b2 b3 b4 n m tn sl bg (upN ht a (ht b)) rs sn rw g o) := hD
        refine lv_aload_n hx hb dX2_borrow_70 rfl (lv_at hl 3 rfl) ?_
        refine va_get (D := (dC, dI)) (ci := 2) (v := .ref b1) (C := RX2) (T := TX2) (N := 8) hx hb hts inX2 hown hK hP 0 rfl rfl 4 (by decide) (hts _ q_fl_X2_7) (fun _ h9 => h9) rfl dX2_borrow_71 ?_
        refine lv_iload_n hx hb dX2_borrow_74 rfl (lv_at hl 5 rfl) ?_
        refine lv_iload_n hx hb dX2_borrow_75 rfl (lv_at hl 0 rfl) ?_
        refine ia_st hx hb hK hP hD hS 1 0 rfl rfl (j := b) (v := ht a) (by omega) (by omega) dX2_borrow_76 (fun H locs hP hD hS => ?_)
        have hP : va_P (dC, dI) vwCl (sW cI cZ cS cW b0 b1 b2 b3 b4 n m tn sl bg (upN (upN ht a (ht b)) b (ht a)) rs sn rw g o) H := hP
        have hD : va_D A (sW cI cZ cS cW b0 b1 b2 b3 b4 n m tn sl bg (upN (upN ht a (ht b)) b (ht a)) rs sn rw g o) := hD
        refine lv_aload_n hx hb dX2_borrow_77 rfl (lv_at hl 3 rfl) ?_
        refine lv_iconst (v := nI 1) hx hb dX2_borrow_78 (by decide) ?_
        refine W_i (y := bI true) rfl ?_
        refine va_put (D := (dC, dI)) (ci := 2) (v := .int (bI true)) (ty := .boolean) (C := RX2) (T := TX2) (N := 8) hx hb hts inX2 tyX2 tyX2_ok nmX2 hown hK hP hD hS 0 rfl rfl 3 (by decide) (hts _ q_fl_X2_50) (fun _ h9 => h9) rfl (by decide +kernel) rfl rfl (Nat.le_of_ble_eq_true rfl) dX2_borrow_79 (fun H locs hP hD hS => ?_)
        have hP : va_P (dC, dI) vwCl (sW cI cZ cS cW b0 b1 b2 b3 b4 n m tn sl true (upN (upN ht a (ht b)) b (ht a)) rs sn rw g o) H := hP
        have hD : va_D A (sW cI cZ cS cW b0 b1 b2 b3 b4 n m tn sl true (upN (upN ht a (ht b)) b (ht a)) rs sn rw g o) := hD
        refine W.widen (k := 0) (n := 0) (by omega) (by omega) ?_
        exact ret (sW cI cZ cS cW b0 b1 b2 b3 b4 n m tn sl true (upN (upN ht a (ht b)) b (ht a)) rs sn rw g o) _ _ _ _ dX2_borrow_82 ⟨g, fun w hw => hg1 w (by omega), rfl⟩ hP hD hS
      · refine lv_aload_n hx hb dX2_borrow_19 rfl (lv_at hl 2 rfl) ?_
        refine lv_iload hx hb dX2_borrow_20 (lv_at hl 0 rfl) ?_
        refine aa_ld hx hb hK hP 3 3 rfl rfl (j := i) (by omega) (by omega) dX2_borrow_22 ?_
        refine lv_astore (lv' := [(6, .ref (rw i)), (5, .int (nI i)), (4, .int (nI m)), (3, .ref b3), (0, .ref b0), (1, .int (nI a)), (2, .int (nI b))]) hx hb dX2_borrow_23 hl (by decide) rfl (fun ls hl => ?_)
        refine lv_aload hx hb dX2_borrow_25 (lv_at hl 0 rfl) ?_
        refine lv_iload_n hx hb dX2_borrow_27 rfl (lv_at hl 5 rfl) ?_
        refine ia_ld hx hb hK (hP.one (List.mem_append_right _ (List.mem_append_right _ (rB_mem (by omega))))) 0 0 rfl rfl (j := a) (by omega) (by omega) dX2_borrow_28 ?_
        refine lv_istore (lv' := [(7, .int (nI (g i a))), (6, .ref (rw i)), (5, .int (nI i)), (4, .int (nI m)), (3, .ref b3), (0, .ref b0), (1, .int (nI a)), (2, .int (nI b))]) hx hb dX2_borrow_29 hl (by decide) rfl (fun ls hl => ?_)
        refine lv_aload hx hb dX2_borrow_31 (lv_at hl 1 rfl) ?_
        refine lv_iload_n hx hb dX2_borrow_33 rfl (lv_at hl 6 rfl) ?_
        refine lv_aload hx hb dX2_borrow_34 (lv_at hl 1 rfl) ?_
        refine lv_iload_n hx hb dX2_borrow_36 rfl (lv_at hl 7 rfl) ?_
        refine ia_ld hx hb hK (hP.one (List.mem_append_right _ (List.mem_append_right _ (rB_mem (by omega))))) 0 0 rfl rfl (j := b) (by omega) (by omega) dX2_borrow_37 ?_
        refine ri_st (X := [(b0, .inr (2, [.int (nI n), .int (nI tn), .int (nI sl), .int (bI bg), .ref b1, .ref b2, .ref b3, .ref b4])), (b1, .inl (cI, n, .inl (fun k => nI (ht k)))), (b2, eQ cS n rs), (b3, eQ cW m rw), (b4, .inl (cZ, m, .inl (fun k => bI (o k))))]) (T := rB (fun w0 => eZ cZ n (sn w0)) rs n) (wy := g) (n := n) (ad := rw) (m2 := m) hx hb hK hP hD hS 0 rfl (w := i) (j := a) (v := g i b) (by omega) (by omega) (by omega) dX2_borrow_38 (fun H locs hP hD hS => ?_)
        have hP : va_P (dC, dI) vwCl (sW cI cZ cS cW b0 b1 b2 b3 b4 n m tn sl bg ht rs sn rw (upN g i (upN (g i) a (g i b))) o) H := hP
        have hD : va_D A (sW cI cZ cS cW b0 b1 b2 b3 b4 n m tn sl bg ht rs sn rw (upN g i (upN (g i) a (g i b))) o) := hD
        refine lv_aload hx hb dX2_borrow_39 (lv_at hl 1 rfl) ?_
        refine lv_iload_n hx hb dX2_borrow_41 rfl (lv_at hl 7 rfl) ?_
        refine lv_iload hx hb dX2_borrow_42 (lv_at hl 0 rfl) ?_
        refine ri_st (X := [(b0, .inr (2, [.int (nI n), .int (nI tn), .int (nI sl), .int (bI bg), .ref b1, .ref b2, .ref b3, .ref b4])), (b1, .inl (cI, n, .inl (fun k => nI (ht k)))), (b2, eQ cS n rs), (b3, eQ cW m rw), (b4, .inl (cZ, m, .inl (fun k => bI (o k))))]) (T := rB (fun w0 => eZ cZ n (sn w0)) rs n) (wy := (upN g i (upN (g i) a (g i b)))) (n := n) (ad := rw) (m2 := m) hx hb hK hP hD hS 0 rfl (w := i) (j := b) (v := g i a) (by omega) (by omega) (by omega) dX2_borrow_44 (fun H locs hP hD hS => ?_)
        have hP : va_P (dC, dI) vwCl (sW cI cZ cS cW b0 b1 b2 b3 b4 n m tn sl bg ht rs sn rw (upN (upN g i (upN (g i) a (g i b))) i (upN ((upN g i (upN (g i) a (g i b))) i) b (g i a))) o) H := hP
        have hD : va_D A (sW cI cZ cS cW b0 b1 b2 b3 b4 n m tn sl bg ht rs sn rw (upN (upN g i (upN (g i) a (g i b))) i (upN ((upN g i (upN (g i) a (g i b))) i) b (g i a))) o) := hD
        refine lv_iinc (v := nI (i + 1)) (lv' := [(5, .int (nI (i + 1))), (7, .int (nI (g i a))), (6, .ref (rw i)), (4, .int (nI m)), (3, .ref b3), (0, .ref b0), (1, .int (nI a)), (2, .int (nI b))]) hx hb dX2_borrow_45 hl (k := 2) rfl (nI_add _ _) (by decide) rfl (fun ls hl => ?_)
        refine lv_goto (tgt := 12) hx hb dX2_borrow_48 (by decide) ?_
        exact ih12 (i + 1) _ (by omega) (by omega) (fun w hw => by rcases Nat.lt_or_ge w i with z | z; (· rw [upN_n _ _ (by omega), upN_n _ _ (by omega)]; exact hg1 w z); (· rw [show w = i by omega, upN_s, upN_s, hg2 i (by omega)]; exact swS_up hab)) (fun w hw => by rw [upN_n _ _ (by omega), upN_n _ _ (by omega)]; exact hg2 w (by omega)) _ _ hP hD hS _ (lv_sub hl [0, 3, 4, 5, 6, 7] rfl)
  exact lp12 (m + 1) 0 wy (by omega) (by omega) (fun w hw => absurd hw (by omega)) (fun _ _ => rfl) _ _ hP hD hS _ (lv_sub hl [0, 1, 2, 3, 4, 5] rfl)

set_option maxHeartbeats 4000000 in
set_option maxRecDepth 100000 in
theorem m_X2_turn (b0 b1 b2 b3 b4 n m tn sl : Nat) (bg : Bool) (ht rs : Nat → Nat) (sn : Nat → Nat → Bool) (rw : Nat → Nat) (wy : Nat → Nat → Nat) (o : Nat → Bool) (p : Nat) (hn : n ≤ 5) (hm : m ≤ 243) (h0n : 0 < n) (hp9 : p = tn % n) (hp : p < n) (htn : tn < 2 ^ 20) (hht : ∀ k, k < n → ht k < 4) (hwy : ∀ w, w < m → ∀ k, k < n → wy w k < 4) (sz : Nat) : Gi l yX2_turn ws_X2_turn 2 49 1 243 sz (dC, dI) (tyL cI cZ cS cW) [.ref b0] (sW cI cZ cS cW b0 b1 b2 b3 b4 n m tn sl bg ht rs sn rw wy o) (fun r u => r = (if surS n m sn wy o p p ht = true then nI (ht p) else -1) ∧ ∃ (q : Nat) (o2 : Nat → Bool), (∀ w, w < m → o2 w = nxS n m sn wy o ht p (surS n m sn wy o p p ht) w) ∧ u = sW cI cZ cS cW b0 b1 b2 b3 q n m (tn + 1) (if surS n m sn wy o p p ht = true then sl else sl + 1) true ht rs sn rw wy o2) := by
  refine Gi_of (by decide +kernel) (Nat.le_of_ble_eq_true rfl) ?_
  intro pr ev sx mi ag bl me cd Q ls A S hP hK hD hA hZ hl hin ret
  obtain ⟨hx, hb, hml, hown, hts⟩ := id S
  have hown : sx.vm.findClass RX2 = some mi.cls := hown
  have hS : va_S A sx.heap sx.heap [] := va_S.rf
  have hl : lv_has ls 5 [(0, .ref b0)] := hl
  have hP : va_P (dC, dI) vwCl ([(b0, .inr (2, [.int (nI n), .int (nI tn), .int (nI sl), .int (bI bg), .ref b1, .ref b2, .ref b3, .ref b4])), (b1, .inl (cI, n, .inl (fun k => nI (ht k)))), (b2, eQ cS n rs), (b3, eQ cW m rw), (b4, .inl (cZ, m, .inl (fun k => bI (o k))))] ++ (rB (fun w0 => eZ cZ n (sn w0)) rs n ++ (rB (fun w0 => eI cI n (wy w0)) rw m))) sx.heap := hP
  have hD : va_D A ([(b0, .inr (2, [.int (nI n), .int (nI tn), .int (nI sl), .int (bI bg), .ref b1, .ref b2, .ref b3, .ref b4])), (b1, .inl (cI, n, .inl (fun k => nI (ht k)))), (b2, eQ cS n rs), (b3, eQ cW m rw), (b4, .inl (cZ, m, .inl (fun k => bI (o k))))] ++ (rB (fun w0 => eZ cZ n (sn w0)) rs n ++ (rB (fun w0 => eI cI n (wy w0)) rw m))) := hD
  refine lv_aload_n hx hb dX2_turn_0 rfl (lv_at hl 0 rfl) ?_
  refine va_get (D := (dC, dI)) (ci := 2) (v := .int (nI tn)) (C := RX2) (T := TX2) (N := 8) hx hb hts inX2 hown hK hP 0 rfl rfl 1 (by decide) (hts _ q_fl_X2_40) (fun _ h9 => h9) rfl dX2_turn_1 ?_
  refine lv_aload_n hx hb dX2_turn_4 rfl (lv_at hl 0 rfl) ?_
  refine va_get (D := (dC, dI)) (ci := 2) (v := .int (nI n)) (C := RX2) (T := TX2) (N := 8) hx hb hts inX2 hown hK hP 0 rfl rfl 0 (by decide) (hts _ q_fl_X2_27) (fun _ h9 => h9) rfl dX2_turn_5 ?_
  refine lv_irem hx hb dX2_turn_8 (nI_ne0 (by omega) (by omega)) ?_
  refine W_i (y := nI (tn % n)) (pk_rem (by omega) (by omega) (by omega)) ?_
  refine W_i (y := nI p) (by rw [hp9]) ?_
  refine lv_istore_n (lv' := [(1, .int (nI p)), (0, .ref b0)]) hx hb dX2_turn_9 rfl hl (by decide) rfl (fun ls hl => ?_)
  refine lv_aload_n hx hb dX2_turn_10 rfl (lv_at hl 1 rfl) ?_
  refine lv_iload_n hx hb dX2_turn_11 rfl (lv_at hl 0 rfl) ?_
  refine lv_iload_n hx hb dX2_turn_12 rfl (lv_at hl 0 rfl) ?_
  refine lv_aload_n hx hb dX2_turn_13 rfl (lv_at hl 1 rfl) ?_
  refine va_get (D := (dC, dI)) (ci := 2) (v := .ref b1) (C := RX2) (T := TX2) (N := 8) hx hb hts inX2 hown hK hP 0 rfl rfl 4 (by decide) (hts _ q_fl_X2_7) (fun _ h9 => h9) rfl dX2_turn_14 ?_
  refine call_VpS (As := [.int (nI p), .int (nI p), .ref b1]) (rest := []) S (m_X2_isSure b0 b1 b2 b3 b4 n m tn sl bg ht rs sn rw wy o p p b1 ht hn hp hp (by omega) (List.mem_append_left _ (List.mem_cons_of_mem _ List.mem_cons_self)) hht hwy) g_X2_X2_isSure hd_X2_isSure ⟨Nat.le_of_ble_eq_true rfl, Nat.le_of_ble_eq_true rfl⟩ ⟨by show _ ≤ 1; omega, by show _ ≤ 243; omega⟩ hP hD hK hS hZ (List.Sublist.refl _) 0 rfl rfl hl.1 rfl (Nat.le_of_ble_eq_true rfl) dX2_turn_17 (fun r H locs hq hP hS => ?_)
  obtain rfl := hq
  refine lv_istore_n (lv' := [(2, .int (bI (surS n m sn wy o p p ht))), (1, .int (nI p)), (0, .ref b0)]) hx hb dX2_turn_20 rfl hl (by decide) rfl (fun ls hl => ?_)
  refine lv_aload_n hx hb dX2_turn_21 rfl (lv_at hl 2 rfl) ?_
  refine va_get (D := (dC, dI)) (ci := 2) (v := .ref b4) (C := RX2) (T := TX2) (N := 8) hx hb hts inX2 hown hK hP 0 rfl rfl 7 (by decide) (hts _ q_fl_X2_24) (fun _ h9 => h9) rfl dX2_turn_22 ?_
  refine va_alen (v := nI m) hx hb hK hP 4 1 rfl rfl rfl dX2_turn_25 ?_
  refine my_newa (atype := .boolean) (ty := .boolean) (cI := cZ) (a0 := (m, .inl (fun k => bI ((fun _ => false) k)))) (N' := m) hx hb (hts _ q_ac_boolean) rfl hK 1 rfl ([]) ([(b0, .inr (2, [.int (nI n), .int (nI tn), .int (nI sl), .int (bI bg), .ref b1, .ref b2, .ref b3, .ref b4])), (b1, .inl (cI, n, .inl (fun k => nI (ht k)))), (b2, eQ cS n rs), (b3, eQ cW m rw), (b4, .inl (cZ, m, .inl (fun k => bI (o k))))] ++ (rB (fun w0 => eZ cZ n (sn w0)) rs n ++ (rB (fun w0 => eI cI n (wy w0)) rw m))) hP hD hS hA (fun _ => rfl) (nI_pos (by omega)) (nI_clamp (by omega)) (by show _ * 1 ≤ _; omega) (by show _ ≤ 1; omega) (by show _ ≤ 243; omega) dX2_turn_26 (by simp) (fun q26 H hP hD hS => ?_)
  have hP : va_P (dC, dI) vwCl ([(q26, .inl (cZ, m, .inl (fun k => bI ((fun _ => false) k)))), (b0, .inr (2, [.int (nI n), .int (nI tn), .int (nI sl), .int (bI bg), .ref b1, .ref b2, .ref b3, .ref b4])), (b1, .inl (cI, n, .inl (fun k => nI (ht k)))), (b2, eQ cS n rs), (b3, eQ cW m rw), (b4, .inl (cZ, m, .inl (fun k => bI (o k))))] ++ (rB (fun w0 => eZ cZ n (sn w0)) rs n ++ (rB (fun w0 => eI cI n (wy w0)) rw m))) H := hP
  have hD : va_D A ([(q26, .inl (cZ, m, .inl (fun k => bI ((fun _ => false) k)))), (b0, .inr (2, [.int (nI n), .int (nI tn), .int (nI sl), .int (bI bg), .ref b1, .ref b2, .ref b3, .ref b4])), (b1, .inl (cI, n, .inl (fun k => nI (ht k)))), (b2, eQ cS n rs), (b3, eQ cW m rw), (b4, .inl (cZ, m, .inl (fun k => bI (o k))))] ++ (rB (fun w0 => eZ cZ n (sn w0)) rs n ++ (rB (fun w0 => eI cI n (wy w0)) rw m))) := hD
  refine lv_astore_n (lv' := [(3, .ref q26), (2, .int (bI (surS n m sn wy o p p ht))), (1, .int (nI p)), (0, .ref b0)]) hx hb dX2_turn_28 rfl hl (by decide) rfl (fun ls hl => ?_)
  refine lv_iconst (v := nI 0) hx hb dX2_turn_29 (by decide) ?_
  refine lv_istore (lv' := [(4, .int (nI 0)), (3, .ref q26), (2, .int (bI (surS n m sn wy o p p ht))), (1, .int (nI p)), (0, .ref b0)]) hx hb dX2_turn_30 hl (by decide) rfl (fun ls hl => ?_)
  have lp32 : ∀ (kf : Nat) (i : Nat) (g : Nat → Bool), m < i + kf → (i ≤ m) → (∀ w, w < i → g w = nxS n m sn wy o ht p (surS n m sn wy o p p ht) w) → ∀ (H : Heap) (locs : List Loc), va_P (dC, dI) vwCl ([(q26, .inl (cZ, m, .inl (fun k => bI (g k)))), (b0, .inr (2, [.int (nI n), .int (nI tn), .int (nI sl), .int (bI bg), .ref b1, .ref b2, .ref b3, .ref b4])), (b1, .inl (cI, n, .inl (fun k => nI (ht k)))), (b2, eQ cS n rs), (b3, eQ cW m rw), (b4, .inl (cZ, m, .inl (fun k => bI (o k))))] ++ (rB (fun w0 => eZ cZ n (sn w0)) rs n ++ (rB (fun w0 => eI cI n (wy w0)) rw m))) H → va_D A ([(q26, .inl (cZ, m, .inl (fun k => bI (g k)))), (b0, .inr (2, [.int (nI n), .int (nI tn), .int (nI sl), .int (bI bg), .ref b1, .ref b2, .ref b3, .ref b4])), (b1, .inl (cI, n, .inl (fun k => nI (ht k)))), (b2, eQ cS n rs), (b3, eQ cW m rw), (b4, .inl (cZ, m, .inl (fun k => bI (o k))))] ++ (rB (fun w0 => eZ cZ n (sn w0)) rs n ++ (rB (fun w0 => eI cI n (wy w0)) rw m))) → va_S A sx.heap H locs → ∀ ls : Array Slot, lv_has ls 5 [(4, .int (nI i)), (3, .ref q26), (2, .int (bI (surS n m sn wy o p p ht))), (1, .int (nI p)), (0, .ref b0)] → W pr l ev (rmG 2 49 1 243) sx mi ag bl me cd H locs (0 + 1) (0 + m) Q (F0 mi 32 ls []) := by
    intro kf
    induction kf with
    | zero => intro i g hkf hi hg1; exact absurd hkf (by omega)
    | succ kf ih32 =>
      intro i g hkf hi hg1 H locs hP hD hS ls hl
      refine lv_iload hx hb dX2_turn_32 (lv_at hl 0 rfl) ?_
      refine lv_aload_n hx hb dX2_turn_34 rfl (lv_at hl 4 rfl) ?_
      refine va_get (D := (dC, dI)) (ci := 2) (v := .ref b3) (C := RX2) (T := TX2) (N := 8) hx hb hts inX2 hown hK hP 1 rfl rfl 6 (by decide) (hts _ q_fl_X2_20) (fun _ h9 => h9) rfl dX2_turn_35 ?_
      refine va_alen (v := nI m) hx hb hK hP 4 3 rfl rfl rfl dX2_turn_38 ?_
      refine icN_ge (tgt := 106) hx hb dX2_turn_39 (by decide) (by omega) (by omega) (fun c_39 => ?_) (fun c_39 => ?_)
      · refine lv_aload_n hx hb dX2_turn_106 rfl (lv_at hl 4 rfl) ?_
        refine lv_aload_n hx hb dX2_turn_107 rfl (lv_at hl 1 rfl) ?_
        refine va_put (D := (dC, dI)) (ci := 2) (v := .ref q26) (ty := .array .boolean) (C := RX2) (T := TX2) (N := 8) hx hb hts inX2 tyX2 tyX2_ok nmX2 hown hK hP hD hS 1 rfl rfl 7 (by decide) (hts _ q_fl_X2_24) (fun _ h9 => h9) rfl (by decide +kernel) rfl rfl (Nat.le_of_ble_eq_true rfl) dX2_turn_108 (fun H locs hP hD hS => ?_)
        have hP : va_P (dC, dI) vwCl ([(q26, .inl (cZ, m, .inl (fun k => bI (g k)))), (b0, .inr (2, [.int (nI n), .int (nI tn), .int (nI sl), .int (bI bg), .ref b1, .ref b2, .ref b3, .ref q26])), (b1, .inl (cI, n, .inl (fun k => nI (ht k)))), (b2, eQ cS n rs), (b3, eQ cW m rw), (b4, .inl (cZ, m, .inl (fun k => bI (o k))))] ++ (rB (fun w0 => eZ cZ n (sn w0)) rs n ++ (rB (fun w0 => eI cI n (wy w0)) rw m))) H := hP
        have hD : va_D A ([(q26, .inl (cZ, m, .inl (fun k => bI (g k)))), (b0, .inr (2, [.int (nI n), .int (nI tn), .int (nI sl), .int (bI bg), .ref b1, .ref b2, .ref b3, .ref q26])), (b1, .inl (cI, n, .inl (fun k => nI (ht k)))), (b2, eQ cS n rs), (b3, eQ cW m rw), (b4, .inl (cZ, m, .inl (fun k => bI (o k))))] ++ (rB (fun w0 => eZ cZ n (sn w0)) rs n ++ (rB (fun w0 => eI cI n (wy w0)) rw m))) := hD
        refine lv_aload_n hx hb dX2_turn_111 rfl (lv_at hl 4 rfl) ?_
        refine lv_dup hx hb dX2_turn_112 rfl ?_
        refine va_get (D := (dC, dI)) (ci := 2) (v := .int (nI tn)) (C := RX2) (T := TX2) (N := 8) hx hb hts inX2 hown hK hP 1 rfl rfl 1 (by decide) (hts _ q_fl_X2_40) (fun _ h9 => h9) rfl dX2_turn_113 ?_
        refine lv_iconst (v := nI 1) hx hb dX2_turn_116 (by decide) ?_
        refine lv_iadd hx hb dX2_turn_117 ?_
        refine W_i (y := nI (tn + 1)) (nI_add _ _) ?_
        refine va_put (D := (dC, dI)) (ci := 2) (v := .int (nI (tn + 1))) (ty := .int) (C := RX2) (T := TX2) (N := 8) hx hb hts inX2 tyX2 tyX2_ok nmX2 hown hK hP hD hS 1 rfl rfl 1 (by decide) (hts _ q_fl_X2_40) (fun _ h9 => h9) rfl (by decide +kernel) rfl rfl (Nat.le_of_ble_eq_true rfl) dX2_turn_118 (fun H locs hP hD hS => ?_)
        have hP : va_P (dC, dI) vwCl ([(q26, .inl (cZ, m, .inl (fun k => bI (g k)))), (b0, .inr (2, [.int (nI n), .int (nI (tn + 1)), .int (nI sl), .int (bI bg), .ref b1, .ref b2, .ref b3, .ref q26])), (b1, .inl (cI, n, .inl (fun k => nI (ht k)))), (b2, eQ cS n rs), (b3, eQ cW m rw), (b4, .inl (cZ, m, .inl (fun k => bI (o k))))] ++ (rB (fun w0 => eZ cZ n (sn w0)) rs n ++ (rB (fun w0 => eI cI n (wy w0)) rw m))) H := hP
        have hD : va_D A ([(q26, .inl (cZ, m, .inl (fun k => bI (g k)))), (b0, .inr (2, [.int (nI n), .int (nI (tn + 1)), .int (nI sl), .int (bI bg), .ref b1, .ref b2, .ref b3, .ref q26])), (b1, .inl (cI, n, .inl (fun k => nI (ht k)))), (b2, eQ cS n rs), (b3, eQ cW m rw), (b4, .inl (cZ, m, .inl (fun k => bI (o k))))] ++ (rB (fun w0 => eZ cZ n (sn w0)) rs n ++ (rB (fun w0 => eI cI n (wy w0)) rw m))) := hD
        refine lv_aload_n hx hb dX2_turn_121 rfl (lv_at hl 4 rfl) ?_
        refine lv_dup hx hb dX2_turn_122 rfl ?_
        refine va_get (D := (dC, dI)) (ci := 2) (v := .int (nI sl)) (C := RX2) (T := TX2) (N := 8) hx hb hts inX2 hown hK hP 1 rfl rfl 2 (by decide) (hts _ q_fl_X2_47) (fun _ h9 => h9) rfl dX2_turn_123 ?_
        refine lv_iload_n hx hb dX2_turn_126 rfl (lv_at hl 2 rfl) ?_
        refine ifB_eq (tgt := 134) hx hb dX2_turn_127 (by decide) (fun c_127 => ?_) (fun c_127 => ?_)
        · refine lv_iconst (v := nI 1) hx hb dX2_turn_134 (by decide) ?_
          refine lv_iadd hx hb dX2_turn_135 ?_
          refine W_i (y := nI (sl + 1)) (nI_add _ _) ?_
          refine va_put (D := (dC, dI)) (ci := 2) (v := .int (nI (sl + 1))) (ty := .int) (C := RX2) (T := TX2) (N := 8) hx hb hts inX2 tyX2 tyX2_ok nmX2 hown hK hP hD hS 1 rfl rfl 2 (by decide) (hts _ q_fl_X2_47) (fun _ h9 => h9) rfl (by decide +kernel) rfl rfl (Nat.le_of_ble_eq_true rfl) dX2_turn_136 (fun H locs hP hD hS => ?_)
          have hP : va_P (dC, dI) vwCl ([(q26, .inl (cZ, m, .inl (fun k => bI (g k)))), (b0, .inr (2, [.int (nI n), .int (nI (tn + 1)), .int (nI (sl + 1)), .int (bI bg), .ref b1, .ref b2, .ref b3, .ref q26])), (b1, .inl (cI, n, .inl (fun k => nI (ht k)))), (b2, eQ cS n rs), (b3, eQ cW m rw), (b4, .inl (cZ, m, .inl (fun k => bI (o k))))] ++ (rB (fun w0 => eZ cZ n (sn w0)) rs n ++ (rB (fun w0 => eI cI n (wy w0)) rw m))) H := hP
          have hD : va_D A ([(q26, .inl (cZ, m, .inl (fun k => bI (g k)))), (b0, .inr (2, [.int (nI n), .int (nI (tn + 1)), .int (nI (sl + 1)), .int (bI bg), .ref b1, .ref b2, .ref b3, .ref q26])), (b1, .inl (cI, n, .inl (fun k => nI (ht k)))), (b2, eQ cS n rs), (b3, eQ cW m rw), (b4, .inl (cZ, m, .inl (fun k => bI (o k))))] ++ (rB (fun w0 => eZ cZ n (sn w0)) rs n ++ (rB (fun w0 => eI cI n (wy w0)) rw m))) := hD
          refine lv_aload_n hx hb dX2_turn_139 rfl (lv_at hl 4 rfl) ?_
          refine lv_iconst (v := nI 1) hx hb dX2_turn_140 (by decide) ?_
          refine W_i (y := bI true) rfl ?_
          refine va_put (D := (dC, dI)) (ci := 2) (v := .int (bI true)) (ty := .boolean) (C := RX2) (T := TX2) (N := 8) hx hb hts inX2 tyX2 tyX2_ok nmX2 hown hK hP hD hS 1 rfl rfl 3 (by decide) (hts _ q_fl_X2_50) (fun _ h9 => h9) rfl (by decide +kernel) rfl rfl (Nat.le_of_ble_eq_true rfl) dX2_turn_141 (fun H locs hP hD hS => ?_)
          have hP : va_P (dC, dI) vwCl ([(q26, .inl (cZ, m, .inl (fun k => bI (g k)))), (b0, .inr (2, [.int (nI n), .int (nI (tn + 1)), .int (nI (sl + 1)), .int (bI true), .ref b1, .ref b2, .ref b3, .ref q26])), (b1, .inl (cI, n, .inl (fun k => nI (ht k)))), (b2, eQ cS n rs), (b3, eQ cW m rw), (b4, .inl (cZ, m, .inl (fun k => bI (o k))))] ++ (rB (fun w0 => eZ cZ n (sn w0)) rs n ++ (rB (fun w0 => eI cI n (wy w0)) rw m))) H := hP
          have hD : va_D A ([(q26, .inl (cZ, m, .inl (fun k => bI (g k)))), (b0, .inr (2, [.int (nI n), .int (nI (tn + 1)), .int (nI (sl + 1)), .int (bI true), .ref b1, .ref b2, .ref b3, .ref q26])), (b1, .inl (cI, n, .inl (fun k => nI (ht k)))), (b2, eQ cS n rs), (b3, eQ cW m rw), (b4, .inl (cZ, m, .inl (fun k => bI (o k))))] ++ (rB (fun w0 => eZ cZ n (sn w0)) rs n ++ (rB (fun w0 => eI cI n (wy w0)) rw m))) := hD
          refine lv_iload_n hx hb dX2_turn_144 rfl (lv_at hl 2 rfl) ?_
          refine ifB_eq (tgt := 157) hx hb dX2_turn_145 (by decide) (fun c_145 => ?_) (fun c_145 => absurd c_145 (by rw [c_127]; decide))
          refine lv_iconst (v := (-1)) hx hb dX2_turn_157 (by decide) ?_
          have hP := va_P.part (X := [(q26, .inl (cZ, m, .inl (fun k => bI (g k)))), (b0, .inr (2, [.int (nI n), .int (nI (tn + 1)), .int (nI (sl + 1)), .int (bI true), .ref b1, .ref b2, .ref b3, .ref q26])), (b1, .inl (cI, n, .inl (fun k => nI (ht k)))), (b2, eQ cS n rs), (b3, eQ cW m rw), (b4, .inl (cZ, m, .inl (fun k => bI (o k))))]) (cx := [(b0, .inr (2, [.int (nI n), .int (nI (tn + 1)), .int (nI (sl + 1)), .int (bI true), .ref b1, .ref b2, .ref b3, .ref q26])), (b1, .inl (cI, n, .inl (fun k => nI (ht k)))), (b2, eQ cS n rs), (b3, eQ cW m rw), (q26, .inl (cZ, m, .inl (fun k => bI (g k))))]) (pl := rB (fun w0 => eZ cZ n (sn w0)) rs n ++ (rB (fun w0 => eI cI n (wy w0)) rw m)) hP [1, 2, 3, 4, 0] rfl
          have hD := va_D.part (X := [(q26, .inl (cZ, m, .inl (fun k => bI (g k)))), (b0, .inr (2, [.int (nI n), .int (nI (tn + 1)), .int (nI (sl + 1)), .int (bI true), .ref b1, .ref b2, .ref b3, .ref q26])), (b1, .inl (cI, n, .inl (fun k => nI (ht k)))), (b2, eQ cS n rs), (b3, eQ cW m rw), (b4, .inl (cZ, m, .inl (fun k => bI (o k))))]) (cx := [(b0, .inr (2, [.int (nI n), .int (nI (tn + 1)), .int (nI (sl + 1)), .int (bI true), .ref b1, .ref b2, .ref b3, .ref q26])), (b1, .inl (cI, n, .inl (fun k => nI (ht k)))), (b2, eQ cS n rs), (b3, eQ cW m rw), (q26, .inl (cZ, m, .inl (fun k => bI (g k))))]) (pl := rB (fun w0 => eZ cZ n (sn w0)) rs n ++ (rB (fun w0 => eI cI n (wy w0)) rw m)) hD [1, 2, 3, 4, 0] (by decide) rfl
          have hP : va_P (dC, dI) vwCl (sW cI cZ cS cW b0 b1 b2 b3 q26 n m (tn + 1) (sl + 1) true ht rs sn rw wy g) H := hP
          have hD : va_D A (sW cI cZ cS cW b0 b1 b2 b3 q26 n m (tn + 1) (sl + 1) true ht rs sn rw wy g) := hD
          refine W.widen (k := 1) (n := 243) (by omega) (by omega) ?_
          exact ret _ (sW cI cZ cS cW b0 b1 b2 b3 q26 n m (tn + 1) (sl + 1) true ht rs sn rw wy g) _ _ _ _ dX2_turn_158 rfl ⟨by rw [if_neg (by rw [c_127]; decide)], q26, g, fun w hw => hg1 w (by omega), by rw [if_neg (by rw [c_127]; decide)]⟩ hP hD hS
        · refine lv_iconst (v := nI 0) hx hb dX2_turn_130 (by decide) ?_
          refine lv_goto (tgt := 135) hx hb dX2_turn_131 (by decide) ?_
          refine lv_iadd hx hb dX2_turn_135 ?_
          refine W_i (y := nI (sl + 0)) (nI_add _ _) ?_
          refine va_put (D := (dC, dI)) (ci := 2) (v := .int (nI (sl + 0))) (ty := .int) (C := RX2) (T := TX2) (N := 8) hx hb hts inX2 tyX2 tyX2_ok nmX2 hown hK hP hD hS 1 rfl rfl 2 (by decide) (hts _ q_fl_X2_47) (fun _ h9 => h9) rfl (by decide +kernel) rfl rfl (Nat.le_of_ble_eq_true rfl) dX2_turn_136 (fun H locs hP hD hS => ?_)
          have hP : va_P (dC, dI) vwCl ([(q26, .inl (cZ, m, .inl (fun k => bI (g k)))), (b0, .inr (2, [.int (nI n), .int (nI (tn + 1)), .int (nI (sl + 0)), .int (bI bg), .ref b1, .ref b2, .ref b3, .ref q26])), (b1, .inl (cI, n, .inl (fun k => nI (ht k)))), (b2, eQ cS n rs), (b3, eQ cW m rw), (b4, .inl (cZ, m, .inl (fun k => bI (o k))))] ++ (rB (fun w0 => eZ cZ n (sn w0)) rs n ++ (rB (fun w0 => eI cI n (wy w0)) rw m))) H := hP
          have hD : va_D A ([(q26, .inl (cZ, m, .inl (fun k => bI (g k)))), (b0, .inr (2, [.int (nI n), .int (nI (tn + 1)), .int (nI (sl + 0)), .int (bI bg), .ref b1, .ref b2, .ref b3, .ref q26])), (b1, .inl (cI, n, .inl (fun k => nI (ht k)))), (b2, eQ cS n rs), (b3, eQ cW m rw), (b4, .inl (cZ, m, .inl (fun k => bI (o k))))] ++ (rB (fun w0 => eZ cZ n (sn w0)) rs n ++ (rB (fun w0 => eI cI n (wy w0)) rw m))) := hD
          refine lv_aload_n hx hb dX2_turn_139 rfl (lv_at hl 4 rfl) ?_
          refine lv_iconst (v := nI 1) hx hb dX2_turn_140 (by decide) ?_
          refine W_i (y := bI true) rfl ?_
          refine va_put (D := (dC, dI)) (ci := 2) (v := .int (bI true)) (ty := .boolean) (C := RX2) (T := TX2) (N := 8) hx hb hts inX2 tyX2 tyX2_ok nmX2 hown hK hP hD hS 1 rfl rfl 3 (by decide) (hts _ q_fl_X2_50) (fun _ h9 => h9) rfl (by decide +kernel) rfl rfl (Nat.le_of_ble_eq_true rfl) dX2_turn_141 (fun H locs hP hD hS => ?_)
          have hP : va_P (dC, dI) vwCl ([(q26, .inl (cZ, m, .inl (fun k => bI (g k)))), (b0, .inr (2, [.int (nI n), .int (nI (tn + 1)), .int (nI (sl + 0)), .int (bI true), .ref b1, .ref b2, .ref b3, .ref q26])), (b1, .inl (cI, n, .inl (fun k => nI (ht k)))), (b2, eQ cS n rs), (b3, eQ cW m rw), (b4, .inl (cZ, m, .inl (fun k => bI (o k))))] ++ (rB (fun w0 => eZ cZ n (sn w0)) rs n ++ (rB (fun w0 => eI cI n (wy w0)) rw m))) H := hP
          have hD : va_D A ([(q26, .inl (cZ, m, .inl (fun k => bI (g k)))), (b0, .inr (2, [.int (nI n), .int (nI (tn + 1)), .int (nI (sl + 0)), .int (bI true), .ref b1, .ref b2, .ref b3, .ref q26])), (b1, .inl (cI, n, .inl (fun k => nI (ht k)))), (b2, eQ cS n rs), (b3, eQ cW m rw), (b4, .inl (cZ, m, .inl (fun k => bI (o k))))] ++ (rB (fun w0 => eZ cZ n (sn w0)) rs n ++ (rB (fun w0 => eI cI n (wy w0)) rw m))) := hD
          refine lv_iload_n hx hb dX2_turn_144 rfl (lv_at hl 2 rfl) ?_
          refine ifB_eq (tgt := 157) hx hb dX2_turn_145 (by decide) (fun c_145 => absurd c_145 (by rw [c_127]; decide)) (fun c_145 => ?_)
          refine lv_aload_n hx hb dX2_turn_148 rfl (lv_at hl 4 rfl) ?_
          refine va_get (D := (dC, dI)) (ci := 2) (v := .ref b1) (C := RX2) (T := TX2) (N := 8) hx hb hts inX2 hown hK hP 1 rfl rfl 4 (by decide) (hts _ q_fl_X2_7) (fun _ h9 => h9) rfl dX2_turn_149 ?_
          refine lv_iload_n hx hb dX2_turn_152 rfl (lv_at hl 3 rfl) ?_
          refine ia_ld hx hb hK hP 2 0 rfl rfl (j := p) (by omega) (by omega) dX2_turn_153 ?_
          refine lv_goto (tgt := 158) hx hb dX2_turn_154 (by decide) ?_
          have hP := va_P.part (X := [(q26, .inl (cZ, m, .inl (fun k => bI (g k)))), (b0, .inr (2, [.int (nI n), .int (nI (tn + 1)), .int (nI (sl + 0)), .int (bI true), .ref b1, .ref b2, .ref b3, .ref q26])), (b1, .inl (cI, n, .inl (fun k => nI (ht k)))), (b2, eQ cS n rs), (b3, eQ cW m rw), (b4, .inl (cZ, m, .inl (fun k => bI (o k))))]) (cx := [(b0, .inr (2, [.int (nI n), .int (nI (tn + 1)), .int (nI (sl + 0)), .int (bI true), .ref b1, .ref b2, .ref b3, .ref q26])), (b1, .inl (cI, n, .inl (fun k => nI (ht k)))), (b2, eQ cS n rs), (b3, eQ cW m rw), (q26, .inl (cZ, m, .inl (fun k => bI (g k))))]) (pl := rB (fun w0 => eZ cZ n (sn w0)) rs n ++ (rB (fun w0 => eI cI n (wy w0)) rw m)) hP [1, 2, 3, 4, 0] rfl
          have hD := va_D.part (X := [(q26, .inl (cZ, m, .inl (fun k => bI (g k)))), (b0, .inr (2, [.int (nI n), .int (nI (tn + 1)), .int (nI (sl + 0)), .int (bI true), .ref b1, .ref b2, .ref b3, .ref q26])), (b1, .inl (cI, n, .inl (fun k => nI (ht k)))), (b2, eQ cS n rs), (b3, eQ cW m rw), (b4, .inl (cZ, m, .inl (fun k => bI (o k))))]) (cx := [(b0, .inr (2, [.int (nI n), .int (nI (tn + 1)), .int (nI (sl + 0)), .int (bI true), .ref b1, .ref b2, .ref b3, .ref q26])), (b1, .inl (cI, n, .inl (fun k => nI (ht k)))), (b2, eQ cS n rs), (b3, eQ cW m rw), (q26, .inl (cZ, m, .inl (fun k => bI (g k))))]) (pl := rB (fun w0 => eZ cZ n (sn w0)) rs n ++ (rB (fun w0 => eI cI n (wy w0)) rw m)) hD [1, 2, 3, 4, 0] (by decide) rfl
          have hP : va_P (dC, dI) vwCl (sW cI cZ cS cW b0 b1 b2 b3 q26 n m (tn + 1) (sl + 0) true ht rs sn rw wy g) H := hP
          have hD : va_D A (sW cI cZ cS cW b0 b1 b2 b3 q26 n m (tn + 1) (sl + 0) true ht rs sn rw wy g) := hD
          refine W.widen (k := 1) (n := 243) (by omega) (by omega) ?_
          exact ret _ (sW cI cZ cS cW b0 b1 b2 b3 q26 n m (tn + 1) (sl + 0) true ht rs sn rw wy g) _ _ _ _ dX2_turn_158 rfl ⟨by rw [if_pos c_127], q26, g, fun w hw => hg1 w (by omega), by rw [if_pos c_127]; rfl⟩ hP hD hS
      · refine lv_aload_n hx hb dX2_turn_42 rfl (lv_at hl 1 rfl) ?_
        refine lv_iload hx hb dX2_turn_43 (lv_at hl 0 rfl) ?_
        refine lv_aload_n hx hb dX2_turn_45 rfl (lv_at hl 4 rfl) ?_
        refine va_get (D := (dC, dI)) (ci := 2) (v := .ref b4) (C := RX2) (T := TX2) (N := 8) hx hb hts inX2 hown hK hP 1 rfl rfl 7 (by decide) (hts _ q_fl_X2_24) (fun _ h9 => h9) rfl dX2_turn_46 ?_
        refine lv_iload hx hb dX2_turn_49 (lv_at hl 0 rfl) ?_
        refine za_ld hx hb hK hP 5 1 rfl rfl (j := i) (by omega) (by omega) dX2_turn_51 ?_
        refine ifB_eq (tgt := 98) hx hb dX2_turn_52 (by decide) (fun c_52 => ?_) (fun c_52 => ?_)
        · refine lv_iconst (v := nI 0) hx hb dX2_turn_98 (by decide) ?_
          refine W_i (y := bI false) rfl ?_
          refine za_st hx hb hK hP hD hS 0 1 rfl rfl (j := i) (v := false) (by omega) (by omega) dX2_turn_99 (fun H locs hP hD hS => ?_)
          have hP : va_P (dC, dI) vwCl ([(q26, .inl (cZ, m, .inl (fun k => bI ((upN g i false) k)))), (b0, .inr (2, [.int (nI n), .int (nI tn), .int (nI sl), .int (bI bg), .ref b1, .ref b2, .ref b3, .ref b4])), (b1, .inl (cI, n, .inl (fun k => nI (ht k)))), (b2, eQ cS n rs), (b3, eQ cW m rw), (b4, .inl (cZ, m, .inl (fun k => bI (o k))))] ++ (rB (fun w0 => eZ cZ n (sn w0)) rs n ++ (rB (fun w0 => eI cI n (wy w0)) rw m))) H := hP
          have hD : va_D A ([(q26, .inl (cZ, m, .inl (fun k => bI ((upN g i false) k)))), (b0, .inr (2, [.int (nI n), .int (nI tn), .int (nI sl), .int (bI bg), .ref b1, .ref b2, .ref b3, .ref b4])), (b1, .inl (cI, n, .inl (fun k => nI (ht k)))), (b2, eQ cS n rs), (b3, eQ cW m rw), (b4, .inl (cZ, m, .inl (fun k => bI (o k))))] ++ (rB (fun w0 => eZ cZ n (sn w0)) rs n ++ (rB (fun w0 => eI cI n (wy w0)) rw m))) := hD
          refine lv_iinc (v := nI (i + 1)) (lv' := [(4, .int (nI (i + 1))), (3, .ref q26), (2, .int (bI (surS n m sn wy o p p ht))), (1, .int (nI p)), (0, .ref b0)]) hx hb dX2_turn_100 hl (k := 0) rfl (nI_add _ _) (by decide) rfl (fun ls hl => ?_)
          refine lv_goto (tgt := 32) hx hb dX2_turn_103 (by decide) ?_
          exact ih32 (i + 1) _ (by omega) (by omega) (fun w hw => by rcases Nat.lt_or_ge w i with z | z; (· rw [upN_n _ _ (by omega)]; exact hg1 w z); (· rw [show w = i by omega, upN_s]; exact (by simp [nxS, c_52]))) _ _ hP hD hS _ (lv_sub hl [0, 1, 2, 3, 4] rfl)
        · refine lv_aload_n hx hb dX2_turn_55 rfl (lv_at hl 4 rfl) ?_
          refine lv_iload_n hx hb dX2_turn_56 rfl (lv_at hl 3 rfl) ?_
          refine lv_iload_n hx hb dX2_turn_57 rfl (lv_at hl 3 rfl) ?_
          refine lv_aload_n hx hb dX2_turn_58 rfl (lv_at hl 4 rfl) ?_
          refine va_get (D := (dC, dI)) (ci := 2) (v := .ref b3) (C := RX2) (T := TX2) (N := 8) hx hb hts inX2 hown hK hP 1 rfl rfl 6 (by decide) (hts _ q_fl_X2_20) (fun _ h9 => h9) rfl dX2_turn_59 ?_
          refine lv_iload hx hb dX2_turn_62 (lv_at hl 0 rfl) ?_
          refine aa_ld hx hb hK hP 4 3 rfl rfl (j := i) (by omega) (by omega) dX2_turn_64 ?_
          refine call_VpS (As := [.int (nI p), .int (nI p), .ref (rw i)]) (rest := [.int (nI i), .ref q26]) S (m_X2_isSure b0 b1 b2 b3 b4 n m tn sl bg ht rs sn rw wy o p p (rw i) (wy i) hn hp hp (by omega) (List.mem_append_right _ (List.mem_append_right _ (rB_mem (by omega)))) (hwy i (by omega)) hwy) g_X2_X2_isSure hd_X2_isSure ⟨Nat.le_of_ble_eq_true rfl, Nat.le_of_ble_eq_true rfl⟩ ⟨by show _ ≤ 1; omega, by show _ ≤ 243; omega⟩ hP hD hK hS hZ (List.sublist_cons_self _ _) 0 rfl rfl hl.1 rfl (Nat.le_of_ble_eq_true rfl) dX2_turn_65 (fun r H locs hq hP hS => ?_)
          obtain rfl := hq
          refine lv_iload_n hx hb dX2_turn_68 rfl (lv_at hl 2 rfl) ?_
          refine icB_ne (tgt := 98) hx hb dX2_turn_69 (by decide) (fun c_69 => ?_) (fun c_69 => ?_)
          · refine lv_iconst (v := nI 0) hx hb dX2_turn_98 (by decide) ?_
            refine W_i (y := bI false) rfl ?_
            refine za_st hx hb hK hP hD hS 0 1 rfl rfl (j := i) (v := false) (by omega) (by omega) dX2_turn_99 (fun H locs hP hD hS => ?_)
            have hP : va_P (dC, dI) vwCl ([(q26, .inl (cZ, m, .inl (fun k => bI ((upN g i false) k)))), (b0, .inr (2, [.int (nI n), .int (nI tn), .int (nI sl), .int (bI bg), .ref b1, .ref b2, .ref b3, .ref b4])), (b1, .inl (cI, n, .inl (fun k => nI (ht k)))), (b2, eQ cS n rs), (b3, eQ cW m rw), (b4, .inl (cZ, m, .inl (fun k => bI (o k))))] ++ (rB (fun w0 => eZ cZ n (sn w0)) rs n ++ (rB (fun w0 => eI cI n (wy w0)) rw m))) H := hP
            have hD : va_D A ([(q26, .inl (cZ, m, .inl (fun k => bI ((upN g i false) k)))), (b0, .inr (2, [.int (nI n), .int (nI tn), .int (nI sl), .int (bI bg), .ref b1, .ref b2, .ref b3, .ref b4])), (b1, .inl (cI, n, .inl (fun k => nI (ht k)))), (b2, eQ cS n rs), (b3, eQ cW m rw), (b4, .inl (cZ, m, .inl (fun k => bI (o k))))] ++ (rB (fun w0 => eZ cZ n (sn w0)) rs n ++ (rB (fun w0 => eI cI n (wy w0)) rw m))) := hD
            refine lv_iinc (v := nI (i + 1)) (lv' := [(4, .int (nI (i + 1))), (3, .ref q26), (2, .int (bI (surS n m sn wy o p p ht))), (1, .int (nI p)), (0, .ref b0)]) hx hb dX2_turn_100 hl (k := 0) rfl (nI_add _ _) (by decide) rfl (fun ls hl => ?_)
            refine lv_goto (tgt := 32) hx hb dX2_turn_103 (by decide) ?_
            exact ih32 (i + 1) _ (by omega) (by omega) (fun w hw => by rcases Nat.lt_or_ge w i with z | z; (· rw [upN_n _ _ (by omega)]; exact hg1 w z); (· rw [show w = i by omega, upN_s]; exact (by simp [nxS, c_52, c_69]))) _ _ hP hD hS _ (lv_sub hl [0, 1, 2, 3, 4] rfl)
          · refine lv_iload_n hx hb dX2_turn_72 rfl (lv_at hl 2 rfl) ?_
            refine ifB_eq (tgt := 94) hx hb dX2_turn_73 (by decide) (fun c_73 => ?_) (fun c_73 => ?_)
            · refine lv_iconst (v := nI 1) hx hb dX2_turn_94 (by decide) ?_
              refine lv_goto (tgt := 99) hx hb dX2_turn_95 (by decide) ?_
              refine W_i (y := bI true) rfl ?_
              refine za_st hx hb hK hP hD hS 0 1 rfl rfl (j := i) (v := true) (by omega) (by omega) dX2_turn_99 (fun H locs hP hD hS => ?_)
              have hP : va_P (dC, dI) vwCl ([(q26, .inl (cZ, m, .inl (fun k => bI ((upN g i true) k)))), (b0, .inr (2, [.int (nI n), .int (nI tn), .int (nI sl), .int (bI bg), .ref b1, .ref b2, .ref b3, .ref b4])), (b1, .inl (cI, n, .inl (fun k => nI (ht k)))), (b2, eQ cS n rs), (b3, eQ cW m rw), (b4, .inl (cZ, m, .inl (fun k => bI (o k))))] ++ (rB (fun w0 => eZ cZ n (sn w0)) rs n ++ (rB (fun w0 => eI cI n (wy w0)) rw m))) H := hP
              have hD : va_D A ([(q26, .inl (cZ, m, .inl (fun k => bI ((upN g i true) k)))), (b0, .inr (2, [.int (nI n), .int (nI tn), .int (nI sl), .int (bI bg), .ref b1, .ref b2, .ref b3, .ref b4])), (b1, .inl (cI, n, .inl (fun k => nI (ht k)))), (b2, eQ cS n rs), (b3, eQ cW m rw), (b4, .inl (cZ, m, .inl (fun k => bI (o k))))] ++ (rB (fun w0 => eZ cZ n (sn w0)) rs n ++ (rB (fun w0 => eI cI n (wy w0)) rw m))) := hD
              refine lv_iinc (v := nI (i + 1)) (lv' := [(4, .int (nI (i + 1))), (3, .ref q26), (2, .int (bI (surS n m sn wy o p p ht))), (1, .int (nI p)), (0, .ref b0)]) hx hb dX2_turn_100 hl (k := 0) rfl (nI_add _ _) (by decide) rfl (fun ls hl => ?_)
              refine lv_goto (tgt := 32) hx hb dX2_turn_103 (by decide) ?_
              exact ih32 (i + 1) _ (by omega) (by omega) (fun w hw => by rcases Nat.lt_or_ge w i with z | z; (· rw [upN_n _ _ (by omega)]; exact hg1 w z); (· rw [show w = i by omega, upN_s]; exact (by simp [nxS, c_52, c_69, c_73]))) _ _ hP hD hS _ (lv_sub hl [0, 1, 2, 3, 4] rfl)
            · refine lv_aload_n hx hb dX2_turn_76 rfl (lv_at hl 4 rfl) ?_
              refine va_get (D := (dC, dI)) (ci := 2) (v := .ref b3) (C := RX2) (T := TX2) (N := 8) hx hb hts inX2 hown hK hP 1 rfl rfl 6 (by decide) (hts _ q_fl_X2_20) (fun _ h9 => h9) rfl dX2_turn_77 ?_
              refine lv_iload hx hb dX2_turn_80 (lv_at hl 0 rfl) ?_
              refine aa_ld hx hb hK hP 4 3 rfl rfl (j := i) (by omega) (by omega) dX2_turn_82 ?_
              refine lv_iload_n hx hb dX2_turn_83 rfl (lv_at hl 3 rfl) ?_
              refine ia_ld hx hb hK (hP.one (List.mem_append_right _ (List.mem_append_right _ (rB_mem (by omega))))) 0 0 rfl rfl (j := p) (by omega) (by omega) dX2_turn_84 ?_
              refine lv_aload_n hx hb dX2_turn_85 rfl (lv_at hl 4 rfl) ?_
              refine va_get (D := (dC, dI)) (ci := 2) (v := .ref b1) (C := RX2) (T := TX2) (N := 8) hx hb hts inX2 hown hK hP 1 rfl rfl 4 (by decide) (hts _ q_fl_X2_7) (fun _ h9 => h9) rfl dX2_turn_86 ?_
              refine lv_iload_n hx hb dX2_turn_89 rfl (lv_at hl 3 rfl) ?_
              refine ia_ld hx hb hK hP 2 0 rfl rfl (j := p) (by omega) (by omega) dX2_turn_90 ?_
              refine icN_ne (tgt := 98) hx hb dX2_turn_91 (by decide) (by have := hwy i (by omega) p hp; omega) (by have := hht p hp; omega) (fun c_91 => ?_) (fun c_91 => ?_)
              · refine lv_iconst (v := nI 0) hx hb dX2_turn_98 (by decide) ?_
                refine W_i (y := bI false) rfl ?_
                refine za_st hx hb hK hP hD hS 0 1 rfl rfl (j := i) (v := false) (by omega) (by omega) dX2_turn_99 (fun H locs hP hD hS => ?_)
                have hP : va_P (dC, dI) vwCl ([(q26, .inl (cZ, m, .inl (fun k => bI ((upN g i false) k)))), (b0, .inr (2, [.int (nI n), .int (nI tn), .int (nI sl), .int (bI bg), .ref b1, .ref b2, .ref b3, .ref b4])), (b1, .inl (cI, n, .inl (fun k => nI (ht k)))), (b2, eQ cS n rs), (b3, eQ cW m rw), (b4, .inl (cZ, m, .inl (fun k => bI (o k))))] ++ (rB (fun w0 => eZ cZ n (sn w0)) rs n ++ (rB (fun w0 => eI cI n (wy w0)) rw m))) H := hP
                have hD : va_D A ([(q26, .inl (cZ, m, .inl (fun k => bI ((upN g i false) k)))), (b0, .inr (2, [.int (nI n), .int (nI tn), .int (nI sl), .int (bI bg), .ref b1, .ref b2, .ref b3, .ref b4])), (b1, .inl (cI, n, .inl (fun k => nI (ht k)))), (b2, eQ cS n rs), (b3, eQ cW m rw), (b4, .inl (cZ, m, .inl (fun k => bI (o k))))] ++ (rB (fun w0 => eZ cZ n (sn w0)) rs n ++ (rB (fun w0 => eI cI n (wy w0)) rw m))) := hD
                refine lv_iinc (v := nI (i + 1)) (lv' := [(4, .int (nI (i + 1))), (3, .ref q26), (2, .int (bI (surS n m sn wy o p p ht))), (1, .int (nI p)), (0, .ref b0)]) hx hb dX2_turn_100 hl (k := 0) rfl (nI_add _ _) (by decide) rfl (fun ls hl => ?_)
                refine lv_goto (tgt := 32) hx hb dX2_turn_103 (by decide) ?_
                exact ih32 (i + 1) _ (by omega) (by omega) (fun w hw => by rcases Nat.lt_or_ge w i with z | z; (· rw [upN_n _ _ (by omega)]; exact hg1 w z); (· rw [show w = i by omega, upN_s]; exact (by simp [nxS, c_52, c_69, c_73, c_91]))) _ _ hP hD hS _ (lv_sub hl [0, 1, 2, 3, 4] rfl)
              · refine lv_iconst (v := nI 1) hx hb dX2_turn_94 (by decide) ?_
                refine lv_goto (tgt := 99) hx hb dX2_turn_95 (by decide) ?_
                refine W_i (y := bI true) rfl ?_
                refine za_st hx hb hK hP hD hS 0 1 rfl rfl (j := i) (v := true) (by omega) (by omega) dX2_turn_99 (fun H locs hP hD hS => ?_)
                have hP : va_P (dC, dI) vwCl ([(q26, .inl (cZ, m, .inl (fun k => bI ((upN g i true) k)))), (b0, .inr (2, [.int (nI n), .int (nI tn), .int (nI sl), .int (bI bg), .ref b1, .ref b2, .ref b3, .ref b4])), (b1, .inl (cI, n, .inl (fun k => nI (ht k)))), (b2, eQ cS n rs), (b3, eQ cW m rw), (b4, .inl (cZ, m, .inl (fun k => bI (o k))))] ++ (rB (fun w0 => eZ cZ n (sn w0)) rs n ++ (rB (fun w0 => eI cI n (wy w0)) rw m))) H := hP
                have hD : va_D A ([(q26, .inl (cZ, m, .inl (fun k => bI ((upN g i true) k)))), (b0, .inr (2, [.int (nI n), .int (nI tn), .int (nI sl), .int (bI bg), .ref b1, .ref b2, .ref b3, .ref b4])), (b1, .inl (cI, n, .inl (fun k => nI (ht k)))), (b2, eQ cS n rs), (b3, eQ cW m rw), (b4, .inl (cZ, m, .inl (fun k => bI (o k))))] ++ (rB (fun w0 => eZ cZ n (sn w0)) rs n ++ (rB (fun w0 => eI cI n (wy w0)) rw m))) := hD
                refine lv_iinc (v := nI (i + 1)) (lv' := [(4, .int (nI (i + 1))), (3, .ref q26), (2, .int (bI (surS n m sn wy o p p ht))), (1, .int (nI p)), (0, .ref b0)]) hx hb dX2_turn_100 hl (k := 0) rfl (nI_add _ _) (by decide) rfl (fun ls hl => ?_)
                refine lv_goto (tgt := 32) hx hb dX2_turn_103 (by decide) ?_
                exact ih32 (i + 1) _ (by omega) (by omega) (fun w hw => by rcases Nat.lt_or_ge w i with z | z; (· rw [upN_n _ _ (by omega)]; exact hg1 w z); (· rw [show w = i by omega, upN_s]; exact (by simp [nxS, c_52, c_69, c_73, c_91]))) _ _ hP hD hS _ (lv_sub hl [0, 1, 2, 3, 4] rfl)
  exact lp32 (m + 1) 0 (fun _ => false) (by omega) (by omega) (fun w hw => absurd hw (by omega)) _ _ hP hD hS _ (lv_sub hl [0, 1, 2, 3, 4] rfl)

end
