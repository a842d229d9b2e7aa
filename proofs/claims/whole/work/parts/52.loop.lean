theorem and31 (a : Int32) : ∃ q, q < 32 ∧ a &&& nI 31 = nI q := by
  have ha : a = nI a.toBitVec.toNat := by
    apply Int32.toBitVec_inj.mp
    show a.toBitVec = BitVec.ofNat 32 a.toBitVec.toNat
    exact BitVec.eq_of_toNat_eq (by simp)
  refine ⟨a.toBitVec.toNat &&& 31, Nat.lt_of_le_of_lt Nat.and_le_right (by decide), ?_⟩
  have h := nI_and a.toBitVec.toNat 31
  rw [← ha] at h
  exact h
theorem len_ok {L k : Nat} (hL : L ≤ 2048) (hk : k ≤ 600) (h : ¬ Int32.ofNat L - nI 4 < nI (4 * k)) : 4 * k + 4 ≤ L := by
  by_cases h4 : 4 ≤ L
  · have e : Int32.ofNat L - nI 4 = nI (L - 4) := pk_sub h4
    rw [e] at h
    have h2 : ¬ (L - 4 < 4 * k) := fun q => h ((nI_ltI (by omega) (by omega)).mpr q)
    omega
  · exfalso
    apply h
    have hneg : Int32.ofNat L - nI 4 < 0 := by
      rcases (show L = 0 ∨ L = 1 ∨ L = 2 ∨ L = 3 by omega) with rfl | rfl | rfl | rfl <;> decide
    have hpos : ¬ nI (4 * k) < 0 := nI_pos (by omega)
    rw [Int32.lt_iff_toInt_lt] at *
    omega
section
variable {p : Program} {l : Launch} {e : Env} {s : State} {m : MethodId} {args : Array Value} {below : List Frame} {meth : Method} {c : Code} {dC : Nat → ClassId} {dI : Nat → Nat → Nat} {cI cZ cJ : ClassId} {A : Nat → Prop} {Q : State → Prop} {b L : Nat} {xs : Nat → Int32} {ao h0 h1 h2 h3 h4 h5 h6 m0 : Nat}

set_option maxHeartbeats 4000000 in
set_option maxRecDepth 100000 in
theorem lp (X : LX p l s m args c dC dI cI cZ cJ A b L xs) (fin : ∀ (H : Heap) (locs : List Loc) (ls : Array Slot) (cells slots : Nat), va_S A s.heap H locs → cells ≤ 15 + 6 * 513 → slots ≤ 2523 + 33 * 513 → W p l e room_1 s m args below meth c H locs cells slots Q (F0 m 1559 ls [])) : ∀ j k, L ≤ 4 * k + 4 * j + 3 → k ≤ 512 → NX p l e s m args below meth c dC dI cI cZ cJ A Q b ao h0 h1 h2 h3 h4 h5 h6 m0 23 (4 * k) k k := by
  intro j
  induction j with
  | zero => ?_
  | succ j ih => ?_
  all_goals
    intro k hLk hk
    obtain ⟨S, hlt, hK, hZ, hX, hN, hNw, hA, hbA, hXs, hbl, hL⟩ := id X
    obtain ⟨hx, hb, hml, hown, hts⟩ := id S
    intro f n wn t tc sc uw c1 c2 s' ow hf tf m1 m2 m3 m4 m5 m6 th bg tn sl ht sn o nx kp ow2 H locs ls cells slots R htk hl hP hD hS hcc hss
    refine lv_iload hx hb dL_law_23 (lv_at hl 0 rfl) ?_
    refine lv_aload_n hx hb dL_law_25 rfl (lv_at hl 1 rfl) ?_
    refine va_slen hx hb hXs hbl hbA hS dL_law_26 ?_
    refine lv_iconst (v := nI 4) hx hb dL_law_27 (by decide) ?_
    refine lv_isub hx hb dL_law_28 ?_
    refine lv_icmp_gt (tgt := 1559) hx hb dL_law_29 (by decide) (fun _ => fin H locs ls _ _ hS (by omega) (by omega)) (fun hc => ?_)
    have hkL := len_ok hL (by omega) hc
  · omega
  · have nxt : NX p l e s m args below meth c dC dI cI cZ cJ A Q b ao h0 h1 h2 h3 h4 h5 h6 m0 1553 (4 * k) (k + 1) (k + 1) := by
      intro f n wn t tc sc uw c1 c2 s' ow hf tf m1 m2 m3 m4 m5 m6 th bg tn sl ht sn o nx kp ow2 H locs ls cells slots R htk hl hP hD hS hcc hss
      refine lv_iinc (v := nI (4 * (k + 1))) (lv' := [(4, .int (nI (4 * (k + 1)))), (0, .ref b), (1, .ref h0), (2, .ref m0), (3, .ref ao)]) hx hb dL_law_1553 hl (k := 0) rfl (nI_add _ _) (by decide) rfl (fun ls hl => ?_)
      refine lv_goto (tgt := 23) hx hb dL_law_1556 (by decide) ?_
      by_cases hk2 : k + 1 ≤ 512
      · exact ih (k + 1) (by omega) hk2 f n wn t tc sc uw c1 c2 s' ow hf tf m1 m2 m3 m4 m5 m6 th bg tn sl ht sn o nx kp ow2 H locs ls cells slots R htk hl hP hD hS hcc hss
      · exfalso; omega
    refine lv_aload_n hx hb dL_law_32 rfl (lv_at hl 1 rfl) ?_
    refine lv_iload hx hb dL_law_33 (lv_at hl 0 rfl) ?_
    refine va_sld hx hb hXs hbl hbA hS (vp_in_nI (show 4 * k < L by omega) (by omega)) dL_law_35 ?_
    refine lv_bipush (v := nI 31) hx hb dL_law_36 (by decide) ?_
    refine lv_iand hx hb dL_law_38 ?_
    obtain ⟨q, hq, hqe⟩ := and31 (xs (nI (4 * k)).toNatClampNeg)
    rw [hqe]
    have go : ∀ {pc : Nat}, NX p l e s m args below meth c dC dI cI cZ cJ A Q b ao h0 h1 h2 h3 h4 h5 h6 m0 pc (4 * k) k k → W p l e room_1 s m args below meth c H locs cells slots Q (F0 m pc ls []) := fun h => h f n wn t tc sc uw c1 c2 s' ow hf tf m1 m2 m3 m4 m5 m6 th bg tn sl ht sn o nx kp ow2 H locs ls cells slots R htk hl hP hD hS hcc hss
    rcases (show q = 0 ∨ q = 1 ∨ q = 2 ∨ q = 3 ∨ q = 4 ∨ q = 5 ∨ q = 6 ∨ q = 7 ∨ q = 8 ∨ q = 9 ∨ q = 10 ∨ q = 11 ∨ q = 12 ∨ q = 13 ∨ q = 14 ∨ q = 15 ∨ q = 16 ∨ q = 17 ∨ q = 18 ∨ q = 19 ∨ q = 20 ∨ q = 21 ∨ q = 22 ∨ q = 23 ∨ q = 24 ∨ q = 25 ∨ q = 26 ∨ q = 27 ∨ q = 28 ∨ q = 29 ∨ q = 30 ∨ q = 31 by omega) with rfl | rfl | rfl | rfl | rfl | rfl | rfl | rfl | rfl | rfl | rfl | rfl | rfl | rfl | rfl | rfl | rfl | rfl | rfl | rfl | rfl | rfl | rfl | rfl | rfl | rfl | rfl | rfl | rfl | rfl | rfl | rfl
    · exact lv_tableIn (off := 133) (tgt := 172) hx hb dL_law_39 (by decide) (by decide) (by decide) (by decide) (go (cs_0 X hkL nxt))
    · exact lv_tableIn (off := 189) (tgt := 228) hx hb dL_law_39 (by decide) (by decide) (by decide) (by decide) (go (cs_1 X hkL nxt))
    · exact lv_tableIn (off := 264) (tgt := 303) hx hb dL_law_39 (by decide) (by decide) (by decide) (by decide) (go (cs_2 X hkL nxt))
    · exact lv_tableIn (off := 332) (tgt := 371) hx hb dL_law_39 (by decide) (by decide) (by decide) (by decide) (go (cs_3 X hkL nxt))
    · exact lv_tableIn (off := 376) (tgt := 415) hx hb dL_law_39 (by decide) (by decide) (by decide) (by decide) (go (cs_4 X hkL nxt))
    · exact lv_tableIn (off := 444) (tgt := 483) hx hb dL_law_39 (by decide) (by decide) (by decide) (by decide) (go (cs_5 X hkL nxt))
    · exact lv_tableIn (off := 512) (tgt := 551) hx hb dL_law_39 (by decide) (by decide) (by decide) (by decide) (go (cs_6 X hkL nxt))
    · exact lv_tableIn (off := 525) (tgt := 564) hx hb dL_law_39 (by decide) (by decide) (by decide) (by decide) (go (cs_7 X hkL nxt))
    · exact lv_tableIn (off := 538) (tgt := 577) hx hb dL_law_39 (by decide) (by decide) (by decide) (by decide) (go (cs_8 X hkL nxt))
    · exact lv_tableIn (off := 551) (tgt := 590) hx hb dL_law_39 (by decide) (by decide) (by decide) (by decide) (go (cs_9 X hkL nxt))
    · exact lv_tableIn (off := 564) (tgt := 603) hx hb dL_law_39 (by decide) (by decide) (by decide) (by decide) (go (cs_10 X hkL nxt))
    · exact lv_tableIn (off := 577) (tgt := 616) hx hb dL_law_39 (by decide) (by decide) (by decide) (by decide) (go (cs_11 X hkL nxt))
    · exact lv_tableIn (off := 633) (tgt := 672) hx hb dL_law_39 (by decide) (by decide) (by decide) (by decide) (go (cs_12 X hkL nxt))
    · exact lv_tableIn (off := 708) (tgt := 747) hx hb dL_law_39 (by decide) (by decide) (by decide) (by decide) (go (cs_13 X hkL nxt))
    · exact lv_tableIn (off := 764) (tgt := 803) hx hb dL_law_39 (by decide) (by decide) (by decide) (by decide) (go (cs_14 X hkL nxt))
    · exact lv_tableIn (off := 777) (tgt := 816) hx hb dL_law_39 (by decide) (by decide) (by decide) (by decide) (go (cs_15 X hkL nxt))
    · exact lv_tableIn (off := 845) (tgt := 884) hx hb dL_law_39 (by decide) (by decide) (by decide) (by decide) (go (cs_16 X hkL nxt))
    · exact lv_tableIn (off := 908) (tgt := 947) hx hb dL_law_39 (by decide) (by decide) (by decide) (by decide) (go (cs_17 X hkL nxt))
    · exact lv_tableIn (off := 964) (tgt := 1003) hx hb dL_law_39 (by decide) (by decide) (by decide) (by decide) (go (cs_18 X hkL nxt))
    · exact lv_tableIn (off := 1051) (tgt := 1090) hx hb dL_law_39 (by decide) (by decide) (by decide) (by decide) (go (cs_19 X hkL nxt))
    · exact lv_tableIn (off := 1114) (tgt := 1153) hx hb dL_law_39 (by decide) (by decide) (by decide) (by decide) (go (cs_20 X hkL nxt))
    · exact lv_tableIn (off := 1189) (tgt := 1228) hx hb dL_law_39 (by decide) (by decide) (by decide) (by decide) (go (cs_21 X hkL nxt))
    · exact lv_tableIn (off := 1264) (tgt := 1303) hx hb dL_law_39 (by decide) (by decide) (by decide) (by decide) (go (cs_22 X hkL nxt))
    · exact lv_tableIn (off := 1277) (tgt := 1316) hx hb dL_law_39 (by decide) (by decide) (by decide) (by decide) (go (cs_23 X hkL nxt))
    · exact lv_tableIn (off := 1321) (tgt := 1360) hx hb dL_law_39 (by decide) (by decide) (by decide) (by decide) (go (cs_24 X hkL nxt))
    · exact lv_tableIn (off := 1377) (tgt := 1416) hx hb dL_law_39 (by decide) (by decide) (by decide) (by decide) (go (cs_25 X hkL nxt))
    · exact lv_tableIn (off := 1390) (tgt := 1429) hx hb dL_law_39 (by decide) (by decide) (by decide) (by decide) (go (cs_26 X hkL nxt))
    · exact lv_tableIn (off := 1403) (tgt := 1442) hx hb dL_law_39 (by decide) (by decide) (by decide) (by decide) (go (cs_27 X hkL nxt))
    · exact lv_tableIn (off := 1459) (tgt := 1498) hx hb dL_law_39 (by decide) (by decide) (by decide) (by decide) (go (cs_28 X hkL nxt))
    · exact lv_tableIn (off := 1500) (tgt := 1539) hx hb dL_law_39 (by decide) (by decide) (by decide) (by decide) (go (cs_29 X hkL nxt))
    · exact lv_tableOut (tgt := 1553) hx hb dL_law_39 (by decide) (by decide) (nxt f n wn t tc sc uw c1 c2 s' ow hf tf m1 m2 m3 m4 m5 m6 th bg tn sl ht sn o nx kp ow2 H locs ls cells slots R (by omega) hl hP hD hS (by omega) (by omega))
    · exact lv_tableOut (tgt := 1553) hx hb dL_law_39 (by decide) (by decide) (nxt f n wn t tc sc uw c1 c2 s' ow hf tf m1 m2 m3 m4 m5 m6 th bg tn sl ht sn o nx kp ow2 H locs ls cells slots R (by omega) hl hP hD hS (by omega) (by omega))
end
