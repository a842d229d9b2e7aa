section
variable {l : Launch} {dC : Nat → ClassId} {dI : Nat → Nat → Nat} {cI cZ cJ : ClassId}

set_option maxHeartbeats 4000000 in
set_option maxRecDepth 100000 in
theorem m_X2_best (m0 m1 m2 m3 m4 m5 m6 th n : Nat) (bg : Bool) (tn sl : Nat) (ht sn : Nat → Nat) (o nx kp : Nat → Bool) (ow : Nat → Nat) (hn : n ≤ 5) (hsn : ∀ p, p < 5 → sn p < 32) (hht : ∀ p, p < 5 → ht p < 3) : Mp l yX2_best ws_X2_best 2 45 (dC, dI) (tyL cI cZ cJ) [.ref m0] (mW cI cZ m0 m1 m2 m3 m4 m5 m6 th n bg tn sl ht sn o nx kp ow) (fun r => r = oI (bstM ht o n 3).1) := by
  refine Mi_of (by decide +kernel) (Nat.le_of_ble_eq_true rfl) ?_
  intro pr ev sx mi ag bl me cd Q ls S hP hK hD hZ hl ret
  obtain ⟨hx, hb, hml, hown, hts⟩ := id S
  have hown : sx.vm.findClass RX2 = some mi.cls := hown
  have hS : va_S (wIn (mW cI cZ m0 m1 m2 m3 m4 m5 m6 th n bg tn sl ht sn o nx kp ow)) sx.heap sx.heap [] := va_S.rf
  have hl : lv_has ls 6 [(0, .ref m0)] := hl
  have h3 := p3_243 n hn; have h30 := p3_0 n
  have hre : realN ht n < 3 ^ n := realN_lt n (fun p hp => hht p (by omega))
  refine lv_iconst (v := (-1)) hx hb dX2_best_0 (by decide) ?_
  refine lv_istore_n (lv' := [(1, .int (-1)), (0, .ref m0)]) hx hb dX2_best_1 rfl hl (by decide) rfl (fun ls hl => ?_)
  refine lv_sipush (v := nI 244) hx hb dX2_best_2 (by decide) ?_
  refine lv_istore_n (lv' := [(2, .int (nI 244)), (1, .int (-1)), (0, .ref m0)]) hx hb dX2_best_5 rfl hl (by decide) rfl (fun ls hl => ?_)
  refine lv_iconst (v := nI 0) hx hb dX2_best_6 (by decide) ?_
  refine lv_istore_n (lv' := [(3, .int (nI 0)), (2, .int (nI 244)), (1, .int (-1)), (0, .ref m0)]) hx hb dX2_best_7 rfl hl (by decide) rfl (fun ls hl => ?_)
  have lp8 : ∀ (kf : Nat) (i : Nat) (b : Option Nat) (f : Nat), 3 < i + kf → (i ≤ 3) → (f ≤ 244) → (bstM ht o n i = (b, f)) → ∀ (H : Heap) (locs : List Loc), va_P (dC, dI) vwCl (mW cI cZ m0 m1 m2 m3 m4 m5 m6 th n bg tn sl ht sn o nx kp ow) H → va_D (wIn (mW cI cZ m0 m1 m2 m3 m4 m5 m6 th n bg tn sl ht sn o nx kp ow)) (mW cI cZ m0 m1 m2 m3 m4 m5 m6 th n bg tn sl ht sn o nx kp ow) → va_S (wIn (mW cI cZ m0 m1 m2 m3 m4 m5 m6 th n bg tn sl ht sn o nx kp ow)) sx.heap H locs → ∀ ls : Array Slot, lv_has ls 6 [(3, .int (nI i)), (2, .int (nI f)), (1, .int (oI b)), (0, .ref m0)] → W pr l ev (rmB 2 45) sx mi ag bl me cd H locs 0 0 Q (F0 mi 8 ls []) := by
    intro kf
    induction kf with
    | zero => intro i b f hkf hi hf2 hbf; exact absurd hkf (by omega)
    | succ kf ih8 =>
      intro i b f hkf hi hf2 hbf H locs hP hD hS ls hl
      refine lv_iload_n hx hb dX2_best_8 rfl (lv_at hl 0 rfl) ?_
      refine lv_iconst (v := nI 3) hx hb dX2_best_9 (by decide) ?_
      refine icN_ge (tgt := 99) hx hb dX2_best_10 (by decide) (by omega) (by omega) (fun c_10 => ?_) (fun c_10 => ?_)
      · refine lv_iload_n hx hb dX2_best_99 rfl (lv_at hl 2 rfl) ?_
        exact ret _ (mW cI cZ m0 m1 m2 m3 m4 m5 m6 th n bg tn sl ht sn o nx kp ow) _ _ _ _ dX2_best_100 rfl ⟨rfl, by rw [show 3 = i by omega, hbf]⟩ (List.Perm.refl _) hP hS
      · refine lv_aload_n hx hb dX2_best_13 rfl (lv_at hl 3 rfl) ?_
        refine lv_aload_n hx hb dX2_best_14 rfl (lv_at hl 3 rfl) ?_
        refine call_Vp (As := []) (rest := [.ref m0]) S (m_X2_real m0 m1 m2 m3 m4 m5 m6 th n bg tn sl ht sn o nx kp ow  hn) g_X2_X2_real hd_X2_real ⟨Nat.le_of_ble_eq_true rfl, Nat.le_of_ble_eq_true rfl⟩ ⟨Nat.zero_le _, Nat.zero_le _⟩ hP hD hK hS hZ [0, 1, 2, 3, 4, 5, 6] rfl (by decide) 0 rfl rfl hl.1 rfl (Nat.le_of_ble_eq_true rfl) dX2_best_15 (fun r H locs hq hP hS => ?_)
        obtain rfl := hq
        refine lv_iload_n hx hb dX2_best_18 rfl (lv_at hl 0 rfl) ?_
        refine call_Vp (As := [.int (nI (realN ht n)), .int (nI i)]) (rest := []) S (m_X2_have m0 m1 m2 m3 m4 m5 m6 th n bg tn sl ht sn o nx kp ow (realN ht n) i hn (by omega) (by omega)) g_X2_X2_have hd_X2_have ⟨Nat.le_of_ble_eq_true rfl, Nat.le_of_ble_eq_true rfl⟩ ⟨Nat.zero_le _, Nat.zero_le _⟩ hP hD hK hS hZ [0, 1, 2, 3, 4, 5, 6] rfl (by decide) 0 rfl rfl hl.1 rfl (Nat.le_of_ble_eq_true rfl) dX2_best_19 (fun r H locs hq hP hS => ?_)
        obtain rfl := hq
        refine ifN_ne (tgt := 28) hx hb dX2_best_22 (by decide) (by have := haveN_le n (realN ht n) i; omega) (fun c_22 => ?_) (fun c_22 => ?_)
        · refine lv_iconst (v := nI 0) hx hb dX2_best_28 (by decide) ?_
          refine lv_istore (lv' := [(4, .int (nI 0)), (3, .int (nI i)), (2, .int (nI f)), (1, .int (oI b)), (0, .ref m0)]) hx hb dX2_best_29 hl (by decide) rfl (fun ls hl => ?_)
          refine lv_iconst (v := nI 0) hx hb dX2_best_31 (by decide) ?_
          refine lv_istore (lv' := [(5, .int (nI 0)), (4, .int (nI 0)), (3, .int (nI i)), (2, .int (nI f)), (1, .int (oI b)), (0, .ref m0)]) hx hb dX2_best_32 hl (by decide) rfl (fun ls hl => ?_)
          have lp34 : ∀ (kf : Nat) (i2 : Nat) (a : Nat), (3 ^ n) < i2 + kf → (i2 ≤ 3 ^ n) → (a = cntP (fun w => o w && !(haveN n w i == 0)) i2) → ∀ (H : Heap) (locs : List Loc), va_P (dC, dI) vwCl (mW cI cZ m0 m1 m2 m3 m4 m5 m6 th n bg tn sl ht sn o nx kp ow) H → va_D (wIn (mW cI cZ m0 m1 m2 m3 m4 m5 m6 th n bg tn sl ht sn o nx kp ow)) (mW cI cZ m0 m1 m2 m3 m4 m5 m6 th n bg tn sl ht sn o nx kp ow) → va_S (wIn (mW cI cZ m0 m1 m2 m3 m4 m5 m6 th n bg tn sl ht sn o nx kp ow)) sx.heap H locs → ∀ ls : Array Slot, lv_has ls 6 [(5, .int (nI i2)), (4, .int (nI a)), (3, .int (nI i)), (2, .int (nI f)), (1, .int (oI b)), (0, .ref m0)] → W pr l ev (rmB 2 45) sx mi ag bl me cd H locs 0 0 Q (F0 mi 34 ls []) := by
            intro kf
            induction kf with
            | zero => intro i2 a hkf hi2 ha; exact absurd hkf (by omega)
            | succ kf ih34 =>
              intro i2 a hkf hi2 ha H locs hP hD hS ls hl
              refine lv_iload hx hb dX2_best_34 (lv_at hl 0 rfl) ?_
              refine lv_aload_n hx hb dX2_best_36 rfl (lv_at hl 5 rfl) ?_
              refine call_Vp (As := []) (rest := [.int (nI i2)]) S (m_X2_ways m0 m1 m2 m3 m4 m5 m6 th n bg tn sl ht sn o nx kp ow  hn) g_X2_X2_ways hd_X2_ways ⟨Nat.le_of_ble_eq_true rfl, Nat.le_of_ble_eq_true rfl⟩ ⟨Nat.zero_le _, Nat.zero_le _⟩ hP hD hK hS hZ [0, 1, 2, 3, 4, 5, 6] rfl (by decide) 0 rfl rfl hl.1 rfl (Nat.le_of_ble_eq_true rfl) dX2_best_37 (fun r H locs hq hP hS => ?_)
              obtain rfl := hq
              refine icN_ge (tgt := 79) hx hb dX2_best_40 (by decide) (by omega) (by omega) (fun c_40 => ?_) (fun c_40 => ?_)
              · refine lv_iload hx hb dX2_best_79 (lv_at hl 1 rfl) ?_
                refine lv_iload_n hx hb dX2_best_81 rfl (lv_at hl 3 rfl) ?_
                refine icN_lt (tgt := 88) hx hb dX2_best_82 (by decide) (by have := cntP_le (fun w => o w && !(haveN n w i == 0)) (3 ^ n); rw [show i2 = 3 ^ n by omega] at ha; omega) (by omega) (fun c_82 => ?_) (fun c_82 => ?_)
                · refine lv_iload_n hx hb dX2_best_88 rfl (lv_at hl 2 rfl) ?_
                  refine lv_istore_n (lv' := [(1, .int (nI i)), (5, .int (nI i2)), (4, .int (nI a)), (3, .int (nI i)), (2, .int (nI f)), (0, .ref m0)]) hx hb dX2_best_89 rfl hl (by decide) rfl (fun ls hl => ?_)
                  refine lv_iload hx hb dX2_best_90 (lv_at hl 2 rfl) ?_
                  refine lv_istore_n (lv' := [(2, .int (nI a)), (1, .int (nI i)), (5, .int (nI i2)), (4, .int (nI a)), (3, .int (nI i)), (0, .ref m0)]) hx hb dX2_best_92 rfl hl (by decide) rfl (fun ls hl => ?_)
                  refine lv_iinc (v := nI (i + 1)) (lv' := [(3, .int (nI (i + 1))), (2, .int (nI a)), (1, .int (nI i)), (5, .int (nI i2)), (4, .int (nI a)), (0, .ref m0)]) hx hb dX2_best_93 hl (k := 4) rfl (nI_add _ _) (by decide) rfl (fun ls hl => ?_)
                  refine lv_goto (tgt := 8) hx hb dX2_best_96 (by decide) ?_
                  exact ih8 (i + 1) (some i) _ (by omega) (by omega) (by have := cntP_le (fun w => o w && !(haveN n w i == 0)) (3 ^ n); rw [show i2 = 3 ^ n by omega] at ha; omega) (by rw [show i2 = 3 ^ n by omega] at ha; rw [bstM, hbf, if_pos ⟨c_22, by simp only [namM]; omega⟩, namM, ← ha]) _ _ hP hD hS _ (lv_sub hl [0, 1, 2, 5] rfl)
                · refine lv_goto (tgt := 93) hx hb dX2_best_85 (by decide) ?_
                  refine lv_iinc (v := nI (i + 1)) (lv' := [(3, .int (nI (i + 1))), (5, .int (nI i2)), (4, .int (nI a)), (2, .int (nI f)), (1, .int (oI b)), (0, .ref m0)]) hx hb dX2_best_93 hl (k := 2) rfl (nI_add _ _) (by decide) rfl (fun ls hl => ?_)
                  refine lv_goto (tgt := 8) hx hb dX2_best_96 (by decide) ?_
                  exact ih8 (i + 1) b f (by omega) (by omega) hf2 (by rw [bstM, hbf]; exact if_neg (fun q => by have := q.2; rw [show i2 = 3 ^ n by omega] at ha; simp only [namM] at this; omega)) _ _ hP hD hS _ (lv_sub hl [0, 3, 4, 5] rfl)
              · refine lv_iload hx hb dX2_best_43 (lv_at hl 1 rfl) ?_
                refine lv_aload_n hx hb dX2_best_45 rfl (lv_at hl 5 rfl) ?_
                refine va_get (D := (dC, dI)) (ci := 2) (v := .ref m3) (C := RX2) (T := TX2) (N := 11) hx hb hts inX2 hown hK hP 0 rfl rfl 5 (by decide) (hts _ q_fl_X2_16) (fun _ h9 => h9) rfl dX2_best_46 ?_
                refine lv_iload hx hb dX2_best_49 (lv_at hl 0 rfl) ?_
                refine za_ld hx hb hK hP 3 1 rfl rfl (j := i2) (by omega) (by decide) dX2_best_51 ?_
                refine ifB_eq (tgt := 69) hx hb dX2_best_52 (by decide) (fun c_52 => ?_) (fun c_52 => ?_)
                · refine lv_iconst (v := nI 0) hx hb dX2_best_69 (by decide) ?_
                  refine lv_iadd hx hb dX2_best_70 ?_
                  refine W_i (y := nI (a + 0)) (nI_add _ _) ?_
                  refine lv_istore (lv' := [(4, .int (nI (a + 0))), (5, .int (nI i2)), (3, .int (nI i)), (2, .int (nI f)), (1, .int (oI b)), (0, .ref m0)]) hx hb dX2_best_71 hl (by decide) rfl (fun ls hl => ?_)
                  refine lv_iinc (v := nI (i2 + 1)) (lv' := [(5, .int (nI (i2 + 1))), (4, .int (nI (a + 0))), (3, .int (nI i)), (2, .int (nI f)), (1, .int (oI b)), (0, .ref m0)]) hx hb dX2_best_73 hl (k := 1) rfl (nI_add _ _) (by decide) rfl (fun ls hl => ?_)
                  refine lv_goto (tgt := 34) hx hb dX2_best_76 (by decide) ?_
                  exact ih34 (i2 + 1) _ (by omega) (by omega) (cntP_f (by simp [c_52]) ha) _ _ hP hD hS _ (lv_sub hl [0, 1, 2, 3, 4, 5] rfl)
                · refine lv_aload_n hx hb dX2_best_55 rfl (lv_at hl 5 rfl) ?_
                  refine lv_iload hx hb dX2_best_56 (lv_at hl 0 rfl) ?_
                  refine lv_iload_n hx hb dX2_best_58 rfl (lv_at hl 2 rfl) ?_
                  refine call_Vp (As := [.int (nI i2), .int (nI i)]) (rest := [.int (nI a)]) S (m_X2_have m0 m1 m2 m3 m4 m5 m6 th n bg tn sl ht sn o nx kp ow i2 i hn (by omega) (by omega)) g_X2_X2_have hd_X2_have ⟨Nat.le_of_ble_eq_true rfl, Nat.le_of_ble_eq_true rfl⟩ ⟨Nat.zero_le _, Nat.zero_le _⟩ hP hD hK hS hZ [0, 1, 2, 3, 4, 5, 6] rfl (by decide) 0 rfl rfl hl.1 rfl (Nat.le_of_ble_eq_true rfl) dX2_best_59 (fun r H locs hq hP hS => ?_)
                  obtain rfl := hq
                  refine ifN_le (tgt := 69) hx hb dX2_best_62 (by decide) (by have := haveN_le n i2 i; omega) (fun c_62 => ?_) (fun c_62 => ?_)
                  · refine lv_iconst (v := nI 0) hx hb dX2_best_69 (by decide) ?_
                    refine lv_iadd hx hb dX2_best_70 ?_
                    refine W_i (y := nI (a + 0)) (nI_add _ _) ?_
                    refine lv_istore (lv' := [(4, .int (nI (a + 0))), (5, .int (nI i2)), (3, .int (nI i)), (2, .int (nI f)), (1, .int (oI b)), (0, .ref m0)]) hx hb dX2_best_71 hl (by decide) rfl (fun ls hl => ?_)
                    refine lv_iinc (v := nI (i2 + 1)) (lv' := [(5, .int (nI (i2 + 1))), (4, .int (nI (a + 0))), (3, .int (nI i)), (2, .int (nI f)), (1, .int (oI b)), (0, .ref m0)]) hx hb dX2_best_73 hl (k := 1) rfl (nI_add _ _) (by decide) rfl (fun ls hl => ?_)
                    refine lv_goto (tgt := 34) hx hb dX2_best_76 (by decide) ?_
                    exact ih34 (i2 + 1) _ (by omega) (by omega) (cntP_f (by simp [c_62]) ha) _ _ hP hD hS _ (lv_sub hl [0, 1, 2, 3, 4, 5] rfl)
                  · refine lv_iconst (v := nI 1) hx hb dX2_best_65 (by decide) ?_
                    refine lv_goto (tgt := 70) hx hb dX2_best_66 (by decide) ?_
                    refine lv_iadd hx hb dX2_best_70 ?_
                    refine W_i (y := nI (a + 1)) (nI_add _ _) ?_
                    refine lv_istore (lv' := [(4, .int (nI (a + 1))), (5, .int (nI i2)), (3, .int (nI i)), (2, .int (nI f)), (1, .int (oI b)), (0, .ref m0)]) hx hb dX2_best_71 hl (by decide) rfl (fun ls hl => ?_)
                    refine lv_iinc (v := nI (i2 + 1)) (lv' := [(5, .int (nI (i2 + 1))), (4, .int (nI (a + 1))), (3, .int (nI i)), (2, .int (nI f)), (1, .int (oI b)), (0, .ref m0)]) hx hb dX2_best_73 hl (k := 1) rfl (nI_add _ _) (by decide) rfl (fun ls hl => ?_)
                    refine lv_goto (tgt := 34) hx hb dX2_best_76 (by decide) ?_
                    exact ih34 (i2 + 1) _ (by omega) (by omega) (cntP_t (by simp [c_52]; omega) ha) _ _ hP hD hS _ (lv_sub hl [0, 1, 2, 3, 4, 5] rfl)
          exact lp34 (3 ^ n + 1) 0 0 (by omega) (by omega) rfl _ _ hP hD hS _ (lv_sub hl [0, 1, 2, 3, 4, 5] rfl)
        · refine lv_goto (tgt := 93) hx hb dX2_best_25 (by decide) ?_
          refine lv_iinc (v := nI (i + 1)) (lv' := [(3, .int (nI (i + 1))), (2, .int (nI f)), (1, .int (oI b)), (0, .ref m0)]) hx hb dX2_best_93 hl (k := 0) rfl (nI_add _ _) (by decide) rfl (fun ls hl => ?_)
          refine lv_goto (tgt := 8) hx hb dX2_best_96 (by decide) ?_
          exact ih8 (i + 1) b f (by omega) (by omega) hf2 (by rw [bstM, hbf]; exact if_neg (fun q => q.1 c_22)) _ _ hP hD hS _ (lv_sub hl [0, 1, 2, 3] rfl)
  exact lp8 4 0 none 244 (by omega) (by omega) (by omega) rfl _ _ hP hD hS _ (lv_sub hl [0, 1, 2, 3] rfl)

set_option maxHeartbeats 4000000 in
set_option maxRecDepth 100000 in
theorem m_X2_ifTold (m0 m1 m2 m3 m4 m5 m6 th n : Nat) (bg : Bool) (tn sl : Nat) (ht sn : Nat → Nat) (o nx kp : Nat → Bool) (ow : Nat → Nat) (p : Nat) (hn : n ≤ 5) (hsn : ∀ p, p < 5 → sn p < 32) (hht : ∀ p, p < 5 → ht p < 3) (hp : p < 5) : Mi l yX2_ifTold ws_X2_ifTold 5 116 (dC, dI) (tyL cI cZ cJ) [.ref m0, .int (nI p)] (mW cI cZ m0 m1 m2 m3 m4 m5 m6 th n bg tn sl ht sn o nx kp ow) (fun r u => r = nI (manyM sn ht (mix (toldF ht o p) o (3 ^ n)) n n) ∧ u = mW cI cZ m0 m1 m2 m3 m4 m5 m6 th n bg tn sl ht sn o nx o ow) := by
  refine Mi_of (by decide +kernel) (Nat.le_of_ble_eq_true rfl) ?_
  intro pr ev sx mi ag bl me cd Q ls S hP hK hD hZ hl ret
  obtain ⟨hx, hb, hml, hown, hts⟩ := id S
  have hown : sx.vm.findClass RX2 = some mi.cls := hown
  have hS : va_S (wIn (mW cI cZ m0 m1 m2 m3 m4 m5 m6 th n bg tn sl ht sn o nx kp ow)) sx.heap sx.heap [] := va_S.rf
  have hl : lv_has ls 3 [(0, .ref m0), (1, .int (nI p))] := hl
  have h3 := p3_243 n hn; have h30 := p3_0 n
  have hre : realN ht n < 3 ^ n := realN_lt n (fun p hp => hht p (by omega))
  refine lv_aload_n hx hb dX2_ifTold_0 rfl (lv_at hl 0 rfl) ?_
  refine call_Vv (As := []) (wr := []) (rest := []) S (m_X2_keep m0 m1 m2 m3 m4 m5 m6 th n bg tn sl ht sn o nx kp ow  ) g_X2_X2_keep hd_X2_keep ⟨Nat.le_of_ble_eq_true rfl, Nat.le_of_ble_eq_true rfl⟩ ⟨Nat.zero_le _, Nat.zero_le _⟩ hP hD hK hS hZ [0, 1, 2, 3, 4, 5, 6] [] rfl rfl (by decide) 0 rfl rfl hl.1 rfl (Nat.le_of_ble_eq_true rfl) dX2_ifTold_1 (fun u H locs hq hP hD hS => ?_)
  obtain rfl := hq
  have hP : va_P (dC, dI) vwCl (mW cI cZ m0 m1 m2 m3 m4 m5 m6 th n bg tn sl ht sn o nx o ow) H := hP
  have hD : va_D (wIn (mW cI cZ m0 m1 m2 m3 m4 m5 m6 th n bg tn sl ht sn o nx kp ow)) (mW cI cZ m0 m1 m2 m3 m4 m5 m6 th n bg tn sl ht sn o nx o ow) := hD
  refine lv_iconst (v := nI 0) hx hb dX2_ifTold_4 (by decide) ?_
  refine lv_istore_n (lv' := [(2, .int (nI 0)), (0, .ref m0), (1, .int (nI p))]) hx hb dX2_ifTold_5 rfl hl (by decide) rfl (fun ls hl => ?_)
  have lp6 : ∀ (kf : Nat) (i : Nat), (3 ^ n) < i + kf → (i ≤ 3 ^ n) → ∀ (H : Heap) (locs : List Loc), va_P (dC, dI) vwCl (mW cI cZ m0 m1 m2 m3 m4 m5 m6 th n bg tn sl ht sn (mix (toldF ht o p) o i) nx o ow) H → va_D (wIn (mW cI cZ m0 m1 m2 m3 m4 m5 m6 th n bg tn sl ht sn o nx kp ow)) (mW cI cZ m0 m1 m2 m3 m4 m5 m6 th n bg tn sl ht sn (mix (toldF ht o p) o i) nx o ow) → va_S (wIn (mW cI cZ m0 m1 m2 m3 m4 m5 m6 th n bg tn sl ht sn o nx kp ow)) sx.heap H locs → ∀ ls : Array Slot, lv_has ls 3 [(2, .int (nI i)), (0, .ref m0), (1, .int (nI p))] → W pr l ev (rmB 5 116) sx mi ag bl me cd H locs 0 0 Q (F0 mi 6 ls []) := by
    intro kf
    induction kf with
    | zero => intro i hkf hi; exact absurd hkf (by omega)
    | succ kf ih6 =>
      intro i hkf hi H locs hP hD hS ls hl
      refine lv_iload_n hx hb dX2_ifTold_6 rfl (lv_at hl 0 rfl) ?_
      refine lv_aload_n hx hb dX2_ifTold_7 rfl (lv_at hl 1 rfl) ?_
      refine call_Vp (As := []) (rest := [.int (nI i)]) S (m_X2_ways m0 m1 m2 m3 m4 m5 m6 th n bg tn sl ht sn (mix (toldF ht o p) o i) nx o ow  hn) g_X2_X2_ways hd_X2_ways ⟨Nat.le_of_ble_eq_true rfl, Nat.le_of_ble_eq_true rfl⟩ ⟨Nat.zero_le _, Nat.zero_le _⟩ hP hD hK hS hZ [0, 1, 2, 3, 4, 5, 6] rfl (by decide) 0 rfl rfl hl.1 rfl (Nat.le_of_ble_eq_true rfl) dX2_ifTold_8 (fun r H locs hq hP hS => ?_)
      obtain rfl := hq
      refine icN_ge (tgt := 54) hx hb dX2_ifTold_11 (by decide) (by omega) (by omega) (fun c_11 => ?_) (fun c_11 => ?_)
      · rw [show i = 3 ^ n by omega] at hP hD
        have hP : va_P (dC, dI) vwCl (mW cI cZ m0 m1 m2 m3 m4 m5 m6 th n bg tn sl ht sn (mix (toldF ht o p) o (3 ^ n)) nx o ow) H := hP
        have hD : va_D (wIn (mW cI cZ m0 m1 m2 m3 m4 m5 m6 th n bg tn sl ht sn o nx kp ow)) (mW cI cZ m0 m1 m2 m3 m4 m5 m6 th n bg tn sl ht sn (mix (toldF ht o p) o (3 ^ n)) nx o ow) := hD
        refine lv_aload_n hx hb dX2_ifTold_54 rfl (lv_at hl 1 rfl) ?_
        refine call_Vp (As := []) (rest := []) S (m_X2_many m0 m1 m2 m3 m4 m5 m6 th n bg tn sl ht sn (mix (toldF ht o p) o (3 ^ n)) nx o ow  hn hsn hht) g_X2_X2_many hd_X2_many ⟨Nat.le_of_ble_eq_true rfl, Nat.le_of_ble_eq_true rfl⟩ ⟨Nat.zero_le _, Nat.zero_le _⟩ hP hD hK hS hZ [0, 1, 2, 3, 4, 5, 6] rfl (by decide) 0 rfl rfl hl.1 rfl (Nat.le_of_ble_eq_true rfl) dX2_ifTold_55 (fun r H locs hq hP hS => ?_)
        obtain rfl := hq
        refine lv_istore_n (lv' := [(2, .int (nI (manyM sn ht (mix (toldF ht o p) o (3 ^ n)) n n))), (0, .ref m0), (1, .int (nI p))]) hx hb dX2_ifTold_58 rfl hl (by decide) rfl (fun ls hl => ?_)
        refine lv_aload_n hx hb dX2_ifTold_59 rfl (lv_at hl 1 rfl) ?_
        refine call_Vv (As := []) (wr := []) (rest := []) S (m_X2_bringBack m0 m1 m2 m3 m4 m5 m6 th n bg tn sl ht sn (mix (toldF ht o p) o (3 ^ n)) nx o ow  ) g_X2_X2_bringBack hd_X2_bringBack ⟨Nat.le_of_ble_eq_true rfl, Nat.le_of_ble_eq_true rfl⟩ ⟨Nat.zero_le _, Nat.zero_le _⟩ hP hD hK hS hZ [0, 1, 2, 3, 4, 5, 6] [] rfl rfl (by decide) 0 rfl rfl hl.1 rfl (Nat.le_of_ble_eq_true rfl) dX2_ifTold_60 (fun u H locs hq hP hD hS => ?_)
        obtain rfl := hq
        have hP : va_P (dC, dI) vwCl (mW cI cZ m0 m1 m2 m3 m4 m5 m6 th n bg tn sl ht sn o nx o ow) H := hP
        have hD : va_D (wIn (mW cI cZ m0 m1 m2 m3 m4 m5 m6 th n bg tn sl ht sn o nx kp ow)) (mW cI cZ m0 m1 m2 m3 m4 m5 m6 th n bg tn sl ht sn o nx o ow) := hD
        refine lv_iload_n hx hb dX2_ifTold_63 rfl (lv_at hl 0 rfl) ?_
        exact ret _ (mW cI cZ m0 m1 m2 m3 m4 m5 m6 th n bg tn sl ht sn o nx o ow) _ _ _ _ dX2_ifTold_64 rfl ⟨rfl, rfl⟩ (List.Perm.refl _) hP hS
      · refine lv_aload_n hx hb dX2_ifTold_14 rfl (lv_at hl 1 rfl) ?_
        refine va_get (D := (dC, dI)) (ci := 2) (v := .ref m3) (C := RX2) (T := TX2) (N := 11) hx hb hts inX2 hown hK hP 0 rfl rfl 5 (by decide) (hts _ q_fl_X2_16) (fun _ h9 => h9) rfl dX2_ifTold_15 ?_
        refine lv_iload_n hx hb dX2_ifTold_18 rfl (lv_at hl 0 rfl) ?_
        refine lv_aload_n hx hb dX2_ifTold_19 rfl (lv_at hl 1 rfl) ?_
        refine va_get (D := (dC, dI)) (ci := 2) (v := .ref m3) (C := RX2) (T := TX2) (N := 11) hx hb hts inX2 hown hK hP 0 rfl rfl 5 (by decide) (hts _ q_fl_X2_16) (fun _ h9 => h9) rfl dX2_ifTold_20 ?_
        refine lv_iload_n hx hb dX2_ifTold_23 rfl (lv_at hl 0 rfl) ?_
        refine za_ld hx hb hK hP 3 1 rfl rfl (j := i) (by omega) (by decide) dX2_ifTold_24 ?_
        refine W_i (y := bI (o i)) (by rw [mix_ge (Nat.le_refl _)]) ?_
        refine ifB_eq (tgt := 46) hx hb dX2_ifTold_25 (by decide) (fun c_25 => ?_) (fun c_25 => ?_)
        · refine lv_iconst (v := nI 0) hx hb dX2_ifTold_46 (by decide) ?_
          refine W_i (y := bI false) rfl ?_
          refine za_st hx hb hK hP hD hS 3 1 rfl rfl (j := i) (v := false) (by omega) (by decide) dX2_ifTold_47 (fun H locs hP hD hS => ?_)
          rw [show (upN (mix (toldF ht o p) o i) i false) = (mix (toldF ht o p) o (i + 1)) from mix_s (by simp [toldF, c_25])] at hP hD
          have hP : va_P (dC, dI) vwCl (mW cI cZ m0 m1 m2 m3 m4 m5 m6 th n bg tn sl ht sn (mix (toldF ht o p) o (i + 1)) nx o ow) H := hP
          have hD : va_D (wIn (mW cI cZ m0 m1 m2 m3 m4 m5 m6 th n bg tn sl ht sn o nx kp ow)) (mW cI cZ m0 m1 m2 m3 m4 m5 m6 th n bg tn sl ht sn (mix (toldF ht o p) o (i + 1)) nx o ow) := hD
          refine lv_iinc (v := nI (i + 1)) (lv' := [(2, .int (nI (i + 1))), (0, .ref m0), (1, .int (nI p))]) hx hb dX2_ifTold_48 hl (k := 0) rfl (nI_add _ _) (by decide) rfl (fun ls hl => ?_)
          refine lv_goto (tgt := 6) hx hb dX2_ifTold_51 (by decide) ?_
          exact ih6 (i + 1) (by omega) (by omega) _ _ hP hD hS _ (lv_sub hl [0, 1, 2] rfl)
        · refine lv_iload_n hx hb dX2_ifTold_28 rfl (lv_at hl 0 rfl) ?_
          refine lv_iload_n hx hb dX2_ifTold_29 rfl (lv_at hl 2 rfl) ?_
          refine call_Sp (As := [.int (nI i), .int (nI p)]) (rest := [.int (nI i), .ref m3]) S (m_X2_colour i p (by omega) (by omega)) g_X2_X2_colour hd_X2_colour ⟨Nat.le_of_ble_eq_true rfl, Nat.le_of_ble_eq_true rfl⟩ ⟨Nat.zero_le _, Nat.zero_le _⟩ hP hD hK hS hZ [] rfl (by decide) hl.1 rfl (Nat.le_of_ble_eq_true rfl) dX2_ifTold_30 (fun r H locs hq hP hS => ?_)
          obtain rfl := hq
          refine lv_aload_n hx hb dX2_ifTold_33 rfl (lv_at hl 1 rfl) ?_
          refine va_get (D := (dC, dI)) (ci := 2) (v := .ref m1) (C := RX2) (T := TX2) (N := 11) hx hb hts inX2 hown hK hP 0 rfl rfl 3 (by decide) (hts _ q_fl_X2_9) (fun _ h9 => h9) rfl dX2_ifTold_34 ?_
          refine lv_iload_n hx hb dX2_ifTold_37 rfl (lv_at hl 2 rfl) ?_
          refine ia_ld hx hb hK hP 1 0 rfl rfl (j := p) (by omega) (by decide) dX2_ifTold_38 ?_
          refine icN_ne (tgt := 46) hx hb dX2_ifTold_39 (by decide) (by have := dg3_lt i p; omega) (by have := hht p hp; omega) (fun c_39 => ?_) (fun c_39 => ?_)
          · refine lv_iconst (v := nI 0) hx hb dX2_ifTold_46 (by decide) ?_
            refine W_i (y := bI false) rfl ?_
            refine za_st hx hb hK hP hD hS 3 1 rfl rfl (j := i) (v := false) (by omega) (by decide) dX2_ifTold_47 (fun H locs hP hD hS => ?_)
            rw [show (upN (mix (toldF ht o p) o i) i false) = (mix (toldF ht o p) o (i + 1)) from mix_s (by simp [toldF, c_25, c_39])] at hP hD
            have hP : va_P (dC, dI) vwCl (mW cI cZ m0 m1 m2 m3 m4 m5 m6 th n bg tn sl ht sn (mix (toldF ht o p) o (i + 1)) nx o ow) H := hP
            have hD : va_D (wIn (mW cI cZ m0 m1 m2 m3 m4 m5 m6 th n bg tn sl ht sn o nx kp ow)) (mW cI cZ m0 m1 m2 m3 m4 m5 m6 th n bg tn sl ht sn (mix (toldF ht o p) o (i + 1)) nx o ow) := hD
            refine lv_iinc (v := nI (i + 1)) (lv' := [(2, .int (nI (i + 1))), (0, .ref m0), (1, .int (nI p))]) hx hb dX2_ifTold_48 hl (k := 0) rfl (nI_add _ _) (by decide) rfl (fun ls hl => ?_)
            refine lv_goto (tgt := 6) hx hb dX2_ifTold_51 (by decide) ?_
            exact ih6 (i + 1) (by omega) (by omega) _ _ hP hD hS _ (lv_sub hl [0, 1, 2] rfl)
          · refine lv_iconst (v := nI 1) hx hb dX2_ifTold_42 (by decide) ?_
            refine lv_goto (tgt := 47) hx hb dX2_ifTold_43 (by decide) ?_
            refine W_i (y := bI true) rfl ?_
            refine za_st hx hb hK hP hD hS 3 1 rfl rfl (j := i) (v := true) (by omega) (by decide) dX2_ifTold_47 (fun H locs hP hD hS => ?_)
            rw [show (upN (mix (toldF ht o p) o i) i true) = (mix (toldF ht o p) o (i + 1)) from mix_s (by simp [toldF, c_25, c_39])] at hP hD
            have hP : va_P (dC, dI) vwCl (mW cI cZ m0 m1 m2 m3 m4 m5 m6 th n bg tn sl ht sn (mix (toldF ht o p) o (i + 1)) nx o ow) H := hP
            have hD : va_D (wIn (mW cI cZ m0 m1 m2 m3 m4 m5 m6 th n bg tn sl ht sn o nx kp ow)) (mW cI cZ m0 m1 m2 m3 m4 m5 m6 th n bg tn sl ht sn (mix (toldF ht o p) o (i + 1)) nx o ow) := hD
            refine lv_iinc (v := nI (i + 1)) (lv' := [(2, .int (nI (i + 1))), (0, .ref m0), (1, .int (nI p))]) hx hb dX2_ifTold_48 hl (k := 0) rfl (nI_add _ _) (by decide) rfl (fun ls hl => ?_)
            refine lv_goto (tgt := 6) hx hb dX2_ifTold_51 (by decide) ?_
            exact ih6 (i + 1) (by omega) (by omega) _ _ hP hD hS _ (lv_sub hl [0, 1, 2] rfl)
  rw [show va_P (dC, dI) vwCl (mW cI cZ m0 m1 m2 m3 m4 m5 m6 th n bg tn sl ht sn o nx o ow) H = va_P (dC, dI) vwCl (mW cI cZ m0 m1 m2 m3 m4 m5 m6 th n bg tn sl ht sn (mix (toldF ht o p) o 0) nx o ow) H by rw [mix_0]] at hP; rw [show va_D (wIn (mW cI cZ m0 m1 m2 m3 m4 m5 m6 th n bg tn sl ht sn o nx kp ow)) (mW cI cZ m0 m1 m2 m3 m4 m5 m6 th n bg tn sl ht sn o nx o ow) = va_D (wIn (mW cI cZ m0 m1 m2 m3 m4 m5 m6 th n bg tn sl ht sn o nx kp ow)) (mW cI cZ m0 m1 m2 m3 m4 m5 m6 th n bg tn sl ht sn (mix (toldF ht o p) o 0) nx o ow) by rw [mix_0]] at hD
  exact lp6 (3 ^ n + 1) 0 (by omega) (by omega) _ _ hP hD hS _ (lv_sub hl [0, 1, 2] rfl)

set_option maxHeartbeats 4000000 in
set_option maxRecDepth 100000 in
theorem m_X2_say (m0 m1 m2 m3 m4 m5 m6 th n : Nat) (bg : Bool) (tn sl : Nat) (ht sn : Nat → Nat) (o nx kp : Nat → Bool) (ow : Nat → Nat) (co many : Nat) (le : Bool) (hn : n ≤ 5) (hsn : ∀ p, p < 5 → sn p < 32) (hht : ∀ p, p < 5 → ht p < 3) (hco : co < 3) (hm : many < 6) (hok : isM n (realN ht n) co many le = true) : Mi l yX2_say ws_X2_say 3 69 (dC, dI) (tyL cI cZ cJ) [.ref m0, .int (nI co), .int (nI many), .int (bI le)] (mW cI cZ m0 m1 m2 m3 m4 m5 m6 th n bg tn sl ht sn o nx kp ow) (fun r u => r = nI (cntP (mix (fun w => o w && isM n w co many le) o (3 ^ n)) (3 ^ n)) ∧ u = mW cI cZ m0 m1 m2 m3 m4 m5 m6 0 n true tn sl ht sn (mix (fun w => o w && isM n w co many le) o (3 ^ n)) nx kp ow) := by
  refine Mi_of (by decide +kernel) (Nat.le_of_ble_eq_true rfl) ?_
  intro pr ev sx mi ag bl me cd Q ls S hP hK hD hZ hl ret
  obtain ⟨hx, hb, hml, hown, hts⟩ := id S
  have hown : sx.vm.findClass RX2 = some mi.cls := hown
  have hS : va_S (wIn (mW cI cZ m0 m1 m2 m3 m4 m5 m6 th n bg tn sl ht sn o nx kp ow)) sx.heap sx.heap [] := va_S.rf
  have hl : lv_has ls 5 [(0, .ref m0), (1, .int (nI co)), (2, .int (nI many)), (3, .int (bI le))] := hl
  have h3 := p3_243 n hn; have h30 := p3_0 n
  have hre : realN ht n < 3 ^ n := realN_lt n (fun p hp => hht p (by omega))
  refine lv_aload_n hx hb dX2_say_0 rfl (lv_at hl 0 rfl) ?_
  refine lv_iload_n hx hb dX2_say_1 rfl (lv_at hl 1 rfl) ?_
  refine call_Sp (As := [.int (nI co)]) (rest := [.ref m0]) S (m_X2_isColour_t co (by omega)) g_X2_X2_isColour hd_X2_isColour ⟨Nat.le_of_ble_eq_true rfl, Nat.le_of_ble_eq_true rfl⟩ ⟨Nat.zero_le _, Nat.zero_le _⟩ hP hD hK hS hZ [] rfl (by decide) hl.1 rfl (Nat.le_of_ble_eq_true rfl) dX2_say_2 (fun r H locs hq hP hS => ?_)
  obtain rfl := hq
  refine ifB_ne (tgt := 12) hx hb dX2_say_5 (by decide) (fun c_5 => ?_) (fun c_5 => absurd c_5 (by decide))
  refine lv_iload_n hx hb dX2_say_12 rfl (lv_at hl 2 rfl) ?_
  refine lv_iconst (v := nI 0) hx hb dX2_say_13 (by decide) ?_
  refine lv_iconst (v := nI 5) hx hb dX2_say_14 (by decide) ?_
  refine call_Sp (As := [.int (nI many), .int (nI 0), .int (nI 5)]) (rest := [.ref m0]) S (m_X2_isIn (nI many) (nI 0) (nI 5) true (fun _ => isC_t (by omega) hm) (fun q => absurd q (by decide))) g_X2_X2_isIn hd_X2_isIn ⟨Nat.le_of_ble_eq_true rfl, Nat.le_of_ble_eq_true rfl⟩ ⟨Nat.zero_le _, Nat.zero_le _⟩ hP hD hK hS hZ [] rfl (by decide) hl.1 rfl (Nat.le_of_ble_eq_true rfl) dX2_say_15 (fun r H locs hq hP hS => ?_)
  obtain rfl := hq
  refine ifB_ne (tgt := 25) hx hb dX2_say_18 (by decide) (fun c_18 => ?_) (fun c_18 => absurd c_18 (by decide))
  refine lv_aload_n hx hb dX2_say_25 rfl (lv_at hl 0 rfl) ?_
  refine lv_aload_n hx hb dX2_say_26 rfl (lv_at hl 0 rfl) ?_
  refine call_Vp (As := []) (rest := [.ref m0, .ref m0]) S (m_X2_real m0 m1 m2 m3 m4 m5 m6 th n bg tn sl ht sn o nx kp ow  hn) g_X2_X2_real hd_X2_real ⟨Nat.le_of_ble_eq_true rfl, Nat.le_of_ble_eq_true rfl⟩ ⟨Nat.zero_le _, Nat.zero_le _⟩ hP hD hK hS hZ [0, 1, 2, 3, 4, 5, 6] rfl (by decide) 0 rfl rfl hl.1 rfl (Nat.le_of_ble_eq_true rfl) dX2_say_27 (fun r H locs hq hP hS => ?_)
  obtain rfl := hq
  refine lv_iload_n hx hb dX2_say_30 rfl (lv_at hl 1 rfl) ?_
  refine lv_iload_n hx hb dX2_say_31 rfl (lv_at hl 2 rfl) ?_
  refine lv_iload_n hx hb dX2_say_32 rfl (lv_at hl 3 rfl) ?_
  refine call_Vp (As := [.int (nI (realN ht n)), .int (nI co), .int (nI many), .int (bI le)]) (rest := [.ref m0]) S (m_X2_is m0 m1 m2 m3 m4 m5 m6 th n bg tn sl ht sn o nx kp ow (realN ht n) co many le hn (by omega) (by omega) (by omega)) g_X2_X2_is hd_X2_is ⟨Nat.le_of_ble_eq_true rfl, Nat.le_of_ble_eq_true rfl⟩ ⟨Nat.zero_le _, Nat.zero_le _⟩ hP hD hK hS hZ [0, 1, 2, 3, 4, 5, 6] rfl (by decide) 0 rfl rfl hl.1 rfl (Nat.le_of_ble_eq_true rfl) dX2_say_33 (fun r H locs hq hP hS => ?_)
  obtain rfl := hq
  refine ifB_eq (tgt := 43) hx hb dX2_say_36 (by decide) (fun c_36 => absurd c_36 (by rw [hok]; decide)) (fun c_36 => ?_)
  refine lv_iconst (v := nI 0) hx hb dX2_say_39 (by decide) ?_
  refine lv_goto (tgt := 44) hx hb dX2_say_40 (by decide) ?_
  refine va_put (D := (dC, dI)) (ci := 2) (v := .int (nI 0)) (ty := .int) (C := RX2) (T := TX2) (N := 11) hx hb hts inX2 tyX2 tyX2_ok nmX2 hown hK hP hD hS 0 rfl rfl 0 (by decide) (hts _ q_fl_X2_29) (fun _ h9 => h9) rfl (by decide +kernel) rfl rfl (Nat.le_of_ble_eq_true rfl) dX2_say_44 (fun H locs hP hD hS => ?_)
  have hP : va_P (dC, dI) vwCl (mW cI cZ m0 m1 m2 m3 m4 m5 m6 0 n bg tn sl ht sn o nx kp ow) H := hP
  have hD : va_D (wIn (mW cI cZ m0 m1 m2 m3 m4 m5 m6 th n bg tn sl ht sn o nx kp ow)) (mW cI cZ m0 m1 m2 m3 m4 m5 m6 0 n bg tn sl ht sn o nx kp ow) := hD
  refine lv_aload_n hx hb dX2_say_47 rfl (lv_at hl 0 rfl) ?_
  refine va_get (D := (dC, dI)) (ci := 2) (v := .int (nI 0)) (C := RX2) (T := TX2) (N := 11) hx hb hts inX2 hown hK hP 0 rfl rfl 0 (by decide) (hts _ q_fl_X2_29) (fun _ h9 => h9) rfl dX2_say_48 ?_
  refine ifN_le (tgt := 56) hx hb dX2_say_51 (by decide) (by omega) (fun c_51 => ?_) (fun c_51 => absurd c_51 (by decide))
  refine lv_iconst (v := nI 0) hx hb dX2_say_56 (by decide) ?_
  refine lv_istore (lv' := [(4, .int (nI 0)), (0, .ref m0), (1, .int (nI co)), (2, .int (nI many)), (3, .int (bI le))]) hx hb dX2_say_57 hl (by decide) rfl (fun ls hl => ?_)
  have lp59 : ∀ (kf : Nat) (i : Nat), (3 ^ n) < i + kf → (i ≤ 3 ^ n) → ∀ (H : Heap) (locs : List Loc), va_P (dC, dI) vwCl (mW cI cZ m0 m1 m2 m3 m4 m5 m6 0 n bg tn sl ht sn (mix (fun w => o w && isM n w co many le) o i) nx kp ow) H → va_D (wIn (mW cI cZ m0 m1 m2 m3 m4 m5 m6 th n bg tn sl ht sn o nx kp ow)) (mW cI cZ m0 m1 m2 m3 m4 m5 m6 0 n bg tn sl ht sn (mix (fun w => o w && isM n w co many le) o i) nx kp ow) → va_S (wIn (mW cI cZ m0 m1 m2 m3 m4 m5 m6 th n bg tn sl ht sn o nx kp ow)) sx.heap H locs → ∀ ls : Array Slot, lv_has ls 5 [(4, .int (nI i)), (0, .ref m0), (1, .int (nI co)), (2, .int (nI many)), (3, .int (bI le))] → W pr l ev (rmB 3 69) sx mi ag bl me cd H locs 0 0 Q (F0 mi 59 ls []) := by
    intro kf
    induction kf with
    | zero => intro i hkf hi; exact absurd hkf (by omega)
    | succ kf ih59 =>
      intro i hkf hi H locs hP hD hS ls hl
      refine lv_iload hx hb dX2_say_59 (lv_at hl 0 rfl) ?_
      refine lv_aload_n hx hb dX2_say_61 rfl (lv_at hl 1 rfl) ?_
      refine call_Vp (As := []) (rest := [.int (nI i)]) S (m_X2_ways m0 m1 m2 m3 m4 m5 m6 0 n bg tn sl ht sn (mix (fun w => o w && isM n w co many le) o i) nx kp ow  hn) g_X2_X2_ways hd_X2_ways ⟨Nat.le_of_ble_eq_true rfl, Nat.le_of_ble_eq_true rfl⟩ ⟨Nat.zero_le _, Nat.zero_le _⟩ hP hD hK hS hZ [0, 1, 2, 3, 4, 5, 6] rfl (by decide) 0 rfl rfl hl.1 rfl (Nat.le_of_ble_eq_true rfl) dX2_say_62 (fun r H locs hq hP hS => ?_)
      obtain rfl := hq
      refine icN_ge (tgt := 108) hx hb dX2_say_65 (by decide) (by omega) (by omega) (fun c_65 => ?_) (fun c_65 => ?_)
      · rw [show i = 3 ^ n by omega] at hP hD
        have hP : va_P (dC, dI) vwCl (mW cI cZ m0 m1 m2 m3 m4 m5 m6 0 n bg tn sl ht sn (mix (fun w => o w && isM n w co many le) o (3 ^ n)) nx kp ow) H := hP
        have hD : va_D (wIn (mW cI cZ m0 m1 m2 m3 m4 m5 m6 th n bg tn sl ht sn o nx kp ow)) (mW cI cZ m0 m1 m2 m3 m4 m5 m6 0 n bg tn sl ht sn (mix (fun w => o w && isM n w co many le) o (3 ^ n)) nx kp ow) := hD
        refine lv_aload_n hx hb dX2_say_108 rfl (lv_at hl 1 rfl) ?_
        refine lv_iconst (v := nI 1) hx hb dX2_say_109 (by decide) ?_
        refine W_i (y := bI true) rfl ?_
        refine va_put (D := (dC, dI)) (ci := 2) (v := .int (bI true)) (ty := .boolean) (C := RX2) (T := TX2) (N := 11) hx hb hts inX2 tyX2 tyX2_ok nmX2 hown hK hP hD hS 0 rfl rfl 2 (by decide) (hts _ q_fl_X2_92) (fun _ h9 => h9) rfl (by decide +kernel) rfl rfl (Nat.le_of_ble_eq_true rfl) dX2_say_110 (fun H locs hP hD hS => ?_)
        have hP : va_P (dC, dI) vwCl (mW cI cZ m0 m1 m2 m3 m4 m5 m6 0 n true tn sl ht sn (mix (fun w => o w && isM n w co many le) o (3 ^ n)) nx kp ow) H := hP
        have hD : va_D (wIn (mW cI cZ m0 m1 m2 m3 m4 m5 m6 th n bg tn sl ht sn o nx kp ow)) (mW cI cZ m0 m1 m2 m3 m4 m5 m6 0 n true tn sl ht sn (mix (fun w => o w && isM n w co many le) o (3 ^ n)) nx kp ow) := hD
        refine lv_aload_n hx hb dX2_say_113 rfl (lv_at hl 1 rfl) ?_
        refine call_Vp (As := []) (rest := []) S (m_X2_openNow m0 m1 m2 m3 m4 m5 m6 0 n true tn sl ht sn (mix (fun w => o w && isM n w co many le) o (3 ^ n)) nx kp ow  hn) g_X2_X2_openNow hd_X2_openNow ⟨Nat.le_of_ble_eq_true rfl, Nat.le_of_ble_eq_true rfl⟩ ⟨Nat.zero_le _, Nat.zero_le _⟩ hP hD hK hS hZ [0, 1, 2, 3, 4, 5, 6] rfl (by decide) 0 rfl rfl hl.1 rfl (Nat.le_of_ble_eq_true rfl) dX2_say_114 (fun r H locs hq hP hS => ?_)
        obtain rfl := hq
        exact ret _ (mW cI cZ m0 m1 m2 m3 m4 m5 m6 0 n true tn sl ht sn (mix (fun w => o w && isM n w co many le) o (3 ^ n)) nx kp ow) _ _ _ _ dX2_say_117 rfl ⟨rfl, rfl⟩ (List.Perm.refl _) hP hS
      · refine lv_aload_n hx hb dX2_say_68 rfl (lv_at hl 1 rfl) ?_
        refine va_get (D := (dC, dI)) (ci := 2) (v := .ref m3) (C := RX2) (T := TX2) (N := 11) hx hb hts inX2 hown hK hP 0 rfl rfl 5 (by decide) (hts _ q_fl_X2_16) (fun _ h9 => h9) rfl dX2_say_69 ?_
        refine lv_iload hx hb dX2_say_72 (lv_at hl 0 rfl) ?_
        refine lv_aload_n hx hb dX2_say_74 rfl (lv_at hl 1 rfl) ?_
        refine va_get (D := (dC, dI)) (ci := 2) (v := .ref m3) (C := RX2) (T := TX2) (N := 11) hx hb hts inX2 hown hK hP 0 rfl rfl 5 (by decide) (hts _ q_fl_X2_16) (fun _ h9 => h9) rfl dX2_say_75 ?_
        refine lv_iload hx hb dX2_say_78 (lv_at hl 0 rfl) ?_
        refine za_ld hx hb hK hP 3 1 rfl rfl (j := i) (by omega) (by decide) dX2_say_80 ?_
        refine W_i (y := bI (o i)) (by rw [mix_ge (Nat.le_refl _)]) ?_
        refine ifB_eq (tgt := 100) hx hb dX2_say_81 (by decide) (fun c_81 => ?_) (fun c_81 => ?_)
        · refine lv_iconst (v := nI 0) hx hb dX2_say_100 (by decide) ?_
          refine W_i (y := bI false) rfl ?_
          refine za_st hx hb hK hP hD hS 3 1 rfl rfl (j := i) (v := false) (by omega) (by decide) dX2_say_101 (fun H locs hP hD hS => ?_)
          rw [show (upN (mix (fun w => o w && isM n w co many le) o i) i false) = (mix (fun w => o w && isM n w co many le) o (i + 1)) from mix_s (by simp [c_81])] at hP hD
          have hP : va_P (dC, dI) vwCl (mW cI cZ m0 m1 m2 m3 m4 m5 m6 0 n bg tn sl ht sn (mix (fun w => o w && isM n w co many le) o (i + 1)) nx kp ow) H := hP
          have hD : va_D (wIn (mW cI cZ m0 m1 m2 m3 m4 m5 m6 th n bg tn sl ht sn o nx kp ow)) (mW cI cZ m0 m1 m2 m3 m4 m5 m6 0 n bg tn sl ht sn (mix (fun w => o w && isM n w co many le) o (i + 1)) nx kp ow) := hD
          refine lv_iinc (v := nI (i + 1)) (lv' := [(4, .int (nI (i + 1))), (0, .ref m0), (1, .int (nI co)), (2, .int (nI many)), (3, .int (bI le))]) hx hb dX2_say_102 hl (k := 0) rfl (nI_add _ _) (by decide) rfl (fun ls hl => ?_)
          refine lv_goto (tgt := 59) hx hb dX2_say_105 (by decide) ?_
          exact ih59 (i + 1) (by omega) (by omega) _ _ hP hD hS _ (lv_sub hl [0, 1, 2, 3, 4] rfl)
        · refine lv_aload_n hx hb dX2_say_84 rfl (lv_at hl 1 rfl) ?_
          refine lv_iload hx hb dX2_say_85 (lv_at hl 0 rfl) ?_
          refine lv_iload_n hx hb dX2_say_87 rfl (lv_at hl 2 rfl) ?_
          refine lv_iload_n hx hb dX2_say_88 rfl (lv_at hl 3 rfl) ?_
          refine lv_iload_n hx hb dX2_say_89 rfl (lv_at hl 4 rfl) ?_
          refine call_Vp (As := [.int (nI i), .int (nI co), .int (nI many), .int (bI le)]) (rest := [.int (nI i), .ref m3]) S (m_X2_is m0 m1 m2 m3 m4 m5 m6 0 n bg tn sl ht sn (mix (fun w => o w && isM n w co many le) o i) nx kp ow i co many le hn (by omega) (by omega) (by omega)) g_X2_X2_is hd_X2_is ⟨Nat.le_of_ble_eq_true rfl, Nat.le_of_ble_eq_true rfl⟩ ⟨Nat.zero_le _, Nat.zero_le _⟩ hP hD hK hS hZ [0, 1, 2, 3, 4, 5, 6] rfl (by decide) 0 rfl rfl hl.1 rfl (Nat.le_of_ble_eq_true rfl) dX2_say_90 (fun r H locs hq hP hS => ?_)
          obtain rfl := hq
          refine ifB_eq (tgt := 100) hx hb dX2_say_93 (by decide) (fun c_93 => ?_) (fun c_93 => ?_)
          · refine lv_iconst (v := nI 0) hx hb dX2_say_100 (by decide) ?_
            refine W_i (y := bI false) rfl ?_
            refine za_st hx hb hK hP hD hS 3 1 rfl rfl (j := i) (v := false) (by omega) (by decide) dX2_say_101 (fun H locs hP hD hS => ?_)
            rw [show (upN (mix (fun w => o w && isM n w co many le) o i) i false) = (mix (fun w => o w && isM n w co many le) o (i + 1)) from mix_s (by simp [c_81, c_93])] at hP hD
            have hP : va_P (dC, dI) vwCl (mW cI cZ m0 m1 m2 m3 m4 m5 m6 0 n bg tn sl ht sn (mix (fun w => o w && isM n w co many le) o (i + 1)) nx kp ow) H := hP
            have hD : va_D (wIn (mW cI cZ m0 m1 m2 m3 m4 m5 m6 th n bg tn sl ht sn o nx kp ow)) (mW cI cZ m0 m1 m2 m3 m4 m5 m6 0 n bg tn sl ht sn (mix (fun w => o w && isM n w co many le) o (i + 1)) nx kp ow) := hD
            refine lv_iinc (v := nI (i + 1)) (lv' := [(4, .int (nI (i + 1))), (0, .ref m0), (1, .int (nI co)), (2, .int (nI many)), (3, .int (bI le))]) hx hb dX2_say_102 hl (k := 0) rfl (nI_add _ _) (by decide) rfl (fun ls hl => ?_)
            refine lv_goto (tgt := 59) hx hb dX2_say_105 (by decide) ?_
            exact ih59 (i + 1) (by omega) (by omega) _ _ hP hD hS _ (lv_sub hl [0, 1, 2, 3, 4] rfl)
          · refine lv_iconst (v := nI 1) hx hb dX2_say_96 (by decide) ?_
            refine lv_goto (tgt := 101) hx hb dX2_say_97 (by decide) ?_
            refine W_i (y := bI true) rfl ?_
            refine za_st hx hb hK hP hD hS 3 1 rfl rfl (j := i) (v := true) (by omega) (by decide) dX2_say_101 (fun H locs hP hD hS => ?_)
            rw [show (upN (mix (fun w => o w && isM n w co many le) o i) i true) = (mix (fun w => o w && isM n w co many le) o (i + 1)) from mix_s (by simp [c_81, c_93])] at hP hD
            have hP : va_P (dC, dI) vwCl (mW cI cZ m0 m1 m2 m3 m4 m5 m6 0 n bg tn sl ht sn (mix (fun w => o w && isM n w co many le) o (i + 1)) nx kp ow) H := hP
            have hD : va_D (wIn (mW cI cZ m0 m1 m2 m3 m4 m5 m6 th n bg tn sl ht sn o nx kp ow)) (mW cI cZ m0 m1 m2 m3 m4 m5 m6 0 n bg tn sl ht sn (mix (fun w => o w && isM n w co many le) o (i + 1)) nx kp ow) := hD
            refine lv_iinc (v := nI (i + 1)) (lv' := [(4, .int (nI (i + 1))), (0, .ref m0), (1, .int (nI co)), (2, .int (nI many)), (3, .int (bI le))]) hx hb dX2_say_102 hl (k := 0) rfl (nI_add _ _) (by decide) rfl (fun ls hl => ?_)
            refine lv_goto (tgt := 59) hx hb dX2_say_105 (by decide) ?_
            exact ih59 (i + 1) (by omega) (by omega) _ _ hP hD hS _ (lv_sub hl [0, 1, 2, 3, 4] rfl)
  have hP : va_P (dC, dI) vwCl (mW cI cZ m0 m1 m2 m3 m4 m5 m6 0 n bg tn sl ht sn (mix (fun w => o w && isM n w co many le) o 0) nx kp ow) H := by rw [mix_0]; exact hP
  have hD : va_D (wIn (mW cI cZ m0 m1 m2 m3 m4 m5 m6 th n bg tn sl ht sn o nx kp ow)) (mW cI cZ m0 m1 m2 m3 m4 m5 m6 0 n bg tn sl ht sn (mix (fun w => o w && isM n w co many le) o 0) nx kp ow) := by rw [mix_0]; exact hD
  exact lp59 (3 ^ n + 1) 0 (by omega) (by omega) _ _ hP hD hS _ (lv_sub hl [0, 1, 2, 3, 4] rfl)

set_option maxHeartbeats 4000000 in
set_option maxRecDepth 100000 in
theorem mf_X2_say_a (m0 m1 m2 m3 m4 m5 m6 th n : Nat) (bg : Bool) (tn sl : Nat) (ht sn : Nat → Nat) (o nx kp : Nat → Bool) (ow : Nat → Nat) (a0 a1 : Int32) (le : Bool) (ha0 : ∀ j, j < 3 → a0 ≠ nI j) (hn : n ≤ 5) (hsn : ∀ p, p < 5 → sn p < 32) (hht : ∀ p, p < 5 → ht p < 3) : Mi l yX2_say ws_X2_say 2 42 (dC, dI) (tyL cI cZ cJ) [.ref m0, .int a0, .int a1, .int (bI le)] (mW cI cZ m0 m1 m2 m3 m4 m5 m6 th n bg tn sl ht sn o nx kp ow) (fun r u => r = nI 0 ∧ u = mW cI cZ m0 m1 m2 m3 m4 m5 m6 1 n bg tn sl ht sn o nx kp ow) := by
  refine Mi_of (by decide +kernel) (Nat.le_of_ble_eq_true rfl) ?_
  intro pr ev sx mi ag bl me cd Q ls S hP hK hD hZ hl ret
  obtain ⟨hx, hb, hml, hown, hts⟩ := id S
  have hown : sx.vm.findClass RX2 = some mi.cls := hown
  have hS : va_S (wIn (mW cI cZ m0 m1 m2 m3 m4 m5 m6 th n bg tn sl ht sn o nx kp ow)) sx.heap sx.heap [] := va_S.rf
  have hl : lv_has ls 5 [(0, .ref m0), (1, .int a0), (2, .int a1), (3, .int (bI le))] := hl
  have h3 := p3_243 n hn; have h30 := p3_0 n
  have hre : realN ht n < 3 ^ n := realN_lt n (fun p hp => hht p (by omega))
  refine lv_aload_n hx hb dX2_say_0 rfl (lv_at hl 0 rfl) ?_
  refine lv_iload_n hx hb dX2_say_1 rfl (lv_at hl 1 rfl) ?_
  refine call_Sp (As := [.int a0]) (rest := [.ref m0]) S (m_X2_isColour_f a0 ha0) g_X2_X2_isColour hd_X2_isColour ⟨Nat.le_of_ble_eq_true rfl, Nat.le_of_ble_eq_true rfl⟩ ⟨Nat.zero_le _, Nat.zero_le _⟩ hP hD hK hS hZ [] rfl (by decide) hl.1 rfl (Nat.le_of_ble_eq_true rfl) dX2_say_2 (fun r H locs hq hP hS => ?_)
  obtain rfl := hq
  refine ifB_ne (tgt := 12) hx hb dX2_say_5 (by decide) (fun c_5 => absurd c_5 (by decide)) (fun c_5 => ?_)
  refine lv_iconst (v := nI 1) hx hb dX2_say_8 (by decide) ?_
  refine lv_goto (tgt := 44) hx hb dX2_say_9 (by decide) ?_
  refine va_put (D := (dC, dI)) (ci := 2) (v := .int (nI 1)) (ty := .int) (C := RX2) (T := TX2) (N := 11) hx hb hts inX2 tyX2 tyX2_ok nmX2 hown hK hP hD hS 0 rfl rfl 0 (by decide) (hts _ q_fl_X2_29) (fun _ h9 => h9) rfl (by decide +kernel) rfl rfl (Nat.le_of_ble_eq_true rfl) dX2_say_44 (fun H locs hP hD hS => ?_)
  have hP : va_P (dC, dI) vwCl (mW cI cZ m0 m1 m2 m3 m4 m5 m6 1 n bg tn sl ht sn o nx kp ow) H := hP
  have hD : va_D (wIn (mW cI cZ m0 m1 m2 m3 m4 m5 m6 th n bg tn sl ht sn o nx kp ow)) (mW cI cZ m0 m1 m2 m3 m4 m5 m6 1 n bg tn sl ht sn o nx kp ow) := hD
  refine lv_aload_n hx hb dX2_say_47 rfl (lv_at hl 0 rfl) ?_
  refine va_get (D := (dC, dI)) (ci := 2) (v := .int (nI 1)) (C := RX2) (T := TX2) (N := 11) hx hb hts inX2 hown hK hP 0 rfl rfl 0 (by decide) (hts _ q_fl_X2_29) (fun _ h9 => h9) rfl dX2_say_48 ?_
  refine ifN_le (tgt := 56) hx hb dX2_say_51 (by decide) (by omega) (fun c_51 => absurd c_51 (by decide)) (fun c_51 => ?_)
  refine lv_iconst (v := nI 0) hx hb dX2_say_54 (by decide) ?_
  exact ret _ (mW cI cZ m0 m1 m2 m3 m4 m5 m6 1 n bg tn sl ht sn o nx kp ow) _ _ _ _ dX2_say_55 rfl ⟨rfl, rfl⟩ (List.Perm.refl _) hP hS

set_option maxHeartbeats 4000000 in
set_option maxRecDepth 100000 in
theorem mf_X2_say_b (m0 m1 m2 m3 m4 m5 m6 th n : Nat) (bg : Bool) (tn sl : Nat) (ht sn : Nat → Nat) (o nx kp : Nat → Bool) (ow : Nat → Nat) (co : Nat) (a1 : Int32) (le : Bool) (hco : co < 3) (ha1 : ∀ j, j < 6 → a1 ≠ nI j) (hn : n ≤ 5) (hsn : ∀ p, p < 5 → sn p < 32) (hht : ∀ p, p < 5 → ht p < 3) : Mi l yX2_say ws_X2_say 2 42 (dC, dI) (tyL cI cZ cJ) [.ref m0, .int (nI co), .int a1, .int (bI le)] (mW cI cZ m0 m1 m2 m3 m4 m5 m6 th n bg tn sl ht sn o nx kp ow) (fun r u => r = nI 0 ∧ u = mW cI cZ m0 m1 m2 m3 m4 m5 m6 2 n bg tn sl ht sn o nx kp ow) := by
  refine Mi_of (by decide +kernel) (Nat.le_of_ble_eq_true rfl) ?_
  intro pr ev sx mi ag bl me cd Q ls S hP hK hD hZ hl ret
  obtain ⟨hx, hb, hml, hown, hts⟩ := id S
  have hown : sx.vm.findClass RX2 = some mi.cls := hown
  have hS : va_S (wIn (mW cI cZ m0 m1 m2 m3 m4 m5 m6 th n bg tn sl ht sn o nx kp ow)) sx.heap sx.heap [] := va_S.rf
  have hl : lv_has ls 5 [(0, .ref m0), (1, .int (nI co)), (2, .int a1), (3, .int (bI le))] := hl
  have h3 := p3_243 n hn; have h30 := p3_0 n
  have hre : realN ht n < 3 ^ n := realN_lt n (fun p hp => hht p (by omega))
  refine lv_aload_n hx hb dX2_say_0 rfl (lv_at hl 0 rfl) ?_
  refine lv_iload_n hx hb dX2_say_1 rfl (lv_at hl 1 rfl) ?_
  refine call_Sp (As := [.int (nI co)]) (rest := [.ref m0]) S (m_X2_isColour_t co (by omega)) g_X2_X2_isColour hd_X2_isColour ⟨Nat.le_of_ble_eq_true rfl, Nat.le_of_ble_eq_true rfl⟩ ⟨Nat.zero_le _, Nat.zero_le _⟩ hP hD hK hS hZ [] rfl (by decide) hl.1 rfl (Nat.le_of_ble_eq_true rfl) dX2_say_2 (fun r H locs hq hP hS => ?_)
  obtain rfl := hq
  refine ifB_ne (tgt := 12) hx hb dX2_say_5 (by decide) (fun c_5 => ?_) (fun c_5 => absurd c_5 (by decide))
  refine lv_iload_n hx hb dX2_say_12 rfl (lv_at hl 2 rfl) ?_
  refine lv_iconst (v := nI 0) hx hb dX2_say_13 (by decide) ?_
  refine lv_iconst (v := nI 5) hx hb dX2_say_14 (by decide) ?_
  refine call_Sp (As := [.int a1, .int (nI 0), .int (nI 5)]) (rest := [.ref m0]) S (m_X2_isIn a1 (nI 0) (nI 5) false (fun q => absurd q (by decide)) (fun _ => isC_f (by omega) ha1)) g_X2_X2_isIn hd_X2_isIn ⟨Nat.le_of_ble_eq_true rfl, Nat.le_of_ble_eq_true rfl⟩ ⟨Nat.zero_le _, Nat.zero_le _⟩ hP hD hK hS hZ [] rfl (by decide) hl.1 rfl (Nat.le_of_ble_eq_true rfl) dX2_say_15 (fun r H locs hq hP hS => ?_)
  obtain rfl := hq
  refine ifB_ne (tgt := 25) hx hb dX2_say_18 (by decide) (fun c_18 => absurd c_18 (by decide)) (fun c_18 => ?_)
  refine lv_iconst (v := nI 2) hx hb dX2_say_21 (by decide) ?_
  refine lv_goto (tgt := 44) hx hb dX2_say_22 (by decide) ?_
  refine va_put (D := (dC, dI)) (ci := 2) (v := .int (nI 2)) (ty := .int) (C := RX2) (T := TX2) (N := 11) hx hb hts inX2 tyX2 tyX2_ok nmX2 hown hK hP hD hS 0 rfl rfl 0 (by decide) (hts _ q_fl_X2_29) (fun _ h9 => h9) rfl (by decide +kernel) rfl rfl (Nat.le_of_ble_eq_true rfl) dX2_say_44 (fun H locs hP hD hS => ?_)
  have hP : va_P (dC, dI) vwCl (mW cI cZ m0 m1 m2 m3 m4 m5 m6 2 n bg tn sl ht sn o nx kp ow) H := hP
  have hD : va_D (wIn (mW cI cZ m0 m1 m2 m3 m4 m5 m6 th n bg tn sl ht sn o nx kp ow)) (mW cI cZ m0 m1 m2 m3 m4 m5 m6 2 n bg tn sl ht sn o nx kp ow) := hD
  refine lv_aload_n hx hb dX2_say_47 rfl (lv_at hl 0 rfl) ?_
  refine va_get (D := (dC, dI)) (ci := 2) (v := .int (nI 2)) (C := RX2) (T := TX2) (N := 11) hx hb hts inX2 hown hK hP 0 rfl rfl 0 (by decide) (hts _ q_fl_X2_29) (fun _ h9 => h9) rfl dX2_say_48 ?_
  refine ifN_le (tgt := 56) hx hb dX2_say_51 (by decide) (by omega) (fun c_51 => absurd c_51 (by decide)) (fun c_51 => ?_)
  refine lv_iconst (v := nI 0) hx hb dX2_say_54 (by decide) ?_
  exact ret _ (mW cI cZ m0 m1 m2 m3 m4 m5 m6 2 n bg tn sl ht sn o nx kp ow) _ _ _ _ dX2_say_55 rfl ⟨rfl, rfl⟩ (List.Perm.refl _) hP hS

set_option maxHeartbeats 4000000 in
set_option maxRecDepth 100000 in
theorem mf_X2_say_c (m0 m1 m2 m3 m4 m5 m6 th n : Nat) (bg : Bool) (tn sl : Nat) (ht sn : Nat → Nat) (o nx kp : Nat → Bool) (ow : Nat → Nat) (co many : Nat) (le : Bool) (hco : co < 3) (hm : many < 6) (hok : isM n (realN ht n) co many le = false) (hn : n ≤ 5) (hsn : ∀ p, p < 5 → sn p < 32) (hht : ∀ p, p < 5 → ht p < 3) : Mi l yX2_say ws_X2_say 3 69 (dC, dI) (tyL cI cZ cJ) [.ref m0, .int (nI co), .int (nI many), .int (bI le)] (mW cI cZ m0 m1 m2 m3 m4 m5 m6 th n bg tn sl ht sn o nx kp ow) (fun r u => r = nI 0 ∧ u = mW cI cZ m0 m1 m2 m3 m4 m5 m6 3 n bg tn sl ht sn o nx kp ow) := by
  refine Mi_of (by decide +kernel) (Nat.le_of_ble_eq_true rfl) ?_
  intro pr ev sx mi ag bl me cd Q ls S hP hK hD hZ hl ret
  obtain ⟨hx, hb, hml, hown, hts⟩ := id S
  have hown : sx.vm.findClass RX2 = some mi.cls := hown
  have hS : va_S (wIn (mW cI cZ m0 m1 m2 m3 m4 m5 m6 th n bg tn sl ht sn o nx kp ow)) sx.heap sx.heap [] := va_S.rf
  have hl : lv_has ls 5 [(0, .ref m0), (1, .int (nI co)), (2, .int (nI many)), (3, .int (bI le))] := hl
  have h3 := p3_243 n hn; have h30 := p3_0 n
  have hre : realN ht n < 3 ^ n := realN_lt n (fun p hp => hht p (by omega))
  refine lv_aload_n hx hb dX2_say_0 rfl (lv_at hl 0 rfl) ?_
  refine lv_iload_n hx hb dX2_say_1 rfl (lv_at hl 1 rfl) ?_
  refine call_Sp (As := [.int (nI co)]) (rest := [.ref m0]) S (m_X2_isColour_t co (by omega)) g_X2_X2_isColour hd_X2_isColour ⟨Nat.le_of_ble_eq_true rfl, Nat.le_of_ble_eq_true rfl⟩ ⟨Nat.zero_le _, Nat.zero_le _⟩ hP hD hK hS hZ [] rfl (by decide) hl.1 rfl (Nat.le_of_ble_eq_true rfl) dX2_say_2 (fun r H locs hq hP hS => ?_)
  obtain rfl := hq
  refine ifB_ne (tgt := 12) hx hb dX2_say_5 (by decide) (fun c_5 => ?_) (fun c_5 => absurd c_5 (by decide))
  refine lv_iload_n hx hb dX2_say_12 rfl (lv_at hl 2 rfl) ?_
  refine lv_iconst (v := nI 0) hx hb dX2_say_13 (by decide) ?_
  refine lv_iconst (v := nI 5) hx hb dX2_say_14 (by decide) ?_
  refine call_Sp (As := [.int (nI many), .int (nI 0), .int (nI 5)]) (rest := [.ref m0]) S (m_X2_isIn (nI many) (nI 0) (nI 5) true (fun _ => isC_t (by omega) hm) (fun q => absurd q (by decide))) g_X2_X2_isIn hd_X2_isIn ⟨Nat.le_of_ble_eq_true rfl, Nat.le_of_ble_eq_true rfl⟩ ⟨Nat.zero_le _, Nat.zero_le _⟩ hP hD hK hS hZ [] rfl (by decide) hl.1 rfl (Nat.le_of_ble_eq_true rfl) dX2_say_15 (fun r H locs hq hP hS => ?_)
  obtain rfl := hq
  refine ifB_ne (tgt := 25) hx hb dX2_say_18 (by decide) (fun c_18 => ?_) (fun c_18 => absurd c_18 (by decide))
  refine lv_aload_n hx hb dX2_say_25 rfl (lv_at hl 0 rfl) ?_
  refine lv_aload_n hx hb dX2_say_26 rfl (lv_at hl 0 rfl) ?_
  refine call_Vp (As := []) (rest := [.ref m0, .ref m0]) S (m_X2_real m0 m1 m2 m3 m4 m5 m6 th n bg tn sl ht sn o nx kp ow  hn) g_X2_X2_real hd_X2_real ⟨Nat.le_of_ble_eq_true rfl, Nat.le_of_ble_eq_true rfl⟩ ⟨Nat.zero_le _, Nat.zero_le _⟩ hP hD hK hS hZ [0, 1, 2, 3, 4, 5, 6] rfl (by decide) 0 rfl rfl hl.1 rfl (Nat.le_of_ble_eq_true rfl) dX2_say_27 (fun r H locs hq hP hS => ?_)
  obtain rfl := hq
  refine lv_iload_n hx hb dX2_say_30 rfl (lv_at hl 1 rfl) ?_
  refine lv_iload_n hx hb dX2_say_31 rfl (lv_at hl 2 rfl) ?_
  refine lv_iload_n hx hb dX2_say_32 rfl (lv_at hl 3 rfl) ?_
  refine call_Vp (As := [.int (nI (realN ht n)), .int (nI co), .int (nI many), .int (bI le)]) (rest := [.ref m0]) S (m_X2_is m0 m1 m2 m3 m4 m5 m6 th n bg tn sl ht sn o nx kp ow (realN ht n) co many le hn (by omega) (by omega) (by omega)) g_X2_X2_is hd_X2_is ⟨Nat.le_of_ble_eq_true rfl, Nat.le_of_ble_eq_true rfl⟩ ⟨Nat.zero_le _, Nat.zero_le _⟩ hP hD hK hS hZ [0, 1, 2, 3, 4, 5, 6] rfl (by decide) 0 rfl rfl hl.1 rfl (Nat.le_of_ble_eq_true rfl) dX2_say_33 (fun r H locs hq hP hS => ?_)
  obtain rfl := hq
  refine ifB_eq (tgt := 43) hx hb dX2_say_36 (by decide) (fun c_36 => ?_) (fun c_36 => absurd c_36 (by rw [hok]; decide))
  refine lv_iconst (v := nI 3) hx hb dX2_say_43 (by decide) ?_
  refine va_put (D := (dC, dI)) (ci := 2) (v := .int (nI 3)) (ty := .int) (C := RX2) (T := TX2) (N := 11) hx hb hts inX2 tyX2 tyX2_ok nmX2 hown hK hP hD hS 0 rfl rfl 0 (by decide) (hts _ q_fl_X2_29) (fun _ h9 => h9) rfl (by decide +kernel) rfl rfl (Nat.le_of_ble_eq_true rfl) dX2_say_44 (fun H locs hP hD hS => ?_)
  have hP : va_P (dC, dI) vwCl (mW cI cZ m0 m1 m2 m3 m4 m5 m6 3 n bg tn sl ht sn o nx kp ow) H := hP
  have hD : va_D (wIn (mW cI cZ m0 m1 m2 m3 m4 m5 m6 th n bg tn sl ht sn o nx kp ow)) (mW cI cZ m0 m1 m2 m3 m4 m5 m6 3 n bg tn sl ht sn o nx kp ow) := hD
  refine lv_aload_n hx hb dX2_say_47 rfl (lv_at hl 0 rfl) ?_
  refine va_get (D := (dC, dI)) (ci := 2) (v := .int (nI 3)) (C := RX2) (T := TX2) (N := 11) hx hb hts inX2 hown hK hP 0 rfl rfl 0 (by decide) (hts _ q_fl_X2_29) (fun _ h9 => h9) rfl dX2_say_48 ?_
  refine ifN_le (tgt := 56) hx hb dX2_say_51 (by decide) (by omega) (fun c_51 => absurd c_51 (by decide)) (fun c_51 => ?_)
  refine lv_iconst (v := nI 0) hx hb dX2_say_54 (by decide) ?_
  exact ret _ (mW cI cZ m0 m1 m2 m3 m4 m5 m6 3 n bg tn sl ht sn o nx kp ow) _ _ _ _ dX2_say_55 rfl ⟨rfl, rfl⟩ (List.Perm.refl _) hP hS

set_option maxHeartbeats 4000000 in
set_option maxRecDepth 100000 in
theorem m_X2_sayAtLeast (m0 m1 m2 m3 m4 m5 m6 th n : Nat) (bg : Bool) (tn sl : Nat) (ht sn : Nat → Nat) (o nx kp : Nat → Bool) (ow : Nat → Nat) (co many : Nat) (hn : n ≤ 5) (hsn : ∀ p, p < 5 → sn p < 32) (hht : ∀ p, p < 5 → ht p < 3) (hco : co < 3) (hm : many < 6) (hok : isM n (realN ht n) co many true = true) : Mi l yX2_sayAtLeast ws_X2_sayAtLeast 4 93 (dC, dI) (tyL cI cZ cJ) [.ref m0, .int (nI co), .int (nI many)] (mW cI cZ m0 m1 m2 m3 m4 m5 m6 th n bg tn sl ht sn o nx kp ow) (fun r u => r = nI (cntP (mix (fun w => o w && isM n w co many true) o (3 ^ n)) (3 ^ n)) ∧ u = mW cI cZ m0 m1 m2 m3 m4 m5 m6 0 n true tn sl ht sn (mix (fun w => o w && isM n w co many true) o (3 ^ n)) nx kp ow) := by
  refine Mi_of (by decide +kernel) (Nat.le_of_ble_eq_true rfl) ?_
  intro pr ev sx mi ag bl me cd Q ls S hP hK hD hZ hl ret
  obtain ⟨hx, hb, hml, hown, hts⟩ := id S
  have hown : sx.vm.findClass RX2 = some mi.cls := hown
  have hS : va_S (wIn (mW cI cZ m0 m1 m2 m3 m4 m5 m6 th n bg tn sl ht sn o nx kp ow)) sx.heap sx.heap [] := va_S.rf
  have hl : lv_has ls 3 [(0, .ref m0), (1, .int (nI co)), (2, .int (nI many))] := hl
  refine lv_aload_n hx hb dX2_sayAtLeast_0 rfl (lv_at hl 0 rfl) ?_
  refine lv_iload_n hx hb dX2_sayAtLeast_1 rfl (lv_at hl 1 rfl) ?_
  refine lv_iload_n hx hb dX2_sayAtLeast_2 rfl (lv_at hl 2 rfl) ?_
  refine lv_iconst (v := nI 1) hx hb dX2_sayAtLeast_3 (by decide) ?_
  refine W_i (y := bI true) (rfl) ?_
  refine call_Vi (As := [.int (nI co), .int (nI many), .int (bI true)]) (wr := []) (rest := []) S (m_X2_say m0 m1 m2 m3 m4 m5 m6 th n bg tn sl ht sn o nx kp ow co many true hn hsn hht hco hm hok) g_X2_X2_say hd_X2_say ⟨Nat.le_of_ble_eq_true rfl, Nat.le_of_ble_eq_true rfl⟩ ⟨Nat.zero_le _, Nat.zero_le _⟩ hP hD hK hS hZ [0, 1, 2, 3, 4, 5, 6] [] rfl rfl (by decide) 0 rfl rfl hl.1 rfl (Nat.le_of_ble_eq_true rfl) dX2_sayAtLeast_4 (fun r u H locs hq hP hD hS => ?_)
  obtain ⟨rfl, rfl⟩ := hq
  have hP : va_P (dC, dI) vwCl (mW cI cZ m0 m1 m2 m3 m4 m5 m6 0 n true tn sl ht sn (mix (fun w => o w && isM n w co many true) o (3 ^ n)) nx kp ow) H := hP
  have hD : va_D (wIn (mW cI cZ m0 m1 m2 m3 m4 m5 m6 th n bg tn sl ht sn o nx kp ow)) (mW cI cZ m0 m1 m2 m3 m4 m5 m6 0 n true tn sl ht sn (mix (fun w => o w && isM n w co many true) o (3 ^ n)) nx kp ow) := hD
  exact ret _ (mW cI cZ m0 m1 m2 m3 m4 m5 m6 0 n true tn sl ht sn (mix (fun w => o w && isM n w co many true) o (3 ^ n)) nx kp ow) _ _ _ _ dX2_sayAtLeast_7 rfl ⟨rfl, rfl⟩ (List.Perm.refl _) hP hS

set_option maxHeartbeats 4000000 in
set_option maxRecDepth 100000 in
theorem mf_X2_sayAtLeast_a (m0 m1 m2 m3 m4 m5 m6 th n : Nat) (bg : Bool) (tn sl : Nat) (ht sn : Nat → Nat) (o nx kp : Nat → Bool) (ow : Nat → Nat) (a0 a1 : Int32) (ha0 : ∀ j, j < 3 → a0 ≠ nI j) (hn : n ≤ 5) (hsn : ∀ p, p < 5 → sn p < 32) (hht : ∀ p, p < 5 → ht p < 3) : Mi l yX2_sayAtLeast ws_X2_sayAtLeast 3 66 (dC, dI) (tyL cI cZ cJ) [.ref m0, .int a0, .int a1] (mW cI cZ m0 m1 m2 m3 m4 m5 m6 th n bg tn sl ht sn o nx kp ow) (fun r u => r = nI 0 ∧ u = mW cI cZ m0 m1 m2 m3 m4 m5 m6 1 n bg tn sl ht sn o nx kp ow) := by
  refine Mi_of (by decide +kernel) (Nat.le_of_ble_eq_true rfl) ?_
  intro pr ev sx mi ag bl me cd Q ls S hP hK hD hZ hl ret
  obtain ⟨hx, hb, hml, hown, hts⟩ := id S
  have hown : sx.vm.findClass RX2 = some mi.cls := hown
  have hS : va_S (wIn (mW cI cZ m0 m1 m2 m3 m4 m5 m6 th n bg tn sl ht sn o nx kp ow)) sx.heap sx.heap [] := va_S.rf
  have hl : lv_has ls 3 [(0, .ref m0), (1, .int a0), (2, .int a1)] := hl
  refine lv_aload_n hx hb dX2_sayAtLeast_0 rfl (lv_at hl 0 rfl) ?_
  refine lv_iload_n hx hb dX2_sayAtLeast_1 rfl (lv_at hl 1 rfl) ?_
  refine lv_iload_n hx hb dX2_sayAtLeast_2 rfl (lv_at hl 2 rfl) ?_
  refine lv_iconst (v := nI 1) hx hb dX2_sayAtLeast_3 (by decide) ?_
  refine W_i (y := bI true) (rfl) ?_
  refine call_Vi (As := [.int a0, .int a1, .int (bI true)]) (wr := []) (rest := []) S (mf_X2_say_a m0 m1 m2 m3 m4 m5 m6 th n bg tn sl ht sn o nx kp ow a0 a1 true ha0 hn hsn hht) g_X2_X2_say hd_X2_say ⟨Nat.le_of_ble_eq_true rfl, Nat.le_of_ble_eq_true rfl⟩ ⟨Nat.zero_le _, Nat.zero_le _⟩ hP hD hK hS hZ [0, 1, 2, 3, 4, 5, 6] [] rfl rfl (by decide) 0 rfl rfl hl.1 rfl (Nat.le_of_ble_eq_true rfl) dX2_sayAtLeast_4 (fun r u H locs hq hP hD hS => ?_)
  obtain ⟨rfl, rfl⟩ := hq
  have hP : va_P (dC, dI) vwCl (mW cI cZ m0 m1 m2 m3 m4 m5 m6 1 n bg tn sl ht sn o nx kp ow) H := hP
  have hD : va_D (wIn (mW cI cZ m0 m1 m2 m3 m4 m5 m6 th n bg tn sl ht sn o nx kp ow)) (mW cI cZ m0 m1 m2 m3 m4 m5 m6 1 n bg tn sl ht sn o nx kp ow) := hD
  exact ret _ (mW cI cZ m0 m1 m2 m3 m4 m5 m6 1 n bg tn sl ht sn o nx kp ow) _ _ _ _ dX2_sayAtLeast_7 rfl ⟨rfl, rfl⟩ (List.Perm.refl _) hP hS

set_option maxHeartbeats 4000000 in
set_option maxRecDepth 100000 in
theorem mf_X2_sayAtLeast_b (m0 m1 m2 m3 m4 m5 m6 th n : Nat) (bg : Bool) (tn sl : Nat) (ht sn : Nat → Nat) (o nx kp : Nat → Bool) (ow : Nat → Nat) (co : Nat) (a1 : Int32) (hco : co < 3) (ha1 : ∀ j, j < 6 → a1 ≠ nI j) (hn : n ≤ 5) (hsn : ∀ p, p < 5 → sn p < 32) (hht : ∀ p, p < 5 → ht p < 3) : Mi l yX2_sayAtLeast ws_X2_sayAtLeast 3 66 (dC, dI) (tyL cI cZ cJ) [.ref m0, .int (nI co), .int a1] (mW cI cZ m0 m1 m2 m3 m4 m5 m6 th n bg tn sl ht sn o nx kp ow) (fun r u => r = nI 0 ∧ u = mW cI cZ m0 m1 m2 m3 m4 m5 m6 2 n bg tn sl ht sn o nx kp ow) := by
  refine Mi_of (by decide +kernel) (Nat.le_of_ble_eq_true rfl) ?_
  intro pr ev sx mi ag bl me cd Q ls S hP hK hD hZ hl ret
  obtain ⟨hx, hb, hml, hown, hts⟩ := id S
  have hown : sx.vm.findClass RX2 = some mi.cls := hown
  have hS : va_S (wIn (mW cI cZ m0 m1 m2 m3 m4 m5 m6 th n bg tn sl ht sn o nx kp ow)) sx.heap sx.heap [] := va_S.rf
  have hl : lv_has ls 3 [(0, .ref m0), (1, .int (nI co)), (2, .int a1)] := hl
  refine lv_aload_n hx hb dX2_sayAtLeast_0 rfl (lv_at hl 0 rfl) ?_
  refine lv_iload_n hx hb dX2_sayAtLeast_1 rfl (lv_at hl 1 rfl) ?_
  refine lv_iload_n hx hb dX2_sayAtLeast_2 rfl (lv_at hl 2 rfl) ?_
  refine lv_iconst (v := nI 1) hx hb dX2_sayAtLeast_3 (by decide) ?_
  refine W_i (y := bI true) (rfl) ?_
  refine call_Vi (As := [.int (nI co), .int a1, .int (bI true)]) (wr := []) (rest := []) S (mf_X2_say_b m0 m1 m2 m3 m4 m5 m6 th n bg tn sl ht sn o nx kp ow co a1 true hco ha1 hn hsn hht) g_X2_X2_say hd_X2_say ⟨Nat.le_of_ble_eq_true rfl, Nat.le_of_ble_eq_true rfl⟩ ⟨Nat.zero_le _, Nat.zero_le _⟩ hP hD hK hS hZ [0, 1, 2, 3, 4, 5, 6] [] rfl rfl (by decide) 0 rfl rfl hl.1 rfl (Nat.le_of_ble_eq_true rfl) dX2_sayAtLeast_4 (fun r u H locs hq hP hD hS => ?_)
  obtain ⟨rfl, rfl⟩ := hq
  have hP : va_P (dC, dI) vwCl (mW cI cZ m0 m1 m2 m3 m4 m5 m6 2 n bg tn sl ht sn o nx kp ow) H := hP
  have hD : va_D (wIn (mW cI cZ m0 m1 m2 m3 m4 m5 m6 th n bg tn sl ht sn o nx kp ow)) (mW cI cZ m0 m1 m2 m3 m4 m5 m6 2 n bg tn sl ht sn o nx kp ow) := hD
  exact ret _ (mW cI cZ m0 m1 m2 m3 m4 m5 m6 2 n bg tn sl ht sn o nx kp ow) _ _ _ _ dX2_sayAtLeast_7 rfl ⟨rfl, rfl⟩ (List.Perm.refl _) hP hS

set_option maxHeartbeats 4000000 in
set_option maxRecDepth 100000 in
theorem mf_X2_sayAtLeast_c (m0 m1 m2 m3 m4 m5 m6 th n : Nat) (bg : Bool) (tn sl : Nat) (ht sn : Nat → Nat) (o nx kp : Nat → Bool) (ow : Nat → Nat) (co many : Nat) (hco : co < 3) (hm : many < 6) (hok : isM n (realN ht n) co many true = false) (hn : n ≤ 5) (hsn : ∀ p, p < 5 → sn p < 32) (hht : ∀ p, p < 5 → ht p < 3) : Mi l yX2_sayAtLeast ws_X2_sayAtLeast 4 93 (dC, dI) (tyL cI cZ cJ) [.ref m0, .int (nI co), .int (nI many)] (mW cI cZ m0 m1 m2 m3 m4 m5 m6 th n bg tn sl ht sn o nx kp ow) (fun r u => r = nI 0 ∧ u = mW cI cZ m0 m1 m2 m3 m4 m5 m6 3 n bg tn sl ht sn o nx kp ow) := by
  refine Mi_of (by decide +kernel) (Nat.le_of_ble_eq_true rfl) ?_
  intro pr ev sx mi ag bl me cd Q ls S hP hK hD hZ hl ret
  obtain ⟨hx, hb, hml, hown, hts⟩ := id S
  have hown : sx.vm.findClass RX2 = some mi.cls := hown
  have hS : va_S (wIn (mW cI cZ m0 m1 m2 m3 m4 m5 m6 th n bg tn sl ht sn o nx kp ow)) sx.heap sx.heap [] := va_S.rf
  have hl : lv_has ls 3 [(0, .ref m0), (1, .int (nI co)), (2, .int (nI many))] := hl
  refine lv_aload_n hx hb dX2_sayAtLeast_0 rfl (lv_at hl 0 rfl) ?_
  refine lv_iload_n hx hb dX2_sayAtLeast_1 rfl (lv_at hl 1 rfl) ?_
  refine lv_iload_n hx hb dX2_sayAtLeast_2 rfl (lv_at hl 2 rfl) ?_
  refine lv_iconst (v := nI 1) hx hb dX2_sayAtLeast_3 (by decide) ?_
  refine W_i (y := bI true) (rfl) ?_
  refine call_Vi (As := [.int (nI co), .int (nI many), .int (bI true)]) (wr := []) (rest := []) S (mf_X2_say_c m0 m1 m2 m3 m4 m5 m6 th n bg tn sl ht sn o nx kp ow co many true hco hm hok hn hsn hht) g_X2_X2_say hd_X2_say ⟨Nat.le_of_ble_eq_true rfl, Nat.le_of_ble_eq_true rfl⟩ ⟨Nat.zero_le _, Nat.zero_le _⟩ hP hD hK hS hZ [0, 1, 2, 3, 4, 5, 6] [] rfl rfl (by decide) 0 rfl rfl hl.1 rfl (Nat.le_of_ble_eq_true rfl) dX2_sayAtLeast_4 (fun r u H locs hq hP hD hS => ?_)
  obtain ⟨rfl, rfl⟩ := hq
  have hP : va_P (dC, dI) vwCl (mW cI cZ m0 m1 m2 m3 m4 m5 m6 3 n bg tn sl ht sn o nx kp ow) H := hP
  have hD : va_D (wIn (mW cI cZ m0 m1 m2 m3 m4 m5 m6 th n bg tn sl ht sn o nx kp ow)) (mW cI cZ m0 m1 m2 m3 m4 m5 m6 3 n bg tn sl ht sn o nx kp ow) := hD
  exact ret _ (mW cI cZ m0 m1 m2 m3 m4 m5 m6 3 n bg tn sl ht sn o nx kp ow) _ _ _ _ dX2_sayAtLeast_7 rfl ⟨rfl, rfl⟩ (List.Perm.refl _) hP hS

set_option maxHeartbeats 4000000 in
set_option maxRecDepth 100000 in
theorem m_X2_sayAtMost (m0 m1 m2 m3 m4 m5 m6 th n : Nat) (bg : Bool) (tn sl : Nat) (ht sn : Nat → Nat) (o nx kp : Nat → Bool) (ow : Nat → Nat) (co many : Nat) (hn : n ≤ 5) (hsn : ∀ p, p < 5 → sn p < 32) (hht : ∀ p, p < 5 → ht p < 3) (hco : co < 3) (hm : many < 6) (hok : isM n (realN ht n) co many false = true) : Mi l yX2_sayAtMost ws_X2_sayAtMost 4 93 (dC, dI) (tyL cI cZ cJ) [.ref m0, .int (nI co), .int (nI many)] (mW cI cZ m0 m1 m2 m3 m4 m5 m6 th n bg tn sl ht sn o nx kp ow) (fun r u => r = nI (cntP (mix (fun w => o w && isM n w co many false) o (3 ^ n)) (3 ^ n)) ∧ u = mW cI cZ m0 m1 m2 m3 m4 m5 m6 0 n true tn sl ht sn (mix (fun w => o w && isM n w co many false) o (3 ^ n)) nx kp ow) := by
  refine Mi_of (by decide +kernel) (Nat.le_of_ble_eq_true rfl) ?_
  intro pr ev sx mi ag bl me cd Q ls S hP hK hD hZ hl ret
  obtain ⟨hx, hb, hml, hown, hts⟩ := id S
  have hown : sx.vm.findClass RX2 = some mi.cls := hown
  have hS : va_S (wIn (mW cI cZ m0 m1 m2 m3 m4 m5 m6 th n bg tn sl ht sn o nx kp ow)) sx.heap sx.heap [] := va_S.rf
  have hl : lv_has ls 3 [(0, .ref m0), (1, .int (nI co)), (2, .int (nI many))] := hl
  refine lv_aload_n hx hb dX2_sayAtMost_0 rfl (lv_at hl 0 rfl) ?_
  refine lv_iload_n hx hb dX2_sayAtMost_1 rfl (lv_at hl 1 rfl) ?_
  refine lv_iload_n hx hb dX2_sayAtMost_2 rfl (lv_at hl 2 rfl) ?_
  refine lv_iconst (v := nI 0) hx hb dX2_sayAtMost_3 (by decide) ?_
  refine W_i (y := bI false) (rfl) ?_
  refine call_Vi (As := [.int (nI co), .int (nI many), .int (bI false)]) (wr := []) (rest := []) S (m_X2_say m0 m1 m2 m3 m4 m5 m6 th n bg tn sl ht sn o nx kp ow co many false hn hsn hht hco hm hok) g_X2_X2_say hd_X2_say ⟨Nat.le_of_ble_eq_true rfl, Nat.le_of_ble_eq_true rfl⟩ ⟨Nat.zero_le _, Nat.zero_le _⟩ hP hD hK hS hZ [0, 1, 2, 3, 4, 5, 6] [] rfl rfl (by decide) 0 rfl rfl hl.1 rfl (Nat.le_of_ble_eq_true rfl) dX2_sayAtMost_4 (fun r u H locs hq hP hD hS => ?_)
  obtain ⟨rfl, rfl⟩ := hq
  have hP : va_P (dC, dI) vwCl (mW cI cZ m0 m1 m2 m3 m4 m5 m6 0 n true tn sl ht sn (mix (fun w => o w && isM n w co many false) o (3 ^ n)) nx kp ow) H := hP
  have hD : va_D (wIn (mW cI cZ m0 m1 m2 m3 m4 m5 m6 th n bg tn sl ht sn o nx kp ow)) (mW cI cZ m0 m1 m2 m3 m4 m5 m6 0 n true tn sl ht sn (mix (fun w => o w && isM n w co many false) o (3 ^ n)) nx kp ow) := hD
  exact ret _ (mW cI cZ m0 m1 m2 m3 m4 m5 m6 0 n true tn sl ht sn (mix (fun w => o w && isM n w co many false) o (3 ^ n)) nx kp ow) _ _ _ _ dX2_sayAtMost_7 rfl ⟨rfl, rfl⟩ (List.Perm.refl _) hP hS

set_option maxHeartbeats 4000000 in
set_option maxRecDepth 100000 in
theorem mf_X2_sayAtMost_a (m0 m1 m2 m3 m4 m5 m6 th n : Nat) (bg : Bool) (tn sl : Nat) (ht sn : Nat → Nat) (o nx kp : Nat → Bool) (ow : Nat → Nat) (a0 a1 : Int32) (ha0 : ∀ j, j < 3 → a0 ≠ nI j) (hn : n ≤ 5) (hsn : ∀ p, p < 5 → sn p < 32) (hht : ∀ p, p < 5 → ht p < 3) : Mi l yX2_sayAtMost ws_X2_sayAtMost 3 66 (dC, dI) (tyL cI cZ cJ) [.ref m0, .int a0, .int a1] (mW cI cZ m0 m1 m2 m3 m4 m5 m6 th n bg tn sl ht sn o nx kp ow) (fun r u => r = nI 0 ∧ u = mW cI cZ m0 m1 m2 m3 m4 m5 m6 1 n bg tn sl ht sn o nx kp ow) := by
  refine Mi_of (by decide +kernel) (Nat.le_of_ble_eq_true rfl) ?_
  intro pr ev sx mi ag bl me cd Q ls S hP hK hD hZ hl ret
  obtain ⟨hx, hb, hml, hown, hts⟩ := id S
  have hown : sx.vm.findClass RX2 = some mi.cls := hown
  have hS : va_S (wIn (mW cI cZ m0 m1 m2 m3 m4 m5 m6 th n bg tn sl ht sn o nx kp ow)) sx.heap sx.heap [] := va_S.rf
  have hl : lv_has ls 3 [(0, .ref m0), (1, .int a0), (2, .int a1)] := hl
  refine lv_aload_n hx hb dX2_sayAtMost_0 rfl (lv_at hl 0 rfl) ?_
  refine lv_iload_n hx hb dX2_sayAtMost_1 rfl (lv_at hl 1 rfl) ?_
  refine lv_iload_n hx hb dX2_sayAtMost_2 rfl (lv_at hl 2 rfl) ?_
  refine lv_iconst (v := nI 0) hx hb dX2_sayAtMost_3 (by decide) ?_
  refine W_i (y := bI false) (rfl) ?_
  refine call_Vi (As := [.int a0, .int a1, .int (bI false)]) (wr := []) (rest := []) S (mf_X2_say_a m0 m1 m2 m3 m4 m5 m6 th n bg tn sl ht sn o nx kp ow a0 a1 false ha0 hn hsn hht) g_X2_X2_say hd_X2_say ⟨Nat.le_of_ble_eq_true rfl, Nat.le_of_ble_eq_true rfl⟩ ⟨Nat.zero_le _, Nat.zero_le _⟩ hP hD hK hS hZ [0, 1, 2, 3, 4, 5, 6] [] rfl rfl (by decide) 0 rfl rfl hl.1 rfl (Nat.le_of_ble_eq_true rfl) dX2_sayAtMost_4 (fun r u H locs hq hP hD hS => ?_)
  obtain ⟨rfl, rfl⟩ := hq
  have hP : va_P (dC, dI) vwCl (mW cI cZ m0 m1 m2 m3 m4 m5 m6 1 n bg tn sl ht sn o nx kp ow) H := hP
  have hD : va_D (wIn (mW cI cZ m0 m1 m2 m3 m4 m5 m6 th n bg tn sl ht sn o nx kp ow)) (mW cI cZ m0 m1 m2 m3 m4 m5 m6 1 n bg tn sl ht sn o nx kp ow) := hD
  exact ret _ (mW cI cZ m0 m1 m2 m3 m4 m5 m6 1 n bg tn sl ht sn o nx kp ow) _ _ _ _ dX2_sayAtMost_7 rfl ⟨rfl, rfl⟩ (List.Perm.refl _) hP hS

set_option maxHeartbeats 4000000 in
set_option maxRecDepth 100000 in
theorem mf_X2_sayAtMost_b (m0 m1 m2 m3 m4 m5 m6 th n : Nat) (bg : Bool) (tn sl : Nat) (ht sn : Nat → Nat) (o nx kp : Nat → Bool) (ow : Nat → Nat) (co : Nat) (a1 : Int32) (hco : co < 3) (ha1 : ∀ j, j < 6 → a1 ≠ nI j) (hn : n ≤ 5) (hsn : ∀ p, p < 5 → sn p < 32) (hht : ∀ p, p < 5 → ht p < 3) : Mi l yX2_sayAtMost ws_X2_sayAtMost 3 66 (dC, dI) (tyL cI cZ cJ) [.ref m0, .int (nI co), .int a1] (mW cI cZ m0 m1 m2 m3 m4 m5 m6 th n bg tn sl ht sn o nx kp ow) (fun r u => r = nI 0 ∧ u = mW cI cZ m0 m1 m2 m3 m4 m5 m6 2 n bg tn sl ht sn o nx kp ow) := by
  refine Mi_of (by decide +kernel) (Nat.le_of_ble_eq_true rfl) ?_
  intro pr ev sx mi ag bl me cd Q ls S hP hK hD hZ hl ret
  obtain ⟨hx, hb, hml, hown, hts⟩ := id S
  have hown : sx.vm.findClass RX2 = some mi.cls := hown
  have hS : va_S (wIn (mW cI cZ m0 m1 m2 m3 m4 m5 m6 th n bg tn sl ht sn o nx kp ow)) sx.heap sx.heap [] := va_S.rf
  have hl : lv_has ls 3 [(0, .ref m0), (1, .int (nI co)), (2, .int a1)] := hl
  refine lv_aload_n hx hb dX2_sayAtMost_0 rfl (lv_at hl 0 rfl) ?_
  refine lv_iload_n hx hb dX2_sayAtMost_1 rfl (lv_at hl 1 rfl) ?_
  refine lv_iload_n hx hb dX2_sayAtMost_2 rfl (lv_at hl 2 rfl) ?_
  refine lv_iconst (v := nI 0) hx hb dX2_sayAtMost_3 (by decide) ?_
  refine W_i (y := bI false) (rfl) ?_
  refine call_Vi (As := [.int (nI co), .int a1, .int (bI false)]) (wr := []) (rest := []) S (mf_X2_say_b m0 m1 m2 m3 m4 m5 m6 th n bg tn sl ht sn o nx kp ow co a1 false hco ha1 hn hsn hht) g_X2_X2_say hd_X2_say ⟨Nat.le_of_ble_eq_true rfl, Nat.le_of_ble_eq_true rfl⟩ ⟨Nat.zero_le _, Nat.zero_le _⟩ hP hD hK hS hZ [0, 1, 2, 3, 4, 5, 6] [] rfl rfl (by decide) 0 rfl rfl hl.1 rfl (Nat.le_of_ble_eq_true rfl) dX2_sayAtMost_4 (fun r u H locs hq hP hD hS => ?_)
  obtain ⟨rfl, rfl⟩ := hq
  have hP : va_P (dC, dI) vwCl (mW cI cZ m0 m1 m2 m3 m4 m5 m6 2 n bg tn sl ht sn o nx kp ow) H := hP
  have hD : va_D (wIn (mW cI cZ m0 m1 m2 m3 m4 m5 m6 th n bg tn sl ht sn o nx kp ow)) (mW cI cZ m0 m1 m2 m3 m4 m5 m6 2 n bg tn sl ht sn o nx kp ow) := hD
  exact ret _ (mW cI cZ m0 m1 m2 m3 m4 m5 m6 2 n bg tn sl ht sn o nx kp ow) _ _ _ _ dX2_sayAtMost_7 rfl ⟨rfl, rfl⟩ (List.Perm.refl _) hP hS

set_option maxHeartbeats 4000000 in
set_option maxRecDepth 100000 in
theorem mf_X2_sayAtMost_c (m0 m1 m2 m3 m4 m5 m6 th n : Nat) (bg : Bool) (tn sl : Nat) (ht sn : Nat → Nat) (o nx kp : Nat → Bool) (ow : Nat → Nat) (co many : Nat) (hco : co < 3) (hm : many < 6) (hok : isM n (realN ht n) co many false = false) (hn : n ≤ 5) (hsn : ∀ p, p < 5 → sn p < 32) (hht : ∀ p, p < 5 → ht p < 3) : Mi l yX2_sayAtMost ws_X2_sayAtMost 4 93 (dC, dI) (tyL cI cZ cJ) [.ref m0, .int (nI co), .int (nI many)] (mW cI cZ m0 m1 m2 m3 m4 m5 m6 th n bg tn sl ht sn o nx kp ow) (fun r u => r = nI 0 ∧ u = mW cI cZ m0 m1 m2 m3 m4 m5 m6 3 n bg tn sl ht sn o nx kp ow) := by
  refine Mi_of (by decide +kernel) (Nat.le_of_ble_eq_true rfl) ?_
  intro pr ev sx mi ag bl me cd Q ls S hP hK hD hZ hl ret
  obtain ⟨hx, hb, hml, hown, hts⟩ := id S
  have hown : sx.vm.findClass RX2 = some mi.cls := hown
  have hS : va_S (wIn (mW cI cZ m0 m1 m2 m3 m4 m5 m6 th n bg tn sl ht sn o nx kp ow)) sx.heap sx.heap [] := va_S.rf
  have hl : lv_has ls 3 [(0, .ref m0), (1, .int (nI co)), (2, .int (nI many))] := hl
  refine lv_aload_n hx hb dX2_sayAtMost_0 rfl (lv_at hl 0 rfl) ?_
  refine lv_iload_n hx hb dX2_sayAtMost_1 rfl (lv_at hl 1 rfl) ?_
  refine lv_iload_n hx hb dX2_sayAtMost_2 rfl (lv_at hl 2 rfl) ?_
  refine lv_iconst (v := nI 0) hx hb dX2_sayAtMost_3 (by decide) ?_
  refine W_i (y := bI false) (rfl) ?_
  refine call_Vi (As := [.int (nI co), .int (nI many), .int (bI false)]) (wr := []) (rest := []) S (mf_X2_say_c m0 m1 m2 m3 m4 m5 m6 th n bg tn sl ht sn o nx kp ow co many false hco hm hok hn hsn hht) g_X2_X2_say hd_X2_say ⟨Nat.le_of_ble_eq_true rfl, Nat.le_of_ble_eq_true rfl⟩ ⟨Nat.zero_le _, Nat.zero_le _⟩ hP hD hK hS hZ [0, 1, 2, 3, 4, 5, 6] [] rfl rfl (by decide) 0 rfl rfl hl.1 rfl (Nat.le_of_ble_eq_true rfl) dX2_sayAtMost_4 (fun r u H locs hq hP hD hS => ?_)
  obtain ⟨rfl, rfl⟩ := hq
  have hP : va_P (dC, dI) vwCl (mW cI cZ m0 m1 m2 m3 m4 m5 m6 3 n bg tn sl ht sn o nx kp ow) H := hP
  have hD : va_D (wIn (mW cI cZ m0 m1 m2 m3 m4 m5 m6 th n bg tn sl ht sn o nx kp ow)) (mW cI cZ m0 m1 m2 m3 m4 m5 m6 3 n bg tn sl ht sn o nx kp ow) := hD
  exact ret _ (mW cI cZ m0 m1 m2 m3 m4 m5 m6 3 n bg tn sl ht sn o nx kp ow) _ _ _ _ dX2_sayAtMost_7 rfl ⟨rfl, rfl⟩ (List.Perm.refl _) hP hS

set_option maxHeartbeats 4000000 in
set_option maxRecDepth 100000 in
theorem m_X2_areTwo (m0 m1 m2 m3 m4 m5 m6 th n : Nat) (bg : Bool) (tn sl : Nat) (ht sn : Nat → Nat) (o nx kp : Nat → Bool) (ow : Nat → Nat) (j k : Nat) (hn : n ≤ 5) (hj : j < n) (hk : k < n) (hjk : j ≠ k) : Mi l yX2_areTwo ws_X2_areTwo 2 43 (dC, dI) (tyL cI cZ cJ) [.ref m0, .int (nI j), .int (nI k)] (mW cI cZ m0 m1 m2 m3 m4 m5 m6 th n bg tn sl ht sn o nx kp ow) (fun r u => r = nI 1 ∧ u = mW cI cZ m0 m1 m2 m3 m4 m5 m6 0 n bg tn sl ht sn o nx kp ow) := by
  refine Mi_of (by decide +kernel) (Nat.le_of_ble_eq_true rfl) ?_
  intro pr ev sx mi ag bl me cd Q ls S hP hK hD hZ hl ret
  obtain ⟨hx, hb, hml, hown, hts⟩ := id S
  have hown : sx.vm.findClass RX2 = some mi.cls := hown
  have hS : va_S (wIn (mW cI cZ m0 m1 m2 m3 m4 m5 m6 th n bg tn sl ht sn o nx kp ow)) sx.heap sx.heap [] := va_S.rf
  have hl : lv_has ls 3 [(0, .ref m0), (1, .int (nI j)), (2, .int (nI k))] := hl
  refine lv_aload_n hx hb dX2_areTwo_0 rfl (lv_at hl 0 rfl) ?_
  refine lv_aload_n hx hb dX2_areTwo_1 rfl (lv_at hl 0 rfl) ?_
  refine lv_iload_n hx hb dX2_areTwo_2 rfl (lv_at hl 1 rfl) ?_
  refine call_Vp (As := [.int (nI j)]) (rest := [.ref m0]) S (m_X2_isPlayer_t m0 m1 m2 m3 m4 m5 m6 th n bg tn sl ht sn o nx kp ow j hn (by omega)) g_X2_X2_isPlayer hd_X2_isPlayer ⟨Nat.le_of_ble_eq_true rfl, Nat.le_of_ble_eq_true rfl⟩ ⟨Nat.zero_le _, Nat.zero_le _⟩ hP hD hK hS hZ [0, 1, 2, 3, 4, 5, 6] rfl (by decide) 0 rfl rfl hl.1 rfl (Nat.le_of_ble_eq_true rfl) dX2_areTwo_3 (fun r H locs hq hP hS => ?_)
  obtain rfl := hq
  refine ifB_eq (tgt := 17) hx hb dX2_areTwo_6 (by decide) (fun c_6 => absurd c_6 (by decide)) (fun c_6 => ?_)
  refine lv_aload_n hx hb dX2_areTwo_9 rfl (lv_at hl 0 rfl) ?_
  refine lv_iload_n hx hb dX2_areTwo_10 rfl (lv_at hl 2 rfl) ?_
  refine call_Vp (As := [.int (nI k)]) (rest := [.ref m0]) S (m_X2_isPlayer_t m0 m1 m2 m3 m4 m5 m6 th n bg tn sl ht sn o nx kp ow k hn (by omega)) g_X2_X2_isPlayer hd_X2_isPlayer ⟨Nat.le_of_ble_eq_true rfl, Nat.le_of_ble_eq_true rfl⟩ ⟨Nat.zero_le _, Nat.zero_le _⟩ hP hD hK hS hZ [0, 1, 2, 3, 4, 5, 6] rfl (by decide) 0 rfl rfl hl.1 rfl (Nat.le_of_ble_eq_true rfl) dX2_areTwo_11 (fun r H locs hq hP hS => ?_)
  obtain rfl := hq
  refine ifB_ne (tgt := 21) hx hb dX2_areTwo_14 (by decide) (fun c_14 => ?_) (fun c_14 => absurd c_14 (by decide))
  refine lv_iload_n hx hb dX2_areTwo_21 rfl (lv_at hl 1 rfl) ?_
  refine lv_iload_n hx hb dX2_areTwo_22 rfl (lv_at hl 2 rfl) ?_
  refine icN_ne (tgt := 30) hx hb dX2_areTwo_23 (by decide) (by omega) (by omega) (fun c_23 => ?_) (fun c_23 => absurd c_23 hjk)
  refine lv_iconst (v := nI 0) hx hb dX2_areTwo_30 (by decide) ?_
  refine va_put (D := (dC, dI)) (ci := 2) (v := .int (nI 0)) (ty := .int) (C := RX2) (T := TX2) (N := 11) hx hb hts inX2 tyX2 tyX2_ok nmX2 hown hK hP hD hS 0 rfl rfl 0 (by decide) (hts _ q_fl_X2_29) (fun _ h9 => h9) rfl (by decide +kernel) rfl rfl (Nat.le_of_ble_eq_true rfl) dX2_areTwo_31 (fun H locs hP hD hS => ?_)
  have hP : va_P (dC, dI) vwCl (mW cI cZ m0 m1 m2 m3 m4 m5 m6 0 n bg tn sl ht sn o nx kp ow) H := hP
  have hD : va_D (wIn (mW cI cZ m0 m1 m2 m3 m4 m5 m6 th n bg tn sl ht sn o nx kp ow)) (mW cI cZ m0 m1 m2 m3 m4 m5 m6 0 n bg tn sl ht sn o nx kp ow) := hD
  refine lv_aload_n hx hb dX2_areTwo_34 rfl (lv_at hl 0 rfl) ?_
  refine va_get (D := (dC, dI)) (ci := 2) (v := .int (nI 0)) (C := RX2) (T := TX2) (N := 11) hx hb hts inX2 hown hK hP 0 rfl rfl 0 (by decide) (hts _ q_fl_X2_29) (fun _ h9 => h9) rfl dX2_areTwo_35 ?_
  refine ifN_ne (tgt := 45) hx hb dX2_areTwo_38 (by decide) (by omega) (fun c_38 => absurd c_38 (by decide)) (fun c_38 => ?_)
  refine lv_iconst (v := nI 1) hx hb dX2_areTwo_41 (by decide) ?_
  refine lv_goto (tgt := 46) hx hb dX2_areTwo_42 (by decide) ?_
  exact ret _ (mW cI cZ m0 m1 m2 m3 m4 m5 m6 0 n bg tn sl ht sn o nx kp ow) _ _ _ _ dX2_areTwo_46 rfl ⟨rfl, rfl⟩ (List.Perm.refl _) hP hS

set_option maxHeartbeats 4000000 in
set_option maxRecDepth 100000 in
theorem mf_X2_areTwo_a (m0 m1 m2 m3 m4 m5 m6 th n : Nat) (bg : Bool) (tn sl : Nat) (ht sn : Nat → Nat) (o nx kp : Nat → Bool) (ow : Nat → Nat) (a0 a1 : Int32) (hn : n ≤ 5) (ha0 : ∀ j, j < n → a0 ≠ nI j) : Mi l yX2_areTwo ws_X2_areTwo 2 43 (dC, dI) (tyL cI cZ cJ) [.ref m0, .int a0, .int a1] (mW cI cZ m0 m1 m2 m3 m4 m5 m6 th n bg tn sl ht sn o nx kp ow) (fun r u => r = nI 0 ∧ u = mW cI cZ m0 m1 m2 m3 m4 m5 m6 1 n bg tn sl ht sn o nx kp ow) := by
  refine Mi_of (by decide +kernel) (Nat.le_of_ble_eq_true rfl) ?_
  intro pr ev sx mi ag bl me cd Q ls S hP hK hD hZ hl ret
  obtain ⟨hx, hb, hml, hown, hts⟩ := id S
  have hown : sx.vm.findClass RX2 = some mi.cls := hown
  have hS : va_S (wIn (mW cI cZ m0 m1 m2 m3 m4 m5 m6 th n bg tn sl ht sn o nx kp ow)) sx.heap sx.heap [] := va_S.rf
  have hl : lv_has ls 3 [(0, .ref m0), (1, .int a0), (2, .int a1)] := hl
  refine lv_aload_n hx hb dX2_areTwo_0 rfl (lv_at hl 0 rfl) ?_
  refine lv_aload_n hx hb dX2_areTwo_1 rfl (lv_at hl 0 rfl) ?_
  refine lv_iload_n hx hb dX2_areTwo_2 rfl (lv_at hl 1 rfl) ?_
  refine call_Vp (As := [.int a0]) (rest := [.ref m0]) S (m_X2_isPlayer_f m0 m1 m2 m3 m4 m5 m6 th n bg tn sl ht sn o nx kp ow a0 hn ha0) g_X2_X2_isPlayer hd_X2_isPlayer ⟨Nat.le_of_ble_eq_true rfl, Nat.le_of_ble_eq_true rfl⟩ ⟨Nat.zero_le _, Nat.zero_le _⟩ hP hD hK hS hZ [0, 1, 2, 3, 4, 5, 6] rfl (by decide) 0 rfl rfl hl.1 rfl (Nat.le_of_ble_eq_true rfl) dX2_areTwo_3 (fun r H locs hq hP hS => ?_)
  obtain rfl := hq
  refine ifB_eq (tgt := 17) hx hb dX2_areTwo_6 (by decide) (fun c_6 => ?_) (fun c_6 => absurd c_6 (by decide))
  refine lv_iconst (v := nI 1) hx hb dX2_areTwo_17 (by decide) ?_
  refine lv_goto (tgt := 31) hx hb dX2_areTwo_18 (by decide) ?_
  refine va_put (D := (dC, dI)) (ci := 2) (v := .int (nI 1)) (ty := .int) (C := RX2) (T := TX2) (N := 11) hx hb hts inX2 tyX2 tyX2_ok nmX2 hown hK hP hD hS 0 rfl rfl 0 (by decide) (hts _ q_fl_X2_29) (fun _ h9 => h9) rfl (by decide +kernel) rfl rfl (Nat.le_of_ble_eq_true rfl) dX2_areTwo_31 (fun H locs hP hD hS => ?_)
  have hP : va_P (dC, dI) vwCl (mW cI cZ m0 m1 m2 m3 m4 m5 m6 1 n bg tn sl ht sn o nx kp ow) H := hP
  have hD : va_D (wIn (mW cI cZ m0 m1 m2 m3 m4 m5 m6 th n bg tn sl ht sn o nx kp ow)) (mW cI cZ m0 m1 m2 m3 m4 m5 m6 1 n bg tn sl ht sn o nx kp ow) := hD
  refine lv_aload_n hx hb dX2_areTwo_34 rfl (lv_at hl 0 rfl) ?_
  refine va_get (D := (dC, dI)) (ci := 2) (v := .int (nI 1)) (C := RX2) (T := TX2) (N := 11) hx hb hts inX2 hown hK hP 0 rfl rfl 0 (by decide) (hts _ q_fl_X2_29) (fun _ h9 => h9) rfl dX2_areTwo_35 ?_
  refine ifN_ne (tgt := 45) hx hb dX2_areTwo_38 (by decide) (by omega) (fun c_38 => ?_) (fun c_38 => absurd c_38 (by decide))
  refine lv_iconst (v := nI 0) hx hb dX2_areTwo_45 (by decide) ?_
  exact ret _ (mW cI cZ m0 m1 m2 m3 m4 m5 m6 1 n bg tn sl ht sn o nx kp ow) _ _ _ _ dX2_areTwo_46 rfl ⟨rfl, rfl⟩ (List.Perm.refl _) hP hS

set_option maxHeartbeats 4000000 in
set_option maxRecDepth 100000 in
theorem mf_X2_areTwo_b (m0 m1 m2 m3 m4 m5 m6 th n : Nat) (bg : Bool) (tn sl : Nat) (ht sn : Nat → Nat) (o nx kp : Nat → Bool) (ow : Nat → Nat) (j : Nat) (a1 : Int32) (hn : n ≤ 5) (hj : j < n) (ha1 : ∀ j, j < n → a1 ≠ nI j) : Mi l yX2_areTwo ws_X2_areTwo 2 43 (dC, dI) (tyL cI cZ cJ) [.ref m0, .int (nI j), .int a1] (mW cI cZ m0 m1 m2 m3 m4 m5 m6 th n bg tn sl ht sn o nx kp ow) (fun r u => r = nI 0 ∧ u = mW cI cZ m0 m1 m2 m3 m4 m5 m6 1 n bg tn sl ht sn o nx kp ow) := by
  refine Mi_of (by decide +kernel) (Nat.le_of_ble_eq_true rfl) ?_
  intro pr ev sx mi ag bl me cd Q ls S hP hK hD hZ hl ret
  obtain ⟨hx, hb, hml, hown, hts⟩ := id S
  have hown : sx.vm.findClass RX2 = some mi.cls := hown
  have hS : va_S (wIn (mW cI cZ m0 m1 m2 m3 m4 m5 m6 th n bg tn sl ht sn o nx kp ow)) sx.heap sx.heap [] := va_S.rf
  have hl : lv_has ls 3 [(0, .ref m0), (1, .int (nI j)), (2, .int a1)] := hl
  refine lv_aload_n hx hb dX2_areTwo_0 rfl (lv_at hl 0 rfl) ?_
  refine lv_aload_n hx hb dX2_areTwo_1 rfl (lv_at hl 0 rfl) ?_
  refine lv_iload_n hx hb dX2_areTwo_2 rfl (lv_at hl 1 rfl) ?_
  refine call_Vp (As := [.int (nI j)]) (rest := [.ref m0]) S (m_X2_isPlayer_t m0 m1 m2 m3 m4 m5 m6 th n bg tn sl ht sn o nx kp ow j hn (by omega)) g_X2_X2_isPlayer hd_X2_isPlayer ⟨Nat.le_of_ble_eq_true rfl, Nat.le_of_ble_eq_true rfl⟩ ⟨Nat.zero_le _, Nat.zero_le _⟩ hP hD hK hS hZ [0, 1, 2, 3, 4, 5, 6] rfl (by decide) 0 rfl rfl hl.1 rfl (Nat.le_of_ble_eq_true rfl) dX2_areTwo_3 (fun r H locs hq hP hS => ?_)
  obtain rfl := hq
  refine ifB_eq (tgt := 17) hx hb dX2_areTwo_6 (by decide) (fun c_6 => absurd c_6 (by decide)) (fun c_6 => ?_)
  refine lv_aload_n hx hb dX2_areTwo_9 rfl (lv_at hl 0 rfl) ?_
  refine lv_iload_n hx hb dX2_areTwo_10 rfl (lv_at hl 2 rfl) ?_
  refine call_Vp (As := [.int a1]) (rest := [.ref m0]) S (m_X2_isPlayer_f m0 m1 m2 m3 m4 m5 m6 th n bg tn sl ht sn o nx kp ow a1 hn ha1) g_X2_X2_isPlayer hd_X2_isPlayer ⟨Nat.le_of_ble_eq_true rfl, Nat.le_of_ble_eq_true rfl⟩ ⟨Nat.zero_le _, Nat.zero_le _⟩ hP hD hK hS hZ [0, 1, 2, 3, 4, 5, 6] rfl (by decide) 0 rfl rfl hl.1 rfl (Nat.le_of_ble_eq_true rfl) dX2_areTwo_11 (fun r H locs hq hP hS => ?_)
  obtain rfl := hq
  refine ifB_ne (tgt := 21) hx hb dX2_areTwo_14 (by decide) (fun c_14 => absurd c_14 (by decide)) (fun c_14 => ?_)
  refine lv_iconst (v := nI 1) hx hb dX2_areTwo_17 (by decide) ?_
  refine lv_goto (tgt := 31) hx hb dX2_areTwo_18 (by decide) ?_
  refine va_put (D := (dC, dI)) (ci := 2) (v := .int (nI 1)) (ty := .int) (C := RX2) (T := TX2) (N := 11) hx hb hts inX2 tyX2 tyX2_ok nmX2 hown hK hP hD hS 0 rfl rfl 0 (by decide) (hts _ q_fl_X2_29) (fun _ h9 => h9) rfl (by decide +kernel) rfl rfl (Nat.le_of_ble_eq_true rfl) dX2_areTwo_31 (fun H locs hP hD hS => ?_)
  have hP : va_P (dC, dI) vwCl (mW cI cZ m0 m1 m2 m3 m4 m5 m6 1 n bg tn sl ht sn o nx kp ow) H := hP
  have hD : va_D (wIn (mW cI cZ m0 m1 m2 m3 m4 m5 m6 th n bg tn sl ht sn o nx kp ow)) (mW cI cZ m0 m1 m2 m3 m4 m5 m6 1 n bg tn sl ht sn o nx kp ow) := hD
  refine lv_aload_n hx hb dX2_areTwo_34 rfl (lv_at hl 0 rfl) ?_
  refine va_get (D := (dC, dI)) (ci := 2) (v := .int (nI 1)) (C := RX2) (T := TX2) (N := 11) hx hb hts inX2 hown hK hP 0 rfl rfl 0 (by decide) (hts _ q_fl_X2_29) (fun _ h9 => h9) rfl dX2_areTwo_35 ?_
  refine ifN_ne (tgt := 45) hx hb dX2_areTwo_38 (by decide) (by omega) (fun c_38 => ?_) (fun c_38 => absurd c_38 (by decide))
  refine lv_iconst (v := nI 0) hx hb dX2_areTwo_45 (by decide) ?_
  exact ret _ (mW cI cZ m0 m1 m2 m3 m4 m5 m6 1 n bg tn sl ht sn o nx kp ow) _ _ _ _ dX2_areTwo_46 rfl ⟨rfl, rfl⟩ (List.Perm.refl _) hP hS

set_option maxHeartbeats 4000000 in
set_option maxRecDepth 100000 in
theorem mf_X2_areTwo_c (m0 m1 m2 m3 m4 m5 m6 th n : Nat) (bg : Bool) (tn sl : Nat) (ht sn : Nat → Nat) (o nx kp : Nat → Bool) (ow : Nat → Nat) (j : Nat) (hn : n ≤ 5) (hj : j < n) : Mi l yX2_areTwo ws_X2_areTwo 2 43 (dC, dI) (tyL cI cZ cJ) [.ref m0, .int (nI j), .int (nI j)] (mW cI cZ m0 m1 m2 m3 m4 m5 m6 th n bg tn sl ht sn o nx kp ow) (fun r u => r = nI 0 ∧ u = mW cI cZ m0 m1 m2 m3 m4 m5 m6 2 n bg tn sl ht sn o nx kp ow) := by
  refine Mi_of (by decide +kernel) (Nat.le_of_ble_eq_true rfl) ?_
  intro pr ev sx mi ag bl me cd Q ls S hP hK hD hZ hl ret
  obtain ⟨hx, hb, hml, hown, hts⟩ := id S
  have hown : sx.vm.findClass RX2 = some mi.cls := hown
  have hS : va_S (wIn (mW cI cZ m0 m1 m2 m3 m4 m5 m6 th n bg tn sl ht sn o nx kp ow)) sx.heap sx.heap [] := va_S.rf
  have hl : lv_has ls 3 [(0, .ref m0), (1, .int (nI j)), (2, .int (nI j))] := hl
  refine lv_aload_n hx hb dX2_areTwo_0 rfl (lv_at hl 0 rfl) ?_
  refine lv_aload_n hx hb dX2_areTwo_1 rfl (lv_at hl 0 rfl) ?_
  refine lv_iload_n hx hb dX2_areTwo_2 rfl (lv_at hl 1 rfl) ?_
  refine call_Vp (As := [.int (nI j)]) (rest := [.ref m0]) S (m_X2_isPlayer_t m0 m1 m2 m3 m4 m5 m6 th n bg tn sl ht sn o nx kp ow j hn (by omega)) g_X2_X2_isPlayer hd_X2_isPlayer ⟨Nat.le_of_ble_eq_true rfl, Nat.le_of_ble_eq_true rfl⟩ ⟨Nat.zero_le _, Nat.zero_le _⟩ hP hD hK hS hZ [0, 1, 2, 3, 4, 5, 6] rfl (by decide) 0 rfl rfl hl.1 rfl (Nat.le_of_ble_eq_true rfl) dX2_areTwo_3 (fun r H locs hq hP hS => ?_)
  obtain rfl := hq
  refine ifB_eq (tgt := 17) hx hb dX2_areTwo_6 (by decide) (fun c_6 => absurd c_6 (by decide)) (fun c_6 => ?_)
  refine lv_aload_n hx hb dX2_areTwo_9 rfl (lv_at hl 0 rfl) ?_
  refine lv_iload_n hx hb dX2_areTwo_10 rfl (lv_at hl 2 rfl) ?_
  refine call_Vp (As := [.int (nI j)]) (rest := [.ref m0]) S (m_X2_isPlayer_t m0 m1 m2 m3 m4 m5 m6 th n bg tn sl ht sn o nx kp ow j hn (by omega)) g_X2_X2_isPlayer hd_X2_isPlayer ⟨Nat.le_of_ble_eq_true rfl, Nat.le_of_ble_eq_true rfl⟩ ⟨Nat.zero_le _, Nat.zero_le _⟩ hP hD hK hS hZ [0, 1, 2, 3, 4, 5, 6] rfl (by decide) 0 rfl rfl hl.1 rfl (Nat.le_of_ble_eq_true rfl) dX2_areTwo_11 (fun r H locs hq hP hS => ?_)
  obtain rfl := hq
  refine ifB_ne (tgt := 21) hx hb dX2_areTwo_14 (by decide) (fun c_14 => ?_) (fun c_14 => absurd c_14 (by decide))
  refine lv_iload_n hx hb dX2_areTwo_21 rfl (lv_at hl 1 rfl) ?_
  refine lv_iload_n hx hb dX2_areTwo_22 rfl (lv_at hl 2 rfl) ?_
  refine icN_ne (tgt := 30) hx hb dX2_areTwo_23 (by decide) (by omega) (by omega) (fun c_23 => absurd c_23 (fun q => q rfl)) (fun c_23 => ?_)
  refine lv_iconst (v := nI 2) hx hb dX2_areTwo_26 (by decide) ?_
  refine lv_goto (tgt := 31) hx hb dX2_areTwo_27 (by decide) ?_
  refine va_put (D := (dC, dI)) (ci := 2) (v := .int (nI 2)) (ty := .int) (C := RX2) (T := TX2) (N := 11) hx hb hts inX2 tyX2 tyX2_ok nmX2 hown hK hP hD hS 0 rfl rfl 0 (by decide) (hts _ q_fl_X2_29) (fun _ h9 => h9) rfl (by decide +kernel) rfl rfl (Nat.le_of_ble_eq_true rfl) dX2_areTwo_31 (fun H locs hP hD hS => ?_)
  have hP : va_P (dC, dI) vwCl (mW cI cZ m0 m1 m2 m3 m4 m5 m6 2 n bg tn sl ht sn o nx kp ow) H := hP
  have hD : va_D (wIn (mW cI cZ m0 m1 m2 m3 m4 m5 m6 th n bg tn sl ht sn o nx kp ow)) (mW cI cZ m0 m1 m2 m3 m4 m5 m6 2 n bg tn sl ht sn o nx kp ow) := hD
  refine lv_aload_n hx hb dX2_areTwo_34 rfl (lv_at hl 0 rfl) ?_
  refine va_get (D := (dC, dI)) (ci := 2) (v := .int (nI 2)) (C := RX2) (T := TX2) (N := 11) hx hb hts inX2 hown hK hP 0 rfl rfl 0 (by decide) (hts _ q_fl_X2_29) (fun _ h9 => h9) rfl dX2_areTwo_35 ?_
  refine ifN_ne (tgt := 45) hx hb dX2_areTwo_38 (by decide) (by omega) (fun c_38 => ?_) (fun c_38 => absurd c_38 (by decide))
  refine lv_iconst (v := nI 0) hx hb dX2_areTwo_45 (by decide) ?_
  exact ret _ (mW cI cZ m0 m1 m2 m3 m4 m5 m6 2 n bg tn sl ht sn o nx kp ow) _ _ _ _ dX2_areTwo_46 rfl ⟨rfl, rfl⟩ (List.Perm.refl _) hP hS

set_option maxHeartbeats 4000000 in
set_option maxRecDepth 100000 in
theorem mf_X2_turnAway_a (m0 m1 m2 m3 m4 m5 m6 th n : Nat) (bg : Bool) (tn sl : Nat) (ht sn : Nat → Nat) (o nx kp : Nat → Bool) (ow : Nat → Nat) (a0 a1 : Int32) (hn : n ≤ 5) (ha0 : ∀ j, j < n → a0 ≠ nI j) : Mi l yX2_turnAway ws_X2_turnAway 3 65 (dC, dI) (tyL cI cZ cJ) [.ref m0, .int a0, .int a1] (mW cI cZ m0 m1 m2 m3 m4 m5 m6 th n bg tn sl ht sn o nx kp ow) (fun r u => r = nI 0 ∧  u = mW cI cZ m0 m1 m2 m3 m4 m5 m6 1 n bg tn sl ht sn o nx kp ow) := by
  refine Mi_of (by decide +kernel) (Nat.le_of_ble_eq_true rfl) ?_
  intro pr ev sx mi ag bl me cd Q ls S hP hK hD hZ hl ret
  obtain ⟨hx, hb, hml, hown, hts⟩ := id S
  have hown : sx.vm.findClass RX2 = some mi.cls := hown
  have hS : va_S (wIn (mW cI cZ m0 m1 m2 m3 m4 m5 m6 th n bg tn sl ht sn o nx kp ow)) sx.heap sx.heap [] := va_S.rf
  have hl : lv_has ls 3 [(0, .ref m0), (1, .int a0), (2, .int a1)] := hl
  refine lv_aload_n hx hb dX2_turnAway_0 rfl (lv_at hl 0 rfl) ?_
  refine lv_iload_n hx hb dX2_turnAway_1 rfl (lv_at hl 1 rfl) ?_
  refine lv_iload_n hx hb dX2_turnAway_2 rfl (lv_at hl 2 rfl) ?_
  refine call_Vi (As := [.int a0, .int a1]) (wr := []) (rest := []) S (mf_X2_areTwo_a m0 m1 m2 m3 m4 m5 m6 th n bg tn sl ht sn o nx kp ow a0 a1 hn ha0) g_X2_X2_areTwo hd_X2_areTwo ⟨Nat.le_of_ble_eq_true rfl, Nat.le_of_ble_eq_true rfl⟩ ⟨Nat.zero_le _, Nat.zero_le _⟩ hP hD hK hS hZ [0, 1, 2, 3, 4, 5, 6] [] rfl rfl (by decide) 0 rfl rfl hl.1 rfl (Nat.le_of_ble_eq_true rfl) dX2_turnAway_3 (fun r u H locs hq hP hD hS => ?_)
  obtain ⟨rfl, rfl⟩ := hq
  have hP : va_P (dC, dI) vwCl (mW cI cZ m0 m1 m2 m3 m4 m5 m6 1 n bg tn sl ht sn o nx kp ow) H := hP
  have hD : va_D (wIn (mW cI cZ m0 m1 m2 m3 m4 m5 m6 th n bg tn sl ht sn o nx kp ow)) (mW cI cZ m0 m1 m2 m3 m4 m5 m6 1 n bg tn sl ht sn o nx kp ow) := hD
  refine ifN_ne (tgt := 11) hx hb dX2_turnAway_6 (by decide) (by omega) (fun c_6 => absurd c_6 (by decide)) (fun c_6 => ?_)
  refine lv_iconst (v := nI 0) hx hb dX2_turnAway_9 (by decide) ?_
  exact ret _ (mW cI cZ m0 m1 m2 m3 m4 m5 m6 1 n bg tn sl ht sn o nx kp ow) _ _ _ _ dX2_turnAway_10 rfl ⟨rfl, rfl⟩ (List.Perm.refl _) hP hS

set_option maxHeartbeats 4000000 in
set_option maxRecDepth 100000 in
theorem mf_X2_turnAway_b (m0 m1 m2 m3 m4 m5 m6 th n : Nat) (bg : Bool) (tn sl : Nat) (ht sn : Nat → Nat) (o nx kp : Nat → Bool) (ow : Nat → Nat) (j : Nat) (a1 : Int32) (hn : n ≤ 5) (hj : j < n) (ha1 : ∀ j, j < n → a1 ≠ nI j) : Mi l yX2_turnAway ws_X2_turnAway 3 65 (dC, dI) (tyL cI cZ cJ) [.ref m0, .int (nI j), .int a1] (mW cI cZ m0 m1 m2 m3 m4 m5 m6 th n bg tn sl ht sn o nx kp ow) (fun r u => r = nI 0 ∧  u = mW cI cZ m0 m1 m2 m3 m4 m5 m6 1 n bg tn sl ht sn o nx kp ow) := by
  refine Mi_of (by decide +kernel) (Nat.le_of_ble_eq_true rfl) ?_
  intro pr ev sx mi ag bl me cd Q ls S hP hK hD hZ hl ret
  obtain ⟨hx, hb, hml, hown, hts⟩ := id S
  have hown : sx.vm.findClass RX2 = some mi.cls := hown
  have hS : va_S (wIn (mW cI cZ m0 m1 m2 m3 m4 m5 m6 th n bg tn sl ht sn o nx kp ow)) sx.heap sx.heap [] := va_S.rf
  have hl : lv_has ls 3 [(0, .ref m0), (1, .int (nI j)), (2, .int a1)] := hl
  refine lv_aload_n hx hb dX2_turnAway_0 rfl (lv_at hl 0 rfl) ?_
  refine lv_iload_n hx hb dX2_turnAway_1 rfl (lv_at hl 1 rfl) ?_
  refine lv_iload_n hx hb dX2_turnAway_2 rfl (lv_at hl 2 rfl) ?_
  refine call_Vi (As := [.int (nI j), .int a1]) (wr := []) (rest := []) S (mf_X2_areTwo_b m0 m1 m2 m3 m4 m5 m6 th n bg tn sl ht sn o nx kp ow j a1 hn hj ha1) g_X2_X2_areTwo hd_X2_areTwo ⟨Nat.le_of_ble_eq_true rfl, Nat.le_of_ble_eq_true rfl⟩ ⟨Nat.zero_le _, Nat.zero_le _⟩ hP hD hK hS hZ [0, 1, 2, 3, 4, 5, 6] [] rfl rfl (by decide) 0 rfl rfl hl.1 rfl (Nat.le_of_ble_eq_true rfl) dX2_turnAway_3 (fun r u H locs hq hP hD hS => ?_)
  obtain ⟨rfl, rfl⟩ := hq
  have hP : va_P (dC, dI) vwCl (mW cI cZ m0 m1 m2 m3 m4 m5 m6 1 n bg tn sl ht sn o nx kp ow) H := hP
  have hD : va_D (wIn (mW cI cZ m0 m1 m2 m3 m4 m5 m6 th n bg tn sl ht sn o nx kp ow)) (mW cI cZ m0 m1 m2 m3 m4 m5 m6 1 n bg tn sl ht sn o nx kp ow) := hD
  refine ifN_ne (tgt := 11) hx hb dX2_turnAway_6 (by decide) (by omega) (fun c_6 => absurd c_6 (by decide)) (fun c_6 => ?_)
  refine lv_iconst (v := nI 0) hx hb dX2_turnAway_9 (by decide) ?_
  exact ret _ (mW cI cZ m0 m1 m2 m3 m4 m5 m6 1 n bg tn sl ht sn o nx kp ow) _ _ _ _ dX2_turnAway_10 rfl ⟨rfl, rfl⟩ (List.Perm.refl _) hP hS

set_option maxHeartbeats 4000000 in
set_option maxRecDepth 100000 in
theorem mf_X2_turnAway_c (m0 m1 m2 m3 m4 m5 m6 th n : Nat) (bg : Bool) (tn sl : Nat) (ht sn : Nat → Nat) (o nx kp : Nat → Bool) (ow : Nat → Nat) (j : Nat) (hn : n ≤ 5) (hj : j < n) : Mi l yX2_turnAway ws_X2_turnAway 3 65 (dC, dI) (tyL cI cZ cJ) [.ref m0, .int (nI j), .int (nI j)] (mW cI cZ m0 m1 m2 m3 m4 m5 m6 th n bg tn sl ht sn o nx kp ow) (fun r u => r = nI 0 ∧  u = mW cI cZ m0 m1 m2 m3 m4 m5 m6 2 n bg tn sl ht sn o nx kp ow) := by
  refine Mi_of (by decide +kernel) (Nat.le_of_ble_eq_true rfl) ?_
  intro pr ev sx mi ag bl me cd Q ls S hP hK hD hZ hl ret
  obtain ⟨hx, hb, hml, hown, hts⟩ := id S
  have hown : sx.vm.findClass RX2 = some mi.cls := hown
  have hS : va_S (wIn (mW cI cZ m0 m1 m2 m3 m4 m5 m6 th n bg tn sl ht sn o nx kp ow)) sx.heap sx.heap [] := va_S.rf
  have hl : lv_has ls 3 [(0, .ref m0), (1, .int (nI j)), (2, .int (nI j))] := hl
  refine lv_aload_n hx hb dX2_turnAway_0 rfl (lv_at hl 0 rfl) ?_
  refine lv_iload_n hx hb dX2_turnAway_1 rfl (lv_at hl 1 rfl) ?_
  refine lv_iload_n hx hb dX2_turnAway_2 rfl (lv_at hl 2 rfl) ?_
  refine call_Vi (As := [.int (nI j), .int (nI j)]) (wr := []) (rest := []) S (mf_X2_areTwo_c m0 m1 m2 m3 m4 m5 m6 th n bg tn sl ht sn o nx kp ow j hn hj) g_X2_X2_areTwo hd_X2_areTwo ⟨Nat.le_of_ble_eq_true rfl, Nat.le_of_ble_eq_true rfl⟩ ⟨Nat.zero_le _, Nat.zero_le _⟩ hP hD hK hS hZ [0, 1, 2, 3, 4, 5, 6] [] rfl rfl (by decide) 0 rfl rfl hl.1 rfl (Nat.le_of_ble_eq_true rfl) dX2_turnAway_3 (fun r u H locs hq hP hD hS => ?_)
  obtain ⟨rfl, rfl⟩ := hq
  have hP : va_P (dC, dI) vwCl (mW cI cZ m0 m1 m2 m3 m4 m5 m6 2 n bg tn sl ht sn o nx kp ow) H := hP
  have hD : va_D (wIn (mW cI cZ m0 m1 m2 m3 m4 m5 m6 th n bg tn sl ht sn o nx kp ow)) (mW cI cZ m0 m1 m2 m3 m4 m5 m6 2 n bg tn sl ht sn o nx kp ow) := hD
  refine ifN_ne (tgt := 11) hx hb dX2_turnAway_6 (by decide) (by omega) (fun c_6 => absurd c_6 (by decide)) (fun c_6 => ?_)
  refine lv_iconst (v := nI 0) hx hb dX2_turnAway_9 (by decide) ?_
  exact ret _ (mW cI cZ m0 m1 m2 m3 m4 m5 m6 2 n bg tn sl ht sn o nx kp ow) _ _ _ _ dX2_turnAway_10 rfl ⟨rfl, rfl⟩ (List.Perm.refl _) hP hS

set_option maxHeartbeats 4000000 in
set_option maxRecDepth 100000 in
theorem mf_X2_borrow_a (m0 m1 m2 m3 m4 m5 m6 th n : Nat) (bg : Bool) (tn sl : Nat) (ht sn : Nat → Nat) (o nx kp : Nat → Bool) (ow : Nat → Nat) (a0 a1 : Int32) (hn : n ≤ 5) (ha0 : ∀ j, j < n → a0 ≠ nI j) : Mi l yX2_borrow ws_X2_borrow 3 65 (dC, dI) (tyL cI cZ cJ) [.ref m0, .int a0, .int a1] (mW cI cZ m0 m1 m2 m3 m4 m5 m6 th n bg tn sl ht sn o nx kp ow) (fun r u => r = nI 0 ∧  u = mW cI cZ m0 m1 m2 m3 m4 m5 m6 1 n bg tn sl ht sn o nx kp ow) := by
  refine Mi_of (by decide +kernel) (Nat.le_of_ble_eq_true rfl) ?_
  intro pr ev sx mi ag bl me cd Q ls S hP hK hD hZ hl ret
  obtain ⟨hx, hb, hml, hown, hts⟩ := id S
  have hown : sx.vm.findClass RX2 = some mi.cls := hown
  have hS : va_S (wIn (mW cI cZ m0 m1 m2 m3 m4 m5 m6 th n bg tn sl ht sn o nx kp ow)) sx.heap sx.heap [] := va_S.rf
  have hl : lv_has ls 5 [(0, .ref m0), (1, .int a0), (2, .int a1)] := hl
  refine lv_aload_n hx hb dX2_borrow_0 rfl (lv_at hl 0 rfl) ?_
  refine lv_iload_n hx hb dX2_borrow_1 rfl (lv_at hl 1 rfl) ?_
  refine lv_iload_n hx hb dX2_borrow_2 rfl (lv_at hl 2 rfl) ?_
  refine call_Vi (As := [.int a0, .int a1]) (wr := []) (rest := []) S (mf_X2_areTwo_a m0 m1 m2 m3 m4 m5 m6 th n bg tn sl ht sn o nx kp ow a0 a1 hn ha0) g_X2_X2_areTwo hd_X2_areTwo ⟨Nat.le_of_ble_eq_true rfl, Nat.le_of_ble_eq_true rfl⟩ ⟨Nat.zero_le _, Nat.zero_le _⟩ hP hD hK hS hZ [0, 1, 2, 3, 4, 5, 6] [] rfl rfl (by decide) 0 rfl rfl hl.1 rfl (Nat.le_of_ble_eq_true rfl) dX2_borrow_3 (fun r u H locs hq hP hD hS => ?_)
  obtain ⟨rfl, rfl⟩ := hq
  have hP : va_P (dC, dI) vwCl (mW cI cZ m0 m1 m2 m3 m4 m5 m6 1 n bg tn sl ht sn o nx kp ow) H := hP
  have hD : va_D (wIn (mW cI cZ m0 m1 m2 m3 m4 m5 m6 th n bg tn sl ht sn o nx kp ow)) (mW cI cZ m0 m1 m2 m3 m4 m5 m6 1 n bg tn sl ht sn o nx kp ow) := hD
  refine ifN_ne (tgt := 11) hx hb dX2_borrow_6 (by decide) (by omega) (fun c_6 => absurd c_6 (by decide)) (fun c_6 => ?_)
  refine lv_iconst (v := nI 0) hx hb dX2_borrow_9 (by decide) ?_
  exact ret _ (mW cI cZ m0 m1 m2 m3 m4 m5 m6 1 n bg tn sl ht sn o nx kp ow) _ _ _ _ dX2_borrow_10 rfl ⟨rfl, rfl⟩ (List.Perm.refl _) hP hS

set_option maxHeartbeats 4000000 in
set_option maxRecDepth 100000 in
theorem mf_X2_borrow_b (m0 m1 m2 m3 m4 m5 m6 th n : Nat) (bg : Bool) (tn sl : Nat) (ht sn : Nat → Nat) (o nx kp : Nat → Bool) (ow : Nat → Nat) (j : Nat) (a1 : Int32) (hn : n ≤ 5) (hj : j < n) (ha1 : ∀ j, j < n → a1 ≠ nI j) : Mi l yX2_borrow ws_X2_borrow 3 65 (dC, dI) (tyL cI cZ cJ) [.ref m0, .int (nI j), .int a1] (mW cI cZ m0 m1 m2 m3 m4 m5 m6 th n bg tn sl ht sn o nx kp ow) (fun r u => r = nI 0 ∧  u = mW cI cZ m0 m1 m2 m3 m4 m5 m6 1 n bg tn sl ht sn o nx kp ow) := by
  refine Mi_of (by decide +kernel) (Nat.le_of_ble_eq_true rfl) ?_
  intro pr ev sx mi ag bl me cd Q ls S hP hK hD hZ hl ret
  obtain ⟨hx, hb, hml, hown, hts⟩ := id S
  have hown : sx.vm.findClass RX2 = some mi.cls := hown
  have hS : va_S (wIn (mW cI cZ m0 m1 m2 m3 m4 m5 m6 th n bg tn sl ht sn o nx kp ow)) sx.heap sx.heap [] := va_S.rf
  have hl : lv_has ls 5 [(0, .ref m0), (1, .int (nI j)), (2, .int a1)] := hl
  refine lv_aload_n hx hb dX2_borrow_0 rfl (lv_at hl 0 rfl) ?_
  refine lv_iload_n hx hb dX2_borrow_1 rfl (lv_at hl 1 rfl) ?_
  refine lv_iload_n hx hb dX2_borrow_2 rfl (lv_at hl 2 rfl) ?_
  refine call_Vi (As := [.int (nI j), .int a1]) (wr := []) (rest := []) S (mf_X2_areTwo_b m0 m1 m2 m3 m4 m5 m6 th n bg tn sl ht sn o nx kp ow j a1 hn hj ha1) g_X2_X2_areTwo hd_X2_areTwo ⟨Nat.le_of_ble_eq_true rfl, Nat.le_of_ble_eq_true rfl⟩ ⟨Nat.zero_le _, Nat.zero_le _⟩ hP hD hK hS hZ [0, 1, 2, 3, 4, 5, 6] [] rfl rfl (by decide) 0 rfl rfl hl.1 rfl (Nat.le_of_ble_eq_true rfl) dX2_borrow_3 (fun r u H locs hq hP hD hS => ?_)
  obtain ⟨rfl, rfl⟩ := hq
  have hP : va_P (dC, dI) vwCl (mW cI cZ m0 m1 m2 m3 m4 m5 m6 1 n bg tn sl ht sn o nx kp ow) H := hP
  have hD : va_D (wIn (mW cI cZ m0 m1 m2 m3 m4 m5 m6 th n bg tn sl ht sn o nx kp ow)) (mW cI cZ m0 m1 m2 m3 m4 m5 m6 1 n bg tn sl ht sn o nx kp ow) := hD
  refine ifN_ne (tgt := 11) hx hb dX2_borrow_6 (by decide) (by omega) (fun c_6 => absurd c_6 (by decide)) (fun c_6 => ?_)
  refine lv_iconst (v := nI 0) hx hb dX2_borrow_9 (by decide) ?_
  exact ret _ (mW cI cZ m0 m1 m2 m3 m4 m5 m6 1 n bg tn sl ht sn o nx kp ow) _ _ _ _ dX2_borrow_10 rfl ⟨rfl, rfl⟩ (List.Perm.refl _) hP hS

set_option maxHeartbeats 4000000 in
set_option maxRecDepth 100000 in
theorem mf_X2_borrow_c (m0 m1 m2 m3 m4 m5 m6 th n : Nat) (bg : Bool) (tn sl : Nat) (ht sn : Nat → Nat) (o nx kp : Nat → Bool) (ow : Nat → Nat) (j : Nat) (hn : n ≤ 5) (hj : j < n) : Mi l yX2_borrow ws_X2_borrow 3 65 (dC, dI) (tyL cI cZ cJ) [.ref m0, .int (nI j), .int (nI j)] (mW cI cZ m0 m1 m2 m3 m4 m5 m6 th n bg tn sl ht sn o nx kp ow) (fun r u => r = nI 0 ∧  u = mW cI cZ m0 m1 m2 m3 m4 m5 m6 2 n bg tn sl ht sn o nx kp ow) := by
  refine Mi_of (by decide +kernel) (Nat.le_of_ble_eq_true rfl) ?_
  intro pr ev sx mi ag bl me cd Q ls S hP hK hD hZ hl ret
  obtain ⟨hx, hb, hml, hown, hts⟩ := id S
  have hown : sx.vm.findClass RX2 = some mi.cls := hown
  have hS : va_S (wIn (mW cI cZ m0 m1 m2 m3 m4 m5 m6 th n bg tn sl ht sn o nx kp ow)) sx.heap sx.heap [] := va_S.rf
  have hl : lv_has ls 5 [(0, .ref m0), (1, .int (nI j)), (2, .int (nI j))] := hl
  refine lv_aload_n hx hb dX2_borrow_0 rfl (lv_at hl 0 rfl) ?_
  refine lv_iload_n hx hb dX2_borrow_1 rfl (lv_at hl 1 rfl) ?_
  refine lv_iload_n hx hb dX2_borrow_2 rfl (lv_at hl 2 rfl) ?_
  refine call_Vi (As := [.int (nI j), .int (nI j)]) (wr := []) (rest := []) S (mf_X2_areTwo_c m0 m1 m2 m3 m4 m5 m6 th n bg tn sl ht sn o nx kp ow j hn hj) g_X2_X2_areTwo hd_X2_areTwo ⟨Nat.le_of_ble_eq_true rfl, Nat.le_of_ble_eq_true rfl⟩ ⟨Nat.zero_le _, Nat.zero_le _⟩ hP hD hK hS hZ [0, 1, 2, 3, 4, 5, 6] [] rfl rfl (by decide) 0 rfl rfl hl.1 rfl (Nat.le_of_ble_eq_true rfl) dX2_borrow_3 (fun r u H locs hq hP hD hS => ?_)
  obtain ⟨rfl, rfl⟩ := hq
  have hP : va_P (dC, dI) vwCl (mW cI cZ m0 m1 m2 m3 m4 m5 m6 2 n bg tn sl ht sn o nx kp ow) H := hP
  have hD : va_D (wIn (mW cI cZ m0 m1 m2 m3 m4 m5 m6 th n bg tn sl ht sn o nx kp ow)) (mW cI cZ m0 m1 m2 m3 m4 m5 m6 2 n bg tn sl ht sn o nx kp ow) := hD
  refine ifN_ne (tgt := 11) hx hb dX2_borrow_6 (by decide) (by omega) (fun c_6 => absurd c_6 (by decide)) (fun c_6 => ?_)
  refine lv_iconst (v := nI 0) hx hb dX2_borrow_9 (by decide) ?_
  exact ret _ (mW cI cZ m0 m1 m2 m3 m4 m5 m6 2 n bg tn sl ht sn o nx kp ow) _ _ _ _ dX2_borrow_10 rfl ⟨rfl, rfl⟩ (List.Perm.refl _) hP hS

theorem xor_32 {a b : Nat} (h : a < 32) (h2 : b < 32) : a ^^^ b < 32 := Nat.xor_lt_two_pow (n := 5) h h2
theorem bit_32 {k : Nat} (h : k < 5) : 1 * 2 ^ k < 32 := by
  have : ∀ k, k < 5 → 1 * 2 ^ k < 32 := by decide
  exact this k h
set_option maxHeartbeats 4000000 in
set_option maxRecDepth 100000 in
theorem m_X2_turnAway (m0 m1 m2 m3 m4 m5 m6 th n : Nat) (bg : Bool) (tn sl : Nat) (ht sn : Nat → Nat) (o nx kp : Nat → Bool) (ow : Nat → Nat) (j k : Nat) (hn : n ≤ 5) (hsn : ∀ p, p < 5 → sn p < 32) (hj : j < n) (hk : k < n) (hjk : j ≠ k) : Mi l yX2_turnAway ws_X2_turnAway 3 65 (dC, dI) (tyL cI cZ cJ) [.ref m0, .int (nI j), .int (nI k)] (mW cI cZ m0 m1 m2 m3 m4 m5 m6 th n bg tn sl ht sn o nx kp ow) (fun r u => r = bI (seeM (upN sn j (sn j ^^^ 1 * 2 ^ k)) j k j) ∧ u = mW cI cZ m0 m1 m2 m3 m4 m5 m6 0 n bg tn sl ht (upN sn j (sn j ^^^ 1 * 2 ^ k)) o nx kp ow) := by
  refine Mi_of (by decide +kernel) (Nat.le_of_ble_eq_true rfl) ?_
  intro pr ev sx mi ag bl me cd Q ls S hP hK hD hZ hl ret
  obtain ⟨hx, hb, hml, hown, hts⟩ := id S
  have hown : sx.vm.findClass RX2 = some mi.cls := hown
  have hS : va_S (wIn (mW cI cZ m0 m1 m2 m3 m4 m5 m6 th n bg tn sl ht sn o nx kp ow)) sx.heap sx.heap [] := va_S.rf
  have hl : lv_has ls 3 [(0, .ref m0), (1, .int (nI j)), (2, .int (nI k))] := hl
  refine lv_aload_n hx hb dX2_turnAway_0 rfl (lv_at hl 0 rfl) ?_
  refine lv_iload_n hx hb dX2_turnAway_1 rfl (lv_at hl 1 rfl) ?_
  refine lv_iload_n hx hb dX2_turnAway_2 rfl (lv_at hl 2 rfl) ?_
  refine call_Vi (As := [.int (nI j), .int (nI k)]) (wr := []) (rest := []) S (m_X2_areTwo m0 m1 m2 m3 m4 m5 m6 th n bg tn sl ht sn o nx kp ow j k hn hj hk hjk) g_X2_X2_areTwo hd_X2_areTwo ⟨Nat.le_of_ble_eq_true rfl, Nat.le_of_ble_eq_true rfl⟩ ⟨Nat.zero_le _, Nat.zero_le _⟩ hP hD hK hS hZ [0, 1, 2, 3, 4, 5, 6] [] rfl rfl (by decide) 0 rfl rfl hl.1 rfl (Nat.le_of_ble_eq_true rfl) dX2_turnAway_3 (fun r u H locs hq hP hD hS => ?_)
  obtain ⟨rfl, rfl⟩ := hq
  have hP : va_P (dC, dI) vwCl (mW cI cZ m0 m1 m2 m3 m4 m5 m6 0 n bg tn sl ht sn o nx kp ow) H := hP
  have hD : va_D (wIn (mW cI cZ m0 m1 m2 m3 m4 m5 m6 th n bg tn sl ht sn o nx kp ow)) (mW cI cZ m0 m1 m2 m3 m4 m5 m6 0 n bg tn sl ht sn o nx kp ow) := hD
  refine ifN_ne (tgt := 11) hx hb dX2_turnAway_6 (by decide) (by omega) (fun c_6 => ?_) (fun c_6 => absurd c_6 (by decide))
  refine lv_aload_n hx hb dX2_turnAway_11 rfl (lv_at hl 0 rfl) ?_
  refine va_get (D := (dC, dI)) (ci := 2) (v := .ref m2) (C := RX2) (T := TX2) (N := 11) hx hb hts inX2 hown hK hP 0 rfl rfl 4 (by decide) (hts _ q_fl_X2_13) (fun _ h9 => h9) rfl dX2_turnAway_12 ?_
  refine lv_iload_n hx hb dX2_turnAway_15 rfl (lv_at hl 1 rfl) ?_
  refine lv_dup2_11 hx hb dX2_turnAway_16 rfl rfl ?_
  refine ia_ld hx hb hK hP 2 0 rfl rfl (j := j) (by omega) (by decide) dX2_turnAway_17 ?_
  refine lv_iconst (v := nI 1) hx hb dX2_turnAway_18 (by decide) ?_
  refine lv_iload_n hx hb dX2_turnAway_19 rfl (lv_at hl 2 rfl) ?_
  refine lv_ishl hx hb dX2_turnAway_20 ?_
  refine W_i (y := nI (1 * 2 ^ k)) (nI_shl _ (by omega)) ?_
  refine lv_ixor hx hb dX2_turnAway_21 ?_
  refine W_i (y := nI ((sn j) ^^^ (1 * 2 ^ k))) (nI_xor _ _) ?_
  refine ia_st hx hb hK hP hD hS 2 0 rfl rfl (j := j) (v := (sn j) ^^^ (1 * 2 ^ k)) (by omega) (by decide) dX2_turnAway_22 (fun H locs hP hD hS => ?_)
  have hP : va_P (dC, dI) vwCl (mW cI cZ m0 m1 m2 m3 m4 m5 m6 0 n bg tn sl ht (upN sn j ((sn j) ^^^ (1 * 2 ^ k))) o nx kp ow) H := hP
  have hD : va_D (wIn (mW cI cZ m0 m1 m2 m3 m4 m5 m6 th n bg tn sl ht sn o nx kp ow)) (mW cI cZ m0 m1 m2 m3 m4 m5 m6 0 n bg tn sl ht (upN sn j ((sn j) ^^^ (1 * 2 ^ k))) o nx kp ow) := hD
  refine lv_aload_n hx hb dX2_turnAway_23 rfl (lv_at hl 0 rfl) ?_
  refine lv_iload_n hx hb dX2_turnAway_24 rfl (lv_at hl 1 rfl) ?_
  refine lv_iload_n hx hb dX2_turnAway_25 rfl (lv_at hl 2 rfl) ?_
  refine lv_iload_n hx hb dX2_turnAway_26 rfl (lv_at hl 1 rfl) ?_
  refine call_Vp (As := [.int (nI j), .int (nI k), .int (nI j)]) (rest := []) S (m_X2_sees m0 m1 m2 m3 m4 m5 m6 0 n bg tn sl ht (upN sn j ((sn j) ^^^ (1 * 2 ^ k))) o nx kp ow j k j (by omega) (by omega) (by omega) (fun p hp => by by_cases hpj : p = j; (· subst hpj; rw [upN_s]; exact xor_32 (hsn p hp) (bit_32 (by omega))); (· rw [upN_n _ _ hpj]; exact hsn p hp))) g_X2_X2_sees hd_X2_sees ⟨Nat.le_of_ble_eq_true rfl, Nat.le_of_ble_eq_true rfl⟩ ⟨Nat.zero_le _, Nat.zero_le _⟩ hP hD hK hS hZ [0, 1, 2, 3, 4, 5, 6] rfl (by decide) 0 rfl rfl hl.1 rfl (Nat.le_of_ble_eq_true rfl) dX2_turnAway_27 (fun r H locs hq hP hS => ?_)
  obtain rfl := hq
  exact ret _ (mW cI cZ m0 m1 m2 m3 m4 m5 m6 0 n bg tn sl ht (upN sn j ((sn j) ^^^ (1 * 2 ^ k))) o nx kp ow) _ _ _ _ dX2_turnAway_30 (bI_nar _) ⟨rfl, rfl⟩ (List.Perm.refl _) hP hS

set_option maxHeartbeats 4000000 in
set_option maxRecDepth 100000 in
theorem m_X2_borrow (m0 m1 m2 m3 m4 m5 m6 th n : Nat) (bg : Bool) (tn sl : Nat) (ht sn : Nat → Nat) (o nx kp : Nat → Bool) (ow : Nat → Nat) (j k : Nat) (hn : n ≤ 5) (hsn : ∀ p, p < 5 → sn p < 32) (hht : ∀ p, p < 5 → ht p < 3) (hj : j < n) (hk : k < n) (hjk : j ≠ k) : Mi l yX2_borrow ws_X2_borrow 3 65 (dC, dI) (tyL cI cZ cJ) [.ref m0, .int (nI j), .int (nI k)] (mW cI cZ m0 m1 m2 m3 m4 m5 m6 th n bg tn sl ht sn o nx kp ow) (fun r u => r = nI (ht k) ∧ u = mW cI cZ m0 m1 m2 m4 m3 m5 m6 0 n true tn sl (upN (upN ht j (ht k)) k (ht j)) sn (mix (fun w => o (swp w j k)) nx (3 ^ n)) o kp ow) := by
  refine Mi_of (by decide +kernel) (Nat.le_of_ble_eq_true rfl) ?_
  intro pr ev sx mi ag bl me cd Q ls S hP hK hD hZ hl ret
  obtain ⟨hx, hb, hml, hown, hts⟩ := id S
  have hown : sx.vm.findClass RX2 = some mi.cls := hown
  have hS : va_S (wIn (mW cI cZ m0 m1 m2 m3 m4 m5 m6 th n bg tn sl ht sn o nx kp ow)) sx.heap sx.heap [] := va_S.rf
  have hl : lv_has ls 5 [(0, .ref m0), (1, .int (nI j)), (2, .int (nI k))] := hl
  have h3 := p3_243 n hn; have h30 := p3_0 n
  have hre : realN ht n < 3 ^ n := realN_lt n (fun p hp => hht p (by omega))
  refine lv_aload_n hx hb dX2_borrow_0 rfl (lv_at hl 0 rfl) ?_
  refine lv_iload_n hx hb dX2_borrow_1 rfl (lv_at hl 1 rfl) ?_
  refine lv_iload_n hx hb dX2_borrow_2 rfl (lv_at hl 2 rfl) ?_
  refine call_Vi (As := [.int (nI j), .int (nI k)]) (wr := []) (rest := []) S (m_X2_areTwo m0 m1 m2 m3 m4 m5 m6 th n bg tn sl ht sn o nx kp ow j k hn hj hk hjk) g_X2_X2_areTwo hd_X2_areTwo ⟨Nat.le_of_ble_eq_true rfl, Nat.le_of_ble_eq_true rfl⟩ ⟨Nat.zero_le _, Nat.zero_le _⟩ hP hD hK hS hZ [0, 1, 2, 3, 4, 5, 6] [] rfl rfl (by decide) 0 rfl rfl hl.1 rfl (Nat.le_of_ble_eq_true rfl) dX2_borrow_3 (fun r u H locs hq hP hD hS => ?_)
  obtain ⟨rfl, rfl⟩ := hq
  have hP : va_P (dC, dI) vwCl (mW cI cZ m0 m1 m2 m3 m4 m5 m6 0 n bg tn sl ht sn o nx kp ow) H := hP
  have hD : va_D (wIn (mW cI cZ m0 m1 m2 m3 m4 m5 m6 th n bg tn sl ht sn o nx kp ow)) (mW cI cZ m0 m1 m2 m3 m4 m5 m6 0 n bg tn sl ht sn o nx kp ow) := hD
  refine ifN_ne (tgt := 11) hx hb dX2_borrow_6 (by decide) (by omega) (fun c_6 => ?_) (fun c_6 => absurd c_6 (by decide))
  refine lv_iconst (v := nI 0) hx hb dX2_borrow_11 (by decide) ?_
  refine lv_istore_n (lv' := [(3, .int (nI 0)), (0, .ref m0), (1, .int (nI j)), (2, .int (nI k))]) hx hb dX2_borrow_12 rfl hl (by decide) rfl (fun ls hl => ?_)
  have lp13 : ∀ (kf : Nat) (i : Nat), (3 ^ n) < i + kf → (i ≤ 3 ^ n) → ∀ (H : Heap) (locs : List Loc), va_P (dC, dI) vwCl (mW cI cZ m0 m1 m2 m3 m4 m5 m6 0 n bg tn sl ht sn o (mix (fun w => o (swp w j k)) nx i) kp ow) H → va_D (wIn (mW cI cZ m0 m1 m2 m3 m4 m5 m6 th n bg tn sl ht sn o nx kp ow)) (mW cI cZ m0 m1 m2 m3 m4 m5 m6 0 n bg tn sl ht sn o (mix (fun w => o (swp w j k)) nx i) kp ow) → va_S (wIn (mW cI cZ m0 m1 m2 m3 m4 m5 m6 th n bg tn sl ht sn o nx kp ow)) sx.heap H locs → ∀ ls : Array Slot, lv_has ls 5 [(3, .int (nI i)), (0, .ref m0), (1, .int (nI j)), (2, .int (nI k))] → W pr l ev (rmB 3 65) sx mi ag bl me cd H locs 0 0 Q (F0 mi 13 ls []) := by
    intro kf
    induction kf with
    | zero => intro i hkf hi; exact absurd hkf (by omega)
    | succ kf ih13 =>
      intro i hkf hi H locs hP hD hS ls hl
      refine lv_iload_n hx hb dX2_borrow_13 rfl (lv_at hl 0 rfl) ?_
      refine lv_aload_n hx hb dX2_borrow_14 rfl (lv_at hl 1 rfl) ?_
      refine call_Vp (As := []) (rest := [.int (nI i)]) S (m_X2_ways m0 m1 m2 m3 m4 m5 m6 0 n bg tn sl ht sn o (mix (fun w => o (swp w j k)) nx i) kp ow  hn) g_X2_X2_ways hd_X2_ways ⟨Nat.le_of_ble_eq_true rfl, Nat.le_of_ble_eq_true rfl⟩ ⟨Nat.zero_le _, Nat.zero_le _⟩ hP hD hK hS hZ [0, 1, 2, 3, 4, 5, 6] rfl (by decide) 0 rfl rfl hl.1 rfl (Nat.le_of_ble_eq_true rfl) dX2_borrow_15 (fun r H locs hq hP hS => ?_)
      obtain rfl := hq
      refine icN_ge (tgt := 70) hx hb dX2_borrow_18 (by decide) (by omega) (by omega) (fun c_18 => ?_) (fun c_18 => ?_)
      · rw [show i = 3 ^ n by omega] at hP hD
        have hP : va_P (dC, dI) vwCl (mW cI cZ m0 m1 m2 m3 m4 m5 m6 0 n bg tn sl ht sn o (mix (fun w => o (swp w j k)) nx (3 ^ n)) kp ow) H := hP
        have hD : va_D (wIn (mW cI cZ m0 m1 m2 m3 m4 m5 m6 th n bg tn sl ht sn o nx kp ow)) (mW cI cZ m0 m1 m2 m3 m4 m5 m6 0 n bg tn sl ht sn o (mix (fun w => o (swp w j k)) nx (3 ^ n)) kp ow) := hD
        refine lv_aload_n hx hb dX2_borrow_70 rfl (lv_at hl 1 rfl) ?_
        refine call_Vv (As := []) (wr := []) (rest := []) S (m_X2_take m0 m1 m2 m3 m4 m5 m6 0 n bg tn sl ht sn o (mix (fun w => o (swp w j k)) nx (3 ^ n)) kp ow  ) g_X2_X2_take hd_X2_take ⟨Nat.le_of_ble_eq_true rfl, Nat.le_of_ble_eq_true rfl⟩ ⟨Nat.zero_le _, Nat.zero_le _⟩ hP hD hK hS hZ [0, 1, 2, 3, 4, 5, 6] [] rfl rfl (by decide) 0 rfl rfl hl.1 rfl (Nat.le_of_ble_eq_true rfl) dX2_borrow_71 (fun u H locs hq hP hD hS => ?_)
        obtain rfl := hq
        have hP : va_P (dC, dI) vwCl (mW cI cZ m0 m1 m2 m4 m3 m5 m6 0 n bg tn sl ht sn (mix (fun w => o (swp w j k)) nx (3 ^ n)) o kp ow) H := hP
        have hD : va_D (wIn (mW cI cZ m0 m1 m2 m3 m4 m5 m6 th n bg tn sl ht sn o nx kp ow)) (mW cI cZ m0 m1 m2 m4 m3 m5 m6 0 n bg tn sl ht sn (mix (fun w => o (swp w j k)) nx (3 ^ n)) o kp ow) := hD
        refine lv_aload_n hx hb dX2_borrow_74 rfl (lv_at hl 1 rfl) ?_
        refine va_get (D := (dC, dI)) (ci := 2) (v := .ref m1) (C := RX2) (T := TX2) (N := 11) hx hb hts inX2 hown hK hP 0 rfl rfl 3 (by decide) (hts _ q_fl_X2_9) (fun _ h9 => h9) rfl dX2_borrow_75 ?_
        refine lv_iload_n hx hb dX2_borrow_78 rfl (lv_at hl 2 rfl) ?_
        refine ia_ld hx hb hK hP 1 0 rfl rfl (j := j) (by omega) (by decide) dX2_borrow_79 ?_
        refine lv_istore_n (lv' := [(3, .int (nI (ht j))), (0, .ref m0), (1, .int (nI j)), (2, .int (nI k))]) hx hb dX2_borrow_80 rfl hl (by decide) rfl (fun ls hl => ?_)
        refine lv_aload_n hx hb dX2_borrow_81 rfl (lv_at hl 1 rfl) ?_
        refine va_get (D := (dC, dI)) (ci := 2) (v := .ref m1) (C := RX2) (T := TX2) (N := 11) hx hb hts inX2 hown hK hP 0 rfl rfl 3 (by decide) (hts _ q_fl_X2_9) (fun _ h9 => h9) rfl dX2_borrow_82 ?_
        refine lv_iload_n hx hb dX2_borrow_85 rfl (lv_at hl 2 rfl) ?_
        refine lv_aload_n hx hb dX2_borrow_86 rfl (lv_at hl 1 rfl) ?_
        refine va_get (D := (dC, dI)) (ci := 2) (v := .ref m1) (C := RX2) (T := TX2) (N := 11) hx hb hts inX2 hown hK hP 0 rfl rfl 3 (by decide) (hts _ q_fl_X2_9) (fun _ h9 => h9) rfl dX2_borrow_87 ?_
        refine lv_iload_n hx hb dX2_borrow_90 rfl (lv_at hl 3 rfl) ?_
        refine ia_ld hx hb hK hP 1 0 rfl rfl (j := k) (by omega) (by decide) dX2_borrow_91 ?_
        refine ia_st hx hb hK hP hD hS 1 0 rfl rfl (j := j) (v := ht k) (by omega) (by decide) dX2_borrow_92 (fun H locs hP hD hS => ?_)
        have hP : va_P (dC, dI) vwCl (mW cI cZ m0 m1 m2 m4 m3 m5 m6 0 n bg tn sl (upN ht j (ht k)) sn (mix (fun w => o (swp w j k)) nx (3 ^ n)) o kp ow) H := hP
        have hD : va_D (wIn (mW cI cZ m0 m1 m2 m3 m4 m5 m6 th n bg tn sl ht sn o nx kp ow)) (mW cI cZ m0 m1 m2 m4 m3 m5 m6 0 n bg tn sl (upN ht j (ht k)) sn (mix (fun w => o (swp w j k)) nx (3 ^ n)) o kp ow) := hD
        refine lv_aload_n hx hb dX2_borrow_93 rfl (lv_at hl 1 rfl) ?_
        refine va_get (D := (dC, dI)) (ci := 2) (v := .ref m1) (C := RX2) (T := TX2) (N := 11) hx hb hts inX2 hown hK hP 0 rfl rfl 3 (by decide) (hts _ q_fl_X2_9) (fun _ h9 => h9) rfl dX2_borrow_94 ?_
        refine lv_iload_n hx hb dX2_borrow_97 rfl (lv_at hl 3 rfl) ?_
        refine lv_iload_n hx hb dX2_borrow_98 rfl (lv_at hl 0 rfl) ?_
        refine ia_st hx hb hK hP hD hS 1 0 rfl rfl (j := k) (v := ht j) (by omega) (by decide) dX2_borrow_99 (fun H locs hP hD hS => ?_)
        have hP : va_P (dC, dI) vwCl (mW cI cZ m0 m1 m2 m4 m3 m5 m6 0 n bg tn sl (upN (upN ht j (ht k)) k (ht j)) sn (mix (fun w => o (swp w j k)) nx (3 ^ n)) o kp ow) H := hP
        have hD : va_D (wIn (mW cI cZ m0 m1 m2 m3 m4 m5 m6 th n bg tn sl ht sn o nx kp ow)) (mW cI cZ m0 m1 m2 m4 m3 m5 m6 0 n bg tn sl (upN (upN ht j (ht k)) k (ht j)) sn (mix (fun w => o (swp w j k)) nx (3 ^ n)) o kp ow) := hD
        refine lv_aload_n hx hb dX2_borrow_100 rfl (lv_at hl 1 rfl) ?_
        refine lv_iconst (v := nI 1) hx hb dX2_borrow_101 (by decide) ?_
        refine W_i (y := bI true) rfl ?_
        refine va_put (D := (dC, dI)) (ci := 2) (v := .int (bI true)) (ty := .boolean) (C := RX2) (T := TX2) (N := 11) hx hb hts inX2 tyX2 tyX2_ok nmX2 hown hK hP hD hS 0 rfl rfl 2 (by decide) (hts _ q_fl_X2_92) (fun _ h9 => h9) rfl (by decide +kernel) rfl rfl (Nat.le_of_ble_eq_true rfl) dX2_borrow_102 (fun H locs hP hD hS => ?_)
        have hP : va_P (dC, dI) vwCl (mW cI cZ m0 m1 m2 m4 m3 m5 m6 0 n true tn sl (upN (upN ht j (ht k)) k (ht j)) sn (mix (fun w => o (swp w j k)) nx (3 ^ n)) o kp ow) H := hP
        have hD : va_D (wIn (mW cI cZ m0 m1 m2 m3 m4 m5 m6 th n bg tn sl ht sn o nx kp ow)) (mW cI cZ m0 m1 m2 m4 m3 m5 m6 0 n true tn sl (upN (upN ht j (ht k)) k (ht j)) sn (mix (fun w => o (swp w j k)) nx (3 ^ n)) o kp ow) := hD
        refine lv_aload_n hx hb dX2_borrow_105 rfl (lv_at hl 1 rfl) ?_
        refine va_get (D := (dC, dI)) (ci := 2) (v := .ref m1) (C := RX2) (T := TX2) (N := 11) hx hb hts inX2 hown hK hP 0 rfl rfl 3 (by decide) (hts _ q_fl_X2_9) (fun _ h9 => h9) rfl dX2_borrow_106 ?_
        refine lv_iload_n hx hb dX2_borrow_109 rfl (lv_at hl 2 rfl) ?_
        refine ia_ld hx hb hK hP 1 0 rfl rfl (j := j) (by omega) (by decide) dX2_borrow_110 ?_
        refine W_i (y := nI (ht k)) (by simp [upN, hjk]) ?_
        exact ret _ (mW cI cZ m0 m1 m2 m4 m3 m5 m6 0 n true tn sl (upN (upN ht j (ht k)) k (ht j)) sn (mix (fun w => o (swp w j k)) nx (3 ^ n)) o kp ow) _ _ _ _ dX2_borrow_111 rfl ⟨rfl, rfl⟩ (mW_swap _ _ _ _ _ _ _) hP hS
      · refine lv_iload_n hx hb dX2_borrow_21 rfl (lv_at hl 0 rfl) ?_
        refine lv_iload_n hx hb dX2_borrow_22 rfl (lv_at hl 3 rfl) ?_
        refine call_Sp (As := [.int (nI i), .int (nI k)]) (rest := []) S (m_X2_colour i k (by omega) (by omega)) g_X2_X2_colour hd_X2_colour ⟨Nat.le_of_ble_eq_true rfl, Nat.le_of_ble_eq_true rfl⟩ ⟨Nat.zero_le _, Nat.zero_le _⟩ hP hD hK hS hZ [] rfl (by decide) hl.1 rfl (Nat.le_of_ble_eq_true rfl) dX2_borrow_23 (fun r H locs hq hP hS => ?_)
        obtain rfl := hq
        refine lv_iload_n hx hb dX2_borrow_26 rfl (lv_at hl 0 rfl) ?_
        refine lv_iload_n hx hb dX2_borrow_27 rfl (lv_at hl 2 rfl) ?_
        refine call_Sp (As := [.int (nI i), .int (nI j)]) (rest := [.int (nI (dg3 i k))]) S (m_X2_colour i j (by omega) (by omega)) g_X2_X2_colour hd_X2_colour ⟨Nat.le_of_ble_eq_true rfl, Nat.le_of_ble_eq_true rfl⟩ ⟨Nat.zero_le _, Nat.zero_le _⟩ hP hD hK hS hZ [] rfl (by decide) hl.1 rfl (Nat.le_of_ble_eq_true rfl) dX2_borrow_28 (fun r H locs hq hP hS => ?_)
        obtain rfl := hq
        refine lv_isub hx hb dX2_borrow_31 ?_
        refine W_i (y := (nI (dg3 i k) - nI (dg3 i j))) (rfl) ?_
        refine lv_istore (lv' := [(4, .int (nI (dg3 i k) - nI (dg3 i j))), (3, .int (nI i)), (0, .ref m0), (1, .int (nI j)), (2, .int (nI k))]) hx hb dX2_borrow_32 hl (by decide) rfl (fun ls hl => ?_)
        refine lv_aload_n hx hb dX2_borrow_34 rfl (lv_at hl 2 rfl) ?_
        refine va_get (D := (dC, dI)) (ci := 2) (v := .ref m4) (C := RX2) (T := TX2) (N := 11) hx hb hts inX2 hown hK hP 0 rfl rfl 6 (by decide) (hts _ q_fl_X2_20) (fun _ h9 => h9) rfl dX2_borrow_35 ?_
        refine lv_iload_n hx hb dX2_borrow_38 rfl (lv_at hl 1 rfl) ?_
        refine lv_aload_n hx hb dX2_borrow_39 rfl (lv_at hl 2 rfl) ?_
        refine va_get (D := (dC, dI)) (ci := 2) (v := .ref m3) (C := RX2) (T := TX2) (N := 11) hx hb hts inX2 hown hK hP 0 rfl rfl 5 (by decide) (hts _ q_fl_X2_16) (fun _ h9 => h9) rfl dX2_borrow_40 ?_
        refine lv_iload_n hx hb dX2_borrow_43 rfl (lv_at hl 1 rfl) ?_
        refine lv_iload hx hb dX2_borrow_44 (lv_at hl 0 rfl) ?_
        refine pw_gets hx hb hZ hS hown hts dX2_borrow_46 (fun tp46 hTtp46 => ?_)
        refine lv_iload_n hx hb dX2_borrow_49 rfl (lv_at hl 3 rfl) ?_
        refine pw_ld hx hb hTtp46 hS (by omega) dX2_borrow_50 ?_
        refine lv_imul hx hb dX2_borrow_51 ?_
        refine W_i (y := ((nI (dg3 i k) - nI (dg3 i j)) * nI (3 ^ j))) (rfl) ?_
        refine lv_iadd hx hb dX2_borrow_52 ?_
        refine W_i (y := (nI i + (nI (dg3 i k) - nI (dg3 i j)) * nI (3 ^ j))) (rfl) ?_
        refine lv_iload hx hb dX2_borrow_53 (lv_at hl 0 rfl) ?_
        refine pw_gets hx hb hZ hS hown hts dX2_borrow_55 (fun tp55 hTtp55 => ?_)
        refine lv_iload_n hx hb dX2_borrow_58 rfl (lv_at hl 4 rfl) ?_
        refine pw_ld hx hb hTtp55 hS (by omega) dX2_borrow_59 ?_
        refine lv_imul hx hb dX2_borrow_60 ?_
        refine W_i (y := ((nI (dg3 i k) - nI (dg3 i j)) * nI (3 ^ k))) (rfl) ?_
        refine lv_isub hx hb dX2_borrow_61 ?_
        refine W_i (y := nI (swp i j k)) (swp_eq (swp_all (by omega) hj hk (by omega) hjk).1) ?_
        refine za_ld hx hb hK hP 3 1 rfl rfl (j := swp i j k) (Nat.lt_of_lt_of_le (swp_all (by omega) hj hk (by omega) hjk).2 h3) (by decide) dX2_borrow_62 ?_
        refine za_st hx hb hK hP hD hS 4 1 rfl rfl (j := i) (v := o (swp i j k)) (by omega) (by decide) dX2_borrow_63 (fun H locs hP hD hS => ?_)
        rw [show (upN (mix (fun w => o (swp w j k)) nx i) i (o (swp i j k))) = (mix (fun w => o (swp w j k)) nx (i + 1)) from mix_s rfl] at hP hD
        have hP : va_P (dC, dI) vwCl (mW cI cZ m0 m1 m2 m3 m4 m5 m6 0 n bg tn sl ht sn o (mix (fun w => o (swp w j k)) nx (i + 1)) kp ow) H := hP
        have hD : va_D (wIn (mW cI cZ m0 m1 m2 m3 m4 m5 m6 th n bg tn sl ht sn o nx kp ow)) (mW cI cZ m0 m1 m2 m3 m4 m5 m6 0 n bg tn sl ht sn o (mix (fun w => o (swp w j k)) nx (i + 1)) kp ow) := hD
        refine lv_iinc (v := nI (i + 1)) (lv' := [(3, .int (nI (i + 1))), (4, .int (nI (dg3 i k) - nI (dg3 i j))), (0, .ref m0), (1, .int (nI j)), (2, .int (nI k))]) hx hb dX2_borrow_64 hl (k := 1) rfl (nI_add _ _) (by decide) rfl (fun ls hl => ?_)
        refine lv_goto (tgt := 13) hx hb dX2_borrow_67 (by decide) ?_
        exact ih13 (i + 1) (by omega) (by omega) _ _ hP hD hS _ (lv_sub hl [0, 2, 3, 4] rfl)
  rw [← mix_0 (fun w => o (swp w j k)) nx] at hP hD
  exact lp13 (3 ^ n + 1) 0 (by omega) (by omega) _ _ hP hD hS _ (lv_sub hl [0, 1, 2, 3] rfl)

theorem one_p (n : Nat) : 1 ≤ 1 * 2 ^ n := by rw [Nat.one_mul]; exact Nat.one_le_two_pow
set_option maxHeartbeats 4000000 in
set_option maxRecDepth 100000 in
theorem m_X2_addPlayer (m0 m1 m2 m3 m4 m5 m6 th n : Nat) (bg : Bool) (tn sl : Nat) (ht sn : Nat → Nat) (o nx kp : Nat → Bool) (ow : Nat → Nat) (co : Nat) (hco : co < 3) (hn5 : n < 5) (hu : bg = false) : Mi l yX2_addPlayer ws_X2_addPlayer 2 42 (dC, dI) (tyL cI cZ cJ) [.ref m0, .int (nI co)] (mW cI cZ m0 m1 m2 m3 m4 m5 m6 th n bg tn sl ht sn o nx kp ow) (fun r u => r = nI n ∧ u = mW cI cZ m0 m1 m2 m3 m4 m5 m6 0 (n + 1) bg tn sl (upN ht n co) (upN (mix (fun k => sn k ||| 1 * 2 ^ n) sn n) n (1 * 2 ^ n - 1)) (fun w => decide (w < 3 ^ (n + 1))) nx kp ow) := by
  refine Mi_of (by decide +kernel) (Nat.le_of_ble_eq_true rfl) ?_
  intro pr ev sx mi ag bl me cd Q ls S hP hK hD hZ hl ret
  obtain ⟨hx, hb, hml, hown, hts⟩ := id S
  have hown : sx.vm.findClass RX2 = some mi.cls := hown
  have hS : va_S (wIn (mW cI cZ m0 m1 m2 m3 m4 m5 m6 th n bg tn sl ht sn o nx kp ow)) sx.heap sx.heap [] := va_S.rf
  have hl : lv_has ls 3 [(0, .ref m0), (1, .int (nI co))] := hl
  refine lv_aload_n hx hb dX2_addPlayer_0 rfl (lv_at hl 0 rfl) ?_
  refine lv_iconst (v := nI 0) hx hb dX2_addPlayer_1 (by decide) ?_
  refine va_put (D := (dC, dI)) (ci := 2) (v := .int (nI 0)) (ty := .int) (C := RX2) (T := TX2) (N := 11) hx hb hts inX2 tyX2 tyX2_ok nmX2 hown hK hP hD hS 0 rfl rfl 0 (by decide) (hts _ q_fl_X2_29) (fun _ h9 => h9) rfl (by decide +kernel) rfl rfl (Nat.le_of_ble_eq_true rfl) dX2_addPlayer_2 (fun H locs hP hD hS => ?_)
  have hP : va_P (dC, dI) vwCl (mW cI cZ m0 m1 m2 m3 m4 m5 m6 0 n bg tn sl ht sn o nx kp ow) H := hP
  have hD : va_D (wIn (mW cI cZ m0 m1 m2 m3 m4 m5 m6 th n bg tn sl ht sn o nx kp ow)) (mW cI cZ m0 m1 m2 m3 m4 m5 m6 0 n bg tn sl ht sn o nx kp ow) := hD
  refine lv_iload_n hx hb dX2_addPlayer_5 rfl (lv_at hl 1 rfl) ?_
  refine call_Sp (As := [.int (nI co)]) (rest := []) S (m_X2_isColour_t co (by omega)) g_X2_X2_isColour hd_X2_isColour ⟨Nat.le_of_ble_eq_true rfl, Nat.le_of_ble_eq_true rfl⟩ ⟨Nat.zero_le _, Nat.zero_le _⟩ hP hD hK hS hZ [] rfl (by decide) hl.1 rfl (Nat.le_of_ble_eq_true rfl) dX2_addPlayer_6 (fun r H locs hq hP hS => ?_)
  obtain rfl := hq
  refine ifB_ne (tgt := 18) hx hb dX2_addPlayer_9 (by decide) (fun c_9 => ?_) (fun c_9 => absurd c_9 (by decide))
  refine lv_aload_n hx hb dX2_addPlayer_18 rfl (lv_at hl 0 rfl) ?_
  refine va_get (D := (dC, dI)) (ci := 2) (v := .int (nI n)) (C := RX2) (T := TX2) (N := 11) hx hb hts inX2 hown hK hP 0 rfl rfl 1 (by decide) (hts _ q_fl_X2_33) (fun _ h9 => h9) rfl dX2_addPlayer_19 ?_
  refine lv_iconst (v := nI 5) hx hb dX2_addPlayer_22 (by decide) ?_
  refine icN_eq (tgt := 33) hx hb dX2_addPlayer_23 (by decide) (by omega) (by omega) (fun c_23 => absurd c_23 (by omega)) (fun c_23 => ?_)
  refine lv_aload_n hx hb dX2_addPlayer_26 rfl (lv_at hl 0 rfl) ?_
  refine va_get (D := (dC, dI)) (ci := 2) (v := .int (bI bg)) (C := RX2) (T := TX2) (N := 11) hx hb hts inX2 hown hK hP 0 rfl rfl 2 (by decide) (hts _ q_fl_X2_92) (fun _ h9 => h9) rfl dX2_addPlayer_27 ?_
  refine ifB_eq (tgt := 39) hx hb dX2_addPlayer_30 (by decide) (fun c_30 => ?_) (fun c_30 => absurd c_30 (by rw [hu]; decide))
  refine lv_aload_n hx hb dX2_addPlayer_39 rfl (lv_at hl 0 rfl) ?_
  refine va_get (D := (dC, dI)) (ci := 2) (v := .ref m1) (C := RX2) (T := TX2) (N := 11) hx hb hts inX2 hown hK hP 0 rfl rfl 3 (by decide) (hts _ q_fl_X2_9) (fun _ h9 => h9) rfl dX2_addPlayer_40 ?_
  refine lv_aload_n hx hb dX2_addPlayer_43 rfl (lv_at hl 0 rfl) ?_
  refine va_get (D := (dC, dI)) (ci := 2) (v := .int (nI n)) (C := RX2) (T := TX2) (N := 11) hx hb hts inX2 hown hK hP 0 rfl rfl 1 (by decide) (hts _ q_fl_X2_33) (fun _ h9 => h9) rfl dX2_addPlayer_44 ?_
  refine lv_iload_n hx hb dX2_addPlayer_47 rfl (lv_at hl 1 rfl) ?_
  refine ia_st hx hb hK hP hD hS 1 0 rfl rfl (j := n) (v := co) (by omega) (by decide) dX2_addPlayer_48 (fun H locs hP hD hS => ?_)
  have hP : va_P (dC, dI) vwCl (mW cI cZ m0 m1 m2 m3 m4 m5 m6 0 n bg tn sl (upN ht n co) sn o nx kp ow) H := hP
  have hD : va_D (wIn (mW cI cZ m0 m1 m2 m3 m4 m5 m6 th n bg tn sl ht sn o nx kp ow)) (mW cI cZ m0 m1 m2 m3 m4 m5 m6 0 n bg tn sl (upN ht n co) sn o nx kp ow) := hD
  refine lv_iconst (v := nI 0) hx hb dX2_addPlayer_49 (by decide) ?_
  refine lv_istore_n (lv' := [(2, .int (nI 0)), (0, .ref m0), (1, .int (nI co))]) hx hb dX2_addPlayer_50 rfl hl (by decide) rfl (fun ls hl => ?_)
  have lp51 : ∀ (kf : Nat) (i : Nat), n < i + kf → (i ≤ n) → ∀ (H : Heap) (locs : List Loc), va_P (dC, dI) vwCl (mW cI cZ m0 m1 m2 m3 m4 m5 m6 0 n bg tn sl (upN ht n co) (mix (fun k => sn k ||| 1 * 2 ^ n) sn i) o nx kp ow) H → va_D (wIn (mW cI cZ m0 m1 m2 m3 m4 m5 m6 th n bg tn sl ht sn o nx kp ow)) (mW cI cZ m0 m1 m2 m3 m4 m5 m6 0 n bg tn sl (upN ht n co) (mix (fun k => sn k ||| 1 * 2 ^ n) sn i) o nx kp ow) → va_S (wIn (mW cI cZ m0 m1 m2 m3 m4 m5 m6 th n bg tn sl ht sn o nx kp ow)) sx.heap H locs → ∀ ls : Array Slot, lv_has ls 3 [(2, .int (nI i)), (0, .ref m0), (1, .int (nI co))] → W pr l ev (rmB 2 42) sx mi ag bl me cd H locs 0 0 Q (F0 mi 51 ls []) := by
    intro kf
    induction kf with
    | zero => intro i hkf hi; exact absurd hkf (by omega)
    | succ kf ih51 =>
      intro i hkf hi H locs hP hD hS ls hl
      refine lv_iload_n hx hb dX2_addPlayer_51 rfl (lv_at hl 0 rfl) ?_
      refine lv_aload_n hx hb dX2_addPlayer_52 rfl (lv_at hl 1 rfl) ?_
      refine va_get (D := (dC, dI)) (ci := 2) (v := .int (nI n)) (C := RX2) (T := TX2) (N := 11) hx hb hts inX2 hown hK hP 0 rfl rfl 1 (by decide) (hts _ q_fl_X2_33) (fun _ h9 => h9) rfl dX2_addPlayer_53 ?_
      refine icN_ge (tgt := 80) hx hb dX2_addPlayer_56 (by decide) (by omega) (by omega) (fun c_56 => ?_) (fun c_56 => ?_)
      · rw [show i = n by omega] at hP hD
        have hP : va_P (dC, dI) vwCl (mW cI cZ m0 m1 m2 m3 m4 m5 m6 0 n bg tn sl (upN ht n co) (mix (fun k => sn k ||| 1 * 2 ^ n) sn n) o nx kp ow) H := hP
        have hD : va_D (wIn (mW cI cZ m0 m1 m2 m3 m4 m5 m6 th n bg tn sl ht sn o nx kp ow)) (mW cI cZ m0 m1 m2 m3 m4 m5 m6 0 n bg tn sl (upN ht n co) (mix (fun k => sn k ||| 1 * 2 ^ n) sn n) o nx kp ow) := hD
        refine lv_aload_n hx hb dX2_addPlayer_80 rfl (lv_at hl 1 rfl) ?_
        refine va_get (D := (dC, dI)) (ci := 2) (v := .ref m2) (C := RX2) (T := TX2) (N := 11) hx hb hts inX2 hown hK hP 0 rfl rfl 4 (by decide) (hts _ q_fl_X2_13) (fun _ h9 => h9) rfl dX2_addPlayer_81 ?_
        refine lv_aload_n hx hb dX2_addPlayer_84 rfl (lv_at hl 1 rfl) ?_
        refine va_get (D := (dC, dI)) (ci := 2) (v := .int (nI n)) (C := RX2) (T := TX2) (N := 11) hx hb hts inX2 hown hK hP 0 rfl rfl 1 (by decide) (hts _ q_fl_X2_33) (fun _ h9 => h9) rfl dX2_addPlayer_85 ?_
        refine lv_iconst (v := nI 1) hx hb dX2_addPlayer_88 (by decide) ?_
        refine lv_aload_n hx hb dX2_addPlayer_89 rfl (lv_at hl 1 rfl) ?_
        refine va_get (D := (dC, dI)) (ci := 2) (v := .int (nI n)) (C := RX2) (T := TX2) (N := 11) hx hb hts inX2 hown hK hP 0 rfl rfl 1 (by decide) (hts _ q_fl_X2_33) (fun _ h9 => h9) rfl dX2_addPlayer_90 ?_
        refine lv_ishl hx hb dX2_addPlayer_93 ?_
        refine W_i (y := nI (1 * 2 ^ n)) (nI_shl _ (by omega)) ?_
        refine lv_iconst (v := nI 1) hx hb dX2_addPlayer_94 (by decide) ?_
        refine lv_isub hx hb dX2_addPlayer_95 ?_
        refine W_i (y := nI ((1 * 2 ^ n) - 1)) (pk_sub (one_p n)) ?_
        refine ia_st hx hb hK hP hD hS 2 0 rfl rfl (j := n) (v := (1 * 2 ^ n) - 1) (by omega) (by decide) dX2_addPlayer_96 (fun H locs hP hD hS => ?_)
        have hP : va_P (dC, dI) vwCl (mW cI cZ m0 m1 m2 m3 m4 m5 m6 0 n bg tn sl (upN ht n co) (upN (mix (fun k => sn k ||| 1 * 2 ^ n) sn n) n ((1 * 2 ^ n) - 1)) o nx kp ow) H := hP
        have hD : va_D (wIn (mW cI cZ m0 m1 m2 m3 m4 m5 m6 th n bg tn sl ht sn o nx kp ow)) (mW cI cZ m0 m1 m2 m3 m4 m5 m6 0 n bg tn sl (upN ht n co) (upN (mix (fun k => sn k ||| 1 * 2 ^ n) sn n) n ((1 * 2 ^ n) - 1)) o nx kp ow) := hD
        refine lv_aload_n hx hb dX2_addPlayer_97 rfl (lv_at hl 1 rfl) ?_
        refine lv_dup hx hb dX2_addPlayer_98 rfl ?_
        refine va_get (D := (dC, dI)) (ci := 2) (v := .int (nI n)) (C := RX2) (T := TX2) (N := 11) hx hb hts inX2 hown hK hP 0 rfl rfl 1 (by decide) (hts _ q_fl_X2_33) (fun _ h9 => h9) rfl dX2_addPlayer_99 ?_
        refine lv_iconst (v := nI 1) hx hb dX2_addPlayer_102 (by decide) ?_
        refine lv_iadd hx hb dX2_addPlayer_103 ?_
        refine W_i (y := nI (n + 1)) (nI_add _ _) ?_
        refine va_put (D := (dC, dI)) (ci := 2) (v := .int (nI (n + 1))) (ty := .int) (C := RX2) (T := TX2) (N := 11) hx hb hts inX2 tyX2 tyX2_ok nmX2 hown hK hP hD hS 0 rfl rfl 1 (by decide) (hts _ q_fl_X2_33) (fun _ h9 => h9) rfl (by decide +kernel) rfl rfl (Nat.le_of_ble_eq_true rfl) dX2_addPlayer_104 (fun H locs hP hD hS => ?_)
        have hP : va_P (dC, dI) vwCl (mW cI cZ m0 m1 m2 m3 m4 m5 m6 0 (n + 1) bg tn sl (upN ht n co) (upN (mix (fun k => sn k ||| 1 * 2 ^ n) sn n) n ((1 * 2 ^ n) - 1)) o nx kp ow) H := hP
        have hD : va_D (wIn (mW cI cZ m0 m1 m2 m3 m4 m5 m6 th n bg tn sl ht sn o nx kp ow)) (mW cI cZ m0 m1 m2 m3 m4 m5 m6 0 (n + 1) bg tn sl (upN ht n co) (upN (mix (fun k => sn k ||| 1 * 2 ^ n) sn n) n ((1 * 2 ^ n) - 1)) o nx kp ow) := hD
        refine lv_aload_n hx hb dX2_addPlayer_107 rfl (lv_at hl 1 rfl) ?_
        refine call_Vv (As := []) (wr := []) (rest := []) S (m_X2_openAll m0 m1 m2 m3 m4 m5 m6 0 (n + 1) bg tn sl (upN ht n co) (upN (mix (fun k => sn k ||| 1 * 2 ^ n) sn n) n ((1 * 2 ^ n) - 1)) o nx kp ow  (by omega)) g_X2_X2_openAll hd_X2_openAll ⟨Nat.le_of_ble_eq_true rfl, Nat.le_of_ble_eq_true rfl⟩ ⟨Nat.zero_le _, Nat.zero_le _⟩ hP hD hK hS hZ [0, 1, 2, 3, 4, 5, 6] [] rfl rfl (by decide) 0 rfl rfl hl.1 rfl (Nat.le_of_ble_eq_true rfl) dX2_addPlayer_108 (fun u H locs hq hP hD hS => ?_)
        obtain rfl := hq
        have hP : va_P (dC, dI) vwCl (mW cI cZ m0 m1 m2 m3 m4 m5 m6 0 (n + 1) bg tn sl (upN ht n co) (upN (mix (fun k => sn k ||| 1 * 2 ^ n) sn n) n ((1 * 2 ^ n) - 1)) (fun w => decide (w < 3 ^ (n + 1))) nx kp ow) H := hP
        have hD : va_D (wIn (mW cI cZ m0 m1 m2 m3 m4 m5 m6 th n bg tn sl ht sn o nx kp ow)) (mW cI cZ m0 m1 m2 m3 m4 m5 m6 0 (n + 1) bg tn sl (upN ht n co) (upN (mix (fun k => sn k ||| 1 * 2 ^ n) sn n) n ((1 * 2 ^ n) - 1)) (fun w => decide (w < 3 ^ (n + 1))) nx kp ow) := hD
        refine lv_aload_n hx hb dX2_addPlayer_111 rfl (lv_at hl 1 rfl) ?_
        refine va_get (D := (dC, dI)) (ci := 2) (v := .int (nI (n + 1))) (C := RX2) (T := TX2) (N := 11) hx hb hts inX2 hown hK hP 0 rfl rfl 1 (by decide) (hts _ q_fl_X2_33) (fun _ h9 => h9) rfl dX2_addPlayer_112 ?_
        refine lv_iconst (v := nI 1) hx hb dX2_addPlayer_115 (by decide) ?_
        refine lv_isub hx hb dX2_addPlayer_116 ?_
        refine W_i (y := nI n) ((pk_sub (by omega)).trans rfl) ?_
        exact ret _ (mW cI cZ m0 m1 m2 m3 m4 m5 m6 0 (n + 1) bg tn sl (upN ht n co) (upN (mix (fun k => sn k ||| 1 * 2 ^ n) sn n) n ((1 * 2 ^ n) - 1)) (fun w => decide (w < 3 ^ (n + 1))) nx kp ow) _ _ _ _ dX2_addPlayer_117 rfl ⟨rfl, rfl⟩ (List.Perm.refl _) hP hS
      · refine lv_aload_n hx hb dX2_addPlayer_59 rfl (lv_at hl 1 rfl) ?_
        refine va_get (D := (dC, dI)) (ci := 2) (v := .ref m2) (C := RX2) (T := TX2) (N := 11) hx hb hts inX2 hown hK hP 0 rfl rfl 4 (by decide) (hts _ q_fl_X2_13) (fun _ h9 => h9) rfl dX2_addPlayer_60 ?_
        refine lv_iload_n hx hb dX2_addPlayer_63 rfl (lv_at hl 0 rfl) ?_
        refine lv_dup2_11 hx hb dX2_addPlayer_64 rfl rfl ?_
        refine ia_ld hx hb hK hP 2 0 rfl rfl (j := i) (by omega) (by decide) dX2_addPlayer_65 ?_
        refine W_i (y := nI (sn i)) (by rw [mix_ge (Nat.le_refl _)]) ?_
        refine lv_iconst (v := nI 1) hx hb dX2_addPlayer_66 (by decide) ?_
        refine lv_aload_n hx hb dX2_addPlayer_67 rfl (lv_at hl 1 rfl) ?_
        refine va_get (D := (dC, dI)) (ci := 2) (v := .int (nI n)) (C := RX2) (T := TX2) (N := 11) hx hb hts inX2 hown hK hP 0 rfl rfl 1 (by decide) (hts _ q_fl_X2_33) (fun _ h9 => h9) rfl dX2_addPlayer_68 ?_
        refine lv_ishl hx hb dX2_addPlayer_71 ?_
        refine W_i (y := nI (1 * 2 ^ n)) (nI_shl _ (by omega)) ?_
        refine lv_ior hx hb dX2_addPlayer_72 ?_
        refine W_i (y := nI ((sn i) ||| (1 * 2 ^ n))) (nI_or _ _) ?_
        refine ia_st hx hb hK hP hD hS 2 0 rfl rfl (j := i) (v := (sn i) ||| (1 * 2 ^ n)) (by omega) (by decide) dX2_addPlayer_73 (fun H locs hP hD hS => ?_)
        rw [show (upN (mix (fun k => sn k ||| 1 * 2 ^ n) sn i) i ((sn i) ||| (1 * 2 ^ n))) = (mix (fun k => sn k ||| 1 * 2 ^ n) sn (i + 1)) from mix_s rfl] at hP hD
        have hP : va_P (dC, dI) vwCl (mW cI cZ m0 m1 m2 m3 m4 m5 m6 0 n bg tn sl (upN ht n co) (mix (fun k => sn k ||| 1 * 2 ^ n) sn (i + 1)) o nx kp ow) H := hP
        have hD : va_D (wIn (mW cI cZ m0 m1 m2 m3 m4 m5 m6 th n bg tn sl ht sn o nx kp ow)) (mW cI cZ m0 m1 m2 m3 m4 m5 m6 0 n bg tn sl (upN ht n co) (mix (fun k => sn k ||| 1 * 2 ^ n) sn (i + 1)) o nx kp ow) := hD
        refine lv_iinc (v := nI (i + 1)) (lv' := [(2, .int (nI (i + 1))), (0, .ref m0), (1, .int (nI co))]) hx hb dX2_addPlayer_74 hl (k := 0) rfl (nI_add _ _) (by decide) rfl (fun ls hl => ?_)
        refine lv_goto (tgt := 51) hx hb dX2_addPlayer_77 (by decide) ?_
        exact ih51 (i + 1) (by omega) (by omega) _ _ hP hD hS _ (lv_sub hl [0, 1, 2] rfl)
  rw [← mix_0 (fun k => sn k ||| 1 * 2 ^ n) sn] at hP hD
  exact lp51 (n + 1) 0 (by omega) (by omega) _ _ hP hD hS _ (lv_sub hl [0, 1, 2] rfl)

set_option maxHeartbeats 4000000 in
set_option maxRecDepth 100000 in
theorem mf_X2_addPlayer_a (m0 m1 m2 m3 m4 m5 m6 th n : Nat) (bg : Bool) (tn sl : Nat) (ht sn : Nat → Nat) (o nx kp : Nat → Bool) (ow : Nat → Nat) (a0 : Int32) (ha0 : ∀ j, j < 3 → a0 ≠ nI j) : Mi l yX2_addPlayer ws_X2_addPlayer 2 42 (dC, dI) (tyL cI cZ cJ) [.ref m0, .int a0] (mW cI cZ m0 m1 m2 m3 m4 m5 m6 th n bg tn sl ht sn o nx kp ow) (fun r u => r = nI 0 ∧ u = mW cI cZ m0 m1 m2 m3 m4 m5 m6 1 n bg tn sl ht sn o nx kp ow) := by
  refine Mi_of (by decide +kernel) (Nat.le_of_ble_eq_true rfl) ?_
  intro pr ev sx mi ag bl me cd Q ls S hP hK hD hZ hl ret
  obtain ⟨hx, hb, hml, hown, hts⟩ := id S
  have hown : sx.vm.findClass RX2 = some mi.cls := hown
  have hS : va_S (wIn (mW cI cZ m0 m1 m2 m3 m4 m5 m6 th n bg tn sl ht sn o nx kp ow)) sx.heap sx.heap [] := va_S.rf
  have hl : lv_has ls 3 [(0, .ref m0), (1, .int a0)] := hl
  refine lv_aload_n hx hb dX2_addPlayer_0 rfl (lv_at hl 0 rfl) ?_
  refine lv_iconst (v := nI 0) hx hb dX2_addPlayer_1 (by decide) ?_
  refine va_put (D := (dC, dI)) (ci := 2) (v := .int (nI 0)) (ty := .int) (C := RX2) (T := TX2) (N := 11) hx hb hts inX2 tyX2 tyX2_ok nmX2 hown hK hP hD hS 0 rfl rfl 0 (by decide) (hts _ q_fl_X2_29) (fun _ h9 => h9) rfl (by decide +kernel) rfl rfl (Nat.le_of_ble_eq_true rfl) dX2_addPlayer_2 (fun H locs hP hD hS => ?_)
  have hP : va_P (dC, dI) vwCl (mW cI cZ m0 m1 m2 m3 m4 m5 m6 0 n bg tn sl ht sn o nx kp ow) H := hP
  have hD : va_D (wIn (mW cI cZ m0 m1 m2 m3 m4 m5 m6 th n bg tn sl ht sn o nx kp ow)) (mW cI cZ m0 m1 m2 m3 m4 m5 m6 0 n bg tn sl ht sn o nx kp ow) := hD
  refine lv_iload_n hx hb dX2_addPlayer_5 rfl (lv_at hl 1 rfl) ?_
  refine call_Sp (As := [.int a0]) (rest := []) S (m_X2_isColour_f a0 ha0) g_X2_X2_isColour hd_X2_isColour ⟨Nat.le_of_ble_eq_true rfl, Nat.le_of_ble_eq_true rfl⟩ ⟨Nat.zero_le _, Nat.zero_le _⟩ hP hD hK hS hZ [] rfl (by decide) hl.1 rfl (Nat.le_of_ble_eq_true rfl) dX2_addPlayer_6 (fun r H locs hq hP hS => ?_)
  obtain rfl := hq
  refine ifB_ne (tgt := 18) hx hb dX2_addPlayer_9 (by decide) (fun c_9 => absurd c_9 (by decide)) (fun c_9 => ?_)
  refine lv_aload_n hx hb dX2_addPlayer_12 rfl (lv_at hl 0 rfl) ?_
  refine lv_iconst (v := nI 1) hx hb dX2_addPlayer_13 (by decide) ?_
  refine call_Vi (As := [.int (nI 1)]) (wr := []) (rest := []) S (m_X2_fail m0 m1 m2 m3 m4 m5 m6 0 n bg tn sl ht sn o nx kp ow 1 ) g_X2_X2_fail hd_X2_fail ⟨Nat.le_of_ble_eq_true rfl, Nat.le_of_ble_eq_true rfl⟩ ⟨Nat.zero_le _, Nat.zero_le _⟩ hP hD hK hS hZ [0, 1, 2, 3, 4, 5, 6] [] rfl rfl (by decide) 0 rfl rfl hl.1 rfl (Nat.le_of_ble_eq_true rfl) dX2_addPlayer_14 (fun r u H locs hq hP hD hS => ?_)
  obtain ⟨rfl, rfl⟩ := hq
  have hP : va_P (dC, dI) vwCl (mW cI cZ m0 m1 m2 m3 m4 m5 m6 1 n bg tn sl ht sn o nx kp ow) H := hP
  have hD : va_D (wIn (mW cI cZ m0 m1 m2 m3 m4 m5 m6 th n bg tn sl ht sn o nx kp ow)) (mW cI cZ m0 m1 m2 m3 m4 m5 m6 1 n bg tn sl ht sn o nx kp ow) := hD
  exact ret _ (mW cI cZ m0 m1 m2 m3 m4 m5 m6 1 n bg tn sl ht sn o nx kp ow) _ _ _ _ dX2_addPlayer_17 rfl ⟨rfl, rfl⟩ (List.Perm.refl _) hP hS

set_option maxHeartbeats 4000000 in
set_option maxRecDepth 100000 in
theorem mf_X2_addPlayer_b (m0 m1 m2 m3 m4 m5 m6 th n : Nat) (bg : Bool) (tn sl : Nat) (ht sn : Nat → Nat) (o nx kp : Nat → Bool) (ow : Nat → Nat) (co : Nat) (hn : n ≤ 5) (hco : co < 3) (hb0 : n < 5 → bg = true) : Mi l yX2_addPlayer ws_X2_addPlayer 2 42 (dC, dI) (tyL cI cZ cJ) [.ref m0, .int (nI co)] (mW cI cZ m0 m1 m2 m3 m4 m5 m6 th n bg tn sl ht sn o nx kp ow) (fun r u => r = nI 0 ∧ u = mW cI cZ m0 m1 m2 m3 m4 m5 m6 2 n bg tn sl ht sn o nx kp ow) := by
  refine Mi_of (by decide +kernel) (Nat.le_of_ble_eq_true rfl) ?_
  intro pr ev sx mi ag bl me cd Q ls S hP hK hD hZ hl ret
  obtain ⟨hx, hb, hml, hown, hts⟩ := id S
  have hown : sx.vm.findClass RX2 = some mi.cls := hown
  have hS : va_S (wIn (mW cI cZ m0 m1 m2 m3 m4 m5 m6 th n bg tn sl ht sn o nx kp ow)) sx.heap sx.heap [] := va_S.rf
  have hl : lv_has ls 3 [(0, .ref m0), (1, .int (nI co))] := hl
  refine lv_aload_n hx hb dX2_addPlayer_0 rfl (lv_at hl 0 rfl) ?_
  refine lv_iconst (v := nI 0) hx hb dX2_addPlayer_1 (by decide) ?_
  refine va_put (D := (dC, dI)) (ci := 2) (v := .int (nI 0)) (ty := .int) (C := RX2) (T := TX2) (N := 11) hx hb hts inX2 tyX2 tyX2_ok nmX2 hown hK hP hD hS 0 rfl rfl 0 (by decide) (hts _ q_fl_X2_29) (fun _ h9 => h9) rfl (by decide +kernel) rfl rfl (Nat.le_of_ble_eq_true rfl) dX2_addPlayer_2 (fun H locs hP hD hS => ?_)
  have hP : va_P (dC, dI) vwCl (mW cI cZ m0 m1 m2 m3 m4 m5 m6 0 n bg tn sl ht sn o nx kp ow) H := hP
  have hD : va_D (wIn (mW cI cZ m0 m1 m2 m3 m4 m5 m6 th n bg tn sl ht sn o nx kp ow)) (mW cI cZ m0 m1 m2 m3 m4 m5 m6 0 n bg tn sl ht sn o nx kp ow) := hD
  refine lv_iload_n hx hb dX2_addPlayer_5 rfl (lv_at hl 1 rfl) ?_
  refine call_Sp (As := [.int (nI co)]) (rest := []) S (m_X2_isColour_t co (by omega)) g_X2_X2_isColour hd_X2_isColour ⟨Nat.le_of_ble_eq_true rfl, Nat.le_of_ble_eq_true rfl⟩ ⟨Nat.zero_le _, Nat.zero_le _⟩ hP hD hK hS hZ [] rfl (by decide) hl.1 rfl (Nat.le_of_ble_eq_true rfl) dX2_addPlayer_6 (fun r H locs hq hP hS => ?_)
  obtain rfl := hq
  refine ifB_ne (tgt := 18) hx hb dX2_addPlayer_9 (by decide) (fun c_9 => ?_) (fun c_9 => absurd c_9 (by decide))
  refine lv_aload_n hx hb dX2_addPlayer_18 rfl (lv_at hl 0 rfl) ?_
  refine va_get (D := (dC, dI)) (ci := 2) (v := .int (nI n)) (C := RX2) (T := TX2) (N := 11) hx hb hts inX2 hown hK hP 0 rfl rfl 1 (by decide) (hts _ q_fl_X2_33) (fun _ h9 => h9) rfl dX2_addPlayer_19 ?_
  refine lv_iconst (v := nI 5) hx hb dX2_addPlayer_22 (by decide) ?_
  refine icN_eq (tgt := 33) hx hb dX2_addPlayer_23 (by decide) (by omega) (by omega) (fun c_23 => ?_) (fun c_23 => ?_)
  · refine lv_aload_n hx hb dX2_addPlayer_33 rfl (lv_at hl 0 rfl) ?_
    refine lv_iconst (v := nI 2) hx hb dX2_addPlayer_34 (by decide) ?_
    refine call_Vi (As := [.int (nI 2)]) (wr := []) (rest := []) S (m_X2_fail m0 m1 m2 m3 m4 m5 m6 0 n bg tn sl ht sn o nx kp ow 2 ) g_X2_X2_fail hd_X2_fail ⟨Nat.le_of_ble_eq_true rfl, Nat.le_of_ble_eq_true rfl⟩ ⟨Nat.zero_le _, Nat.zero_le _⟩ hP hD hK hS hZ [0, 1, 2, 3, 4, 5, 6] [] rfl rfl (by decide) 0 rfl rfl hl.1 rfl (Nat.le_of_ble_eq_true rfl) dX2_addPlayer_35 (fun r u H locs hq hP hD hS => ?_)
    obtain ⟨rfl, rfl⟩ := hq
    have hP : va_P (dC, dI) vwCl (mW cI cZ m0 m1 m2 m3 m4 m5 m6 2 n bg tn sl ht sn o nx kp ow) H := hP
    have hD : va_D (wIn (mW cI cZ m0 m1 m2 m3 m4 m5 m6 th n bg tn sl ht sn o nx kp ow)) (mW cI cZ m0 m1 m2 m3 m4 m5 m6 2 n bg tn sl ht sn o nx kp ow) := hD
    exact ret _ (mW cI cZ m0 m1 m2 m3 m4 m5 m6 2 n bg tn sl ht sn o nx kp ow) _ _ _ _ dX2_addPlayer_38 rfl ⟨rfl, rfl⟩ (List.Perm.refl _) hP hS
  · refine lv_aload_n hx hb dX2_addPlayer_26 rfl (lv_at hl 0 rfl) ?_
    refine va_get (D := (dC, dI)) (ci := 2) (v := .int (bI bg)) (C := RX2) (T := TX2) (N := 11) hx hb hts inX2 hown hK hP 0 rfl rfl 2 (by decide) (hts _ q_fl_X2_92) (fun _ h9 => h9) rfl dX2_addPlayer_27 ?_
    refine ifB_eq (tgt := 39) hx hb dX2_addPlayer_30 (by decide) (fun c_30 => absurd c_30 (by rw [hb0 (by omega)]; decide)) (fun c_30 => ?_)
    refine lv_aload_n hx hb dX2_addPlayer_33 rfl (lv_at hl 0 rfl) ?_
    refine lv_iconst (v := nI 2) hx hb dX2_addPlayer_34 (by decide) ?_
    refine call_Vi (As := [.int (nI 2)]) (wr := []) (rest := []) S (m_X2_fail m0 m1 m2 m3 m4 m5 m6 0 n bg tn sl ht sn o nx kp ow 2 ) g_X2_X2_fail hd_X2_fail ⟨Nat.le_of_ble_eq_true rfl, Nat.le_of_ble_eq_true rfl⟩ ⟨Nat.zero_le _, Nat.zero_le _⟩ hP hD hK hS hZ [0, 1, 2, 3, 4, 5, 6] [] rfl rfl (by decide) 0 rfl rfl hl.1 rfl (Nat.le_of_ble_eq_true rfl) dX2_addPlayer_35 (fun r u H locs hq hP hD hS => ?_)
    obtain ⟨rfl, rfl⟩ := hq
    have hP : va_P (dC, dI) vwCl (mW cI cZ m0 m1 m2 m3 m4 m5 m6 2 n bg tn sl ht sn o nx kp ow) H := hP
    have hD : va_D (wIn (mW cI cZ m0 m1 m2 m3 m4 m5 m6 th n bg tn sl ht sn o nx kp ow)) (mW cI cZ m0 m1 m2 m3 m4 m5 m6 2 n bg tn sl ht sn o nx kp ow) := hD
    exact ret _ (mW cI cZ m0 m1 m2 m3 m4 m5 m6 2 n bg tn sl ht sn o nx kp ow) _ _ _ _ dX2_addPlayer_38 rfl ⟨rfl, rfl⟩ (List.Perm.refl _) hP hS

set_option maxHeartbeats 4000000 in
set_option maxRecDepth 100000 in
theorem m_X2_takeTurn (m0 m1 m2 m3 m4 m5 m6 th n : Nat) (bg : Bool) (tn sl : Nat) (ht sn : Nat → Nat) (o nx kp : Nat → Bool) (ow : Nat → Nat) (hn : n ≤ 5) (hsn : ∀ p, p < 5 → sn p < 32) (hht : ∀ p, p < 5 → ht p < 3) (htn : tn < 2 ^ 20) (h0n : 0 < n) : Mi l yX2_takeTurn ws_X2_takeTurn 4 94 (dC, dI) (tyL cI cZ cJ) [.ref m0] (mW cI cZ m0 m1 m2 m3 m4 m5 m6 th n bg tn sl ht sn o nx kp ow) (fun r u => r = tuI sn o n (tn % n) (realN ht n) ∧ u = mW cI cZ m0 m1 m2 m4 m3 m5 m6 0 n true (tn + 1) (if mayM sn o n (tn % n) (realN ht n) = true then sl else sl + 1) ht sn (mix (turnM sn o n (tn % n) (realN ht n)) nx (3 ^ n)) o kp (lookF sn (tn % n) o n ow (3 ^ n))) := by
  refine Mi_of (by decide +kernel) (Nat.le_of_ble_eq_true rfl) ?_
  intro pr ev sx mi ag bl me cd Q ls S hP hK hD hZ hl ret
  obtain ⟨hx, hb, hml, hown, hts⟩ := id S
  have hown : sx.vm.findClass RX2 = some mi.cls := hown
  have hS : va_S (wIn (mW cI cZ m0 m1 m2 m3 m4 m5 m6 th n bg tn sl ht sn o nx kp ow)) sx.heap sx.heap [] := va_S.rf
  have hl : lv_has ls 2 [(0, .ref m0)] := hl
  have h3 := p3_243 n hn; have h30 := p3_0 n
  have hre : realN ht n < 3 ^ n := realN_lt n (fun p hp => hht p (by omega))
  refine lv_aload_n hx hb dX2_takeTurn_0 rfl (lv_at hl 0 rfl) ?_
  refine lv_iconst (v := nI 0) hx hb dX2_takeTurn_1 (by decide) ?_
  refine va_put (D := (dC, dI)) (ci := 2) (v := .int (nI 0)) (ty := .int) (C := RX2) (T := TX2) (N := 11) hx hb hts inX2 tyX2 tyX2_ok nmX2 hown hK hP hD hS 0 rfl rfl 0 (by decide) (hts _ q_fl_X2_29) (fun _ h9 => h9) rfl (by decide +kernel) rfl rfl (Nat.le_of_ble_eq_true rfl) dX2_takeTurn_2 (fun H locs hP hD hS => ?_)
  have hP : va_P (dC, dI) vwCl (mW cI cZ m0 m1 m2 m3 m4 m5 m6 0 n bg tn sl ht sn o nx kp ow) H := hP
  have hD : va_D (wIn (mW cI cZ m0 m1 m2 m3 m4 m5 m6 th n bg tn sl ht sn o nx kp ow)) (mW cI cZ m0 m1 m2 m3 m4 m5 m6 0 n bg tn sl ht sn o nx kp ow) := hD
  refine lv_aload_n hx hb dX2_takeTurn_5 rfl (lv_at hl 0 rfl) ?_
  refine va_get (D := (dC, dI)) (ci := 2) (v := .int (nI n)) (C := RX2) (T := TX2) (N := 11) hx hb hts inX2 hown hK hP 0 rfl rfl 1 (by decide) (hts _ q_fl_X2_33) (fun _ h9 => h9) rfl dX2_takeTurn_6 ?_
  refine ifN_ne (tgt := 18) hx hb dX2_takeTurn_9 (by decide) (by omega) (fun c_9 => ?_) (fun c_9 => absurd c_9 (by omega))
  refine lv_aload_n hx hb dX2_takeTurn_18 rfl (lv_at hl 0 rfl) ?_
  refine lv_aload_n hx hb dX2_takeTurn_19 rfl (lv_at hl 0 rfl) ?_
  refine call_Vp (As := []) (rest := [.ref m0]) S (m_X2_whose_p m0 m1 m2 m3 m4 m5 m6 0 n bg tn sl ht sn o nx kp ow hn htn (by omega)) g_X2_X2_whose hd_X2_whose ⟨Nat.le_of_ble_eq_true rfl, Nat.le_of_ble_eq_true rfl⟩ ⟨Nat.zero_le _, Nat.zero_le _⟩ hP hD hK hS hZ [0, 1, 2, 3, 4, 5, 6] rfl (by decide) 0 rfl rfl hl.1 rfl (Nat.le_of_ble_eq_true rfl) dX2_takeTurn_20 (fun r H locs hq hP hS => ?_)
  obtain rfl := hq
  refine lv_aload_n hx hb dX2_takeTurn_23 rfl (lv_at hl 0 rfl) ?_
  refine call_Vp (As := []) (rest := [.int (nI (tn % n)), .ref m0]) S (m_X2_real m0 m1 m2 m3 m4 m5 m6 0 n bg tn sl ht sn o nx kp ow  hn) g_X2_X2_real hd_X2_real ⟨Nat.le_of_ble_eq_true rfl, Nat.le_of_ble_eq_true rfl⟩ ⟨Nat.zero_le _, Nat.zero_le _⟩ hP hD hK hS hZ [0, 1, 2, 3, 4, 5, 6] rfl (by decide) 0 rfl rfl hl.1 rfl (Nat.le_of_ble_eq_true rfl) dX2_takeTurn_24 (fun r H locs hq hP hS => ?_)
  obtain rfl := hq
  refine call_Vi (As := [.int (nI (tn % n)), .int (nI (realN ht n))]) (wr := []) (rest := []) S (m_X2_turn m0 m1 m2 m3 m4 m5 m6 0 n bg tn sl ht sn o nx kp ow (tn % n) (realN ht n) hn hsn (mod5 h0n hn) (by omega)) g_X2_X2_turn hd_X2_turn ⟨Nat.le_of_ble_eq_true rfl, Nat.le_of_ble_eq_true rfl⟩ ⟨Nat.zero_le _, Nat.zero_le _⟩ hP hD hK hS hZ [0, 1, 2, 3, 4, 5, 6] [] rfl rfl (by decide) 0 rfl rfl hl.1 rfl (Nat.le_of_ble_eq_true rfl) dX2_takeTurn_27 (fun r u H locs hq hP hD hS => ?_)
  obtain ⟨rfl, rfl⟩ := hq
  have hP : va_P (dC, dI) vwCl (mW cI cZ m0 m1 m2 m4 m3 m5 m6 0 n bg tn sl ht sn (mix (turnM sn o n (tn % n) (realN ht n)) nx (3 ^ n)) o kp (lookF sn (tn % n) o n ow (3 ^ n))) H := hP
  have hD : va_D (wIn (mW cI cZ m0 m1 m2 m3 m4 m5 m6 th n bg tn sl ht sn o nx kp ow)) (mW cI cZ m0 m1 m2 m4 m3 m5 m6 0 n bg tn sl ht sn (mix (turnM sn o n (tn % n) (realN ht n)) nx (3 ^ n)) o kp (lookF sn (tn % n) o n ow (3 ^ n))) := hD
  refine lv_istore_n (lv' := [(1, .int (tuI sn o n (tn % n) (realN ht n))), (0, .ref m0)]) hx hb dX2_takeTurn_30 rfl hl (by decide) rfl (fun ls hl => ?_)
  refine lv_aload_n hx hb dX2_takeTurn_31 rfl (lv_at hl 1 rfl) ?_
  refine lv_dup hx hb dX2_takeTurn_32 rfl ?_
  refine va_get (D := (dC, dI)) (ci := 2) (v := .int (nI tn)) (C := RX2) (T := TX2) (N := 11) hx hb hts inX2 hown hK hP 0 rfl rfl 9 (by decide) (hts _ q_fl_X2_105) (fun _ h9 => h9) rfl dX2_takeTurn_33 ?_
  refine lv_iconst (v := nI 1) hx hb dX2_takeTurn_36 (by decide) ?_
  refine lv_iadd hx hb dX2_takeTurn_37 ?_
  refine W_i (y := nI (tn + 1)) (nI_add _ _) ?_
  refine va_put (D := (dC, dI)) (ci := 2) (v := .int (nI (tn + 1))) (ty := .int) (C := RX2) (T := TX2) (N := 11) hx hb hts inX2 tyX2 tyX2_ok nmX2 hown hK hP hD hS 0 rfl rfl 9 (by decide) (hts _ q_fl_X2_105) (fun _ h9 => h9) rfl (by decide +kernel) rfl rfl (Nat.le_of_ble_eq_true rfl) dX2_takeTurn_38 (fun H locs hP hD hS => ?_)
  have hP : va_P (dC, dI) vwCl (mW cI cZ m0 m1 m2 m4 m3 m5 m6 0 n bg (tn + 1) sl ht sn (mix (turnM sn o n (tn % n) (realN ht n)) nx (3 ^ n)) o kp (lookF sn (tn % n) o n ow (3 ^ n))) H := hP
  have hD : va_D (wIn (mW cI cZ m0 m1 m2 m3 m4 m5 m6 th n bg tn sl ht sn o nx kp ow)) (mW cI cZ m0 m1 m2 m4 m3 m5 m6 0 n bg (tn + 1) sl ht sn (mix (turnM sn o n (tn % n) (realN ht n)) nx (3 ^ n)) o kp (lookF sn (tn % n) o n ow (3 ^ n))) := hD
  refine lv_aload_n hx hb dX2_takeTurn_41 rfl (lv_at hl 1 rfl) ?_
  refine lv_dup hx hb dX2_takeTurn_42 rfl ?_
  refine va_get (D := (dC, dI)) (ci := 2) (v := .int (nI sl)) (C := RX2) (T := TX2) (N := 11) hx hb hts inX2 hown hK hP 0 rfl rfl 10 (by decide) (hts _ q_fl_X2_114) (fun _ h9 => h9) rfl dX2_takeTurn_43 ?_
  refine lv_iload_n hx hb dX2_takeTurn_46 rfl (lv_at hl 0 rfl) ?_
  refine lv_iconst (v := (-1)) hx hb dX2_takeTurn_47 (by decide) ?_
  refine lv_icmp_ne (tgt := 55) hx hb dX2_takeTurn_48 (by decide) (fun c_48 => ?_) (fun c_48 => ?_)
  · refine lv_iconst (v := nI 0) hx hb dX2_takeTurn_55 (by decide) ?_
    refine lv_iadd hx hb dX2_takeTurn_56 ?_
    refine W_i (y := nI (sl + 0)) (nI_add _ _) ?_
    refine va_put (D := (dC, dI)) (ci := 2) (v := .int (nI (sl + 0))) (ty := .int) (C := RX2) (T := TX2) (N := 11) hx hb hts inX2 tyX2 tyX2_ok nmX2 hown hK hP hD hS 0 rfl rfl 10 (by decide) (hts _ q_fl_X2_114) (fun _ h9 => h9) rfl (by decide +kernel) rfl rfl (Nat.le_of_ble_eq_true rfl) dX2_takeTurn_57 (fun H locs hP hD hS => ?_)
    have hP : va_P (dC, dI) vwCl (mW cI cZ m0 m1 m2 m4 m3 m5 m6 0 n bg (tn + 1) (sl + 0) ht sn (mix (turnM sn o n (tn % n) (realN ht n)) nx (3 ^ n)) o kp (lookF sn (tn % n) o n ow (3 ^ n))) H := hP
    have hD : va_D (wIn (mW cI cZ m0 m1 m2 m3 m4 m5 m6 th n bg tn sl ht sn o nx kp ow)) (mW cI cZ m0 m1 m2 m4 m3 m5 m6 0 n bg (tn + 1) (sl + 0) ht sn (mix (turnM sn o n (tn % n) (realN ht n)) nx (3 ^ n)) o kp (lookF sn (tn % n) o n ow (3 ^ n))) := hD
    refine lv_aload_n hx hb dX2_takeTurn_60 rfl (lv_at hl 1 rfl) ?_
    refine lv_iconst (v := nI 1) hx hb dX2_takeTurn_61 (by decide) ?_
    refine W_i (y := bI true) rfl ?_
    refine va_put (D := (dC, dI)) (ci := 2) (v := .int (bI true)) (ty := .boolean) (C := RX2) (T := TX2) (N := 11) hx hb hts inX2 tyX2 tyX2_ok nmX2 hown hK hP hD hS 0 rfl rfl 2 (by decide) (hts _ q_fl_X2_92) (fun _ h9 => h9) rfl (by decide +kernel) rfl rfl (Nat.le_of_ble_eq_true rfl) dX2_takeTurn_62 (fun H locs hP hD hS => ?_)
    have hP : va_P (dC, dI) vwCl (mW cI cZ m0 m1 m2 m4 m3 m5 m6 0 n true (tn + 1) (sl + 0) ht sn (mix (turnM sn o n (tn % n) (realN ht n)) nx (3 ^ n)) o kp (lookF sn (tn % n) o n ow (3 ^ n))) H := hP
    have hD : va_D (wIn (mW cI cZ m0 m1 m2 m3 m4 m5 m6 th n bg tn sl ht sn o nx kp ow)) (mW cI cZ m0 m1 m2 m4 m3 m5 m6 0 n true (tn + 1) (sl + 0) ht sn (mix (turnM sn o n (tn % n) (realN ht n)) nx (3 ^ n)) o kp (lookF sn (tn % n) o n ow (3 ^ n))) := hD
    refine lv_iload_n hx hb dX2_takeTurn_65 rfl (lv_at hl 0 rfl) ?_
    exact ret _ (mW cI cZ m0 m1 m2 m4 m3 m5 m6 0 n true (tn + 1) (sl + 0) ht sn (mix (turnM sn o n (tn % n) (realN ht n)) nx (3 ^ n)) o kp (lookF sn (tn % n) o n ow (3 ^ n))) _ _ _ _ dX2_takeTurn_66 rfl ⟨rfl, by rw [show (if mayM sn o n (tn % n) (realN ht n) = true then sl else sl + 1) = sl + 0 from if_pos (tuI_t c_48)]⟩ (mW_swap _ _ _ _ _ _ _) hP hS
  · refine lv_iconst (v := nI 1) hx hb dX2_takeTurn_51 (by decide) ?_
    refine lv_goto (tgt := 56) hx hb dX2_takeTurn_52 (by decide) ?_
    refine lv_iadd hx hb dX2_takeTurn_56 ?_
    refine W_i (y := nI (sl + 1)) (nI_add _ _) ?_
    refine va_put (D := (dC, dI)) (ci := 2) (v := .int (nI (sl + 1))) (ty := .int) (C := RX2) (T := TX2) (N := 11) hx hb hts inX2 tyX2 tyX2_ok nmX2 hown hK hP hD hS 0 rfl rfl 10 (by decide) (hts _ q_fl_X2_114) (fun _ h9 => h9) rfl (by decide +kernel) rfl rfl (Nat.le_of_ble_eq_true rfl) dX2_takeTurn_57 (fun H locs hP hD hS => ?_)
    have hP : va_P (dC, dI) vwCl (mW cI cZ m0 m1 m2 m4 m3 m5 m6 0 n bg (tn + 1) (sl + 1) ht sn (mix (turnM sn o n (tn % n) (realN ht n)) nx (3 ^ n)) o kp (lookF sn (tn % n) o n ow (3 ^ n))) H := hP
    have hD : va_D (wIn (mW cI cZ m0 m1 m2 m3 m4 m5 m6 th n bg tn sl ht sn o nx kp ow)) (mW cI cZ m0 m1 m2 m4 m3 m5 m6 0 n bg (tn + 1) (sl + 1) ht sn (mix (turnM sn o n (tn % n) (realN ht n)) nx (3 ^ n)) o kp (lookF sn (tn % n) o n ow (3 ^ n))) := hD
    refine lv_aload_n hx hb dX2_takeTurn_60 rfl (lv_at hl 1 rfl) ?_
    refine lv_iconst (v := nI 1) hx hb dX2_takeTurn_61 (by decide) ?_
    refine W_i (y := bI true) rfl ?_
    refine va_put (D := (dC, dI)) (ci := 2) (v := .int (bI true)) (ty := .boolean) (C := RX2) (T := TX2) (N := 11) hx hb hts inX2 tyX2 tyX2_ok nmX2 hown hK hP hD hS 0 rfl rfl 2 (by decide) (hts _ q_fl_X2_92) (fun _ h9 => h9) rfl (by decide +kernel) rfl rfl (Nat.le_of_ble_eq_true rfl) dX2_takeTurn_62 (fun H locs hP hD hS => ?_)
    have hP : va_P (dC, dI) vwCl (mW cI cZ m0 m1 m2 m4 m3 m5 m6 0 n true (tn + 1) (sl + 1) ht sn (mix (turnM sn o n (tn % n) (realN ht n)) nx (3 ^ n)) o kp (lookF sn (tn % n) o n ow (3 ^ n))) H := hP
    have hD : va_D (wIn (mW cI cZ m0 m1 m2 m3 m4 m5 m6 th n bg tn sl ht sn o nx kp ow)) (mW cI cZ m0 m1 m2 m4 m3 m5 m6 0 n true (tn + 1) (sl + 1) ht sn (mix (turnM sn o n (tn % n) (realN ht n)) nx (3 ^ n)) o kp (lookF sn (tn % n) o n ow (3 ^ n))) := hD
    refine lv_iload_n hx hb dX2_takeTurn_65 rfl (lv_at hl 0 rfl) ?_
    exact ret _ (mW cI cZ m0 m1 m2 m4 m3 m5 m6 0 n true (tn + 1) (sl + 1) ht sn (mix (turnM sn o n (tn % n) (realN ht n)) nx (3 ^ n)) o kp (lookF sn (tn % n) o n ow (3 ^ n))) _ _ _ _ dX2_takeTurn_66 rfl ⟨rfl, by rw [show (if mayM sn o n (tn % n) (realN ht n) = true then sl else sl + 1) = sl + 1 from if_neg (tuI_f c_48)]⟩ (mW_swap _ _ _ _ _ _ _) hP hS

set_option maxHeartbeats 4000000 in
set_option maxRecDepth 100000 in
theorem mf_X2_takeTurn_a (m0 m1 m2 m3 m4 m5 m6 th n : Nat) (bg : Bool) (tn sl : Nat) (ht sn : Nat → Nat) (o nx kp : Nat → Bool) (ow : Nat → Nat) (h0n : n = 0) : Mi l yX2_takeTurn ws_X2_takeTurn 1 21 (dC, dI) (tyL cI cZ cJ) [.ref m0] (mW cI cZ m0 m1 m2 m3 m4 m5 m6 th n bg tn sl ht sn o nx kp ow) (fun r u => r = nI 0 ∧ u = mW cI cZ m0 m1 m2 m3 m4 m5 m6 1 n bg tn sl ht sn o nx kp ow) := by
  refine Mi_of (by decide +kernel) (Nat.le_of_ble_eq_true rfl) ?_
  intro pr ev sx mi ag bl me cd Q ls S hP hK hD hZ hl ret
  obtain ⟨hx, hb, hml, hown, hts⟩ := id S
  have hown : sx.vm.findClass RX2 = some mi.cls := hown
  have hS : va_S (wIn (mW cI cZ m0 m1 m2 m3 m4 m5 m6 th n bg tn sl ht sn o nx kp ow)) sx.heap sx.heap [] := va_S.rf
  have hl : lv_has ls 2 [(0, .ref m0)] := hl
  refine lv_aload_n hx hb dX2_takeTurn_0 rfl (lv_at hl 0 rfl) ?_
  refine lv_iconst (v := nI 0) hx hb dX2_takeTurn_1 (by decide) ?_
  refine va_put (D := (dC, dI)) (ci := 2) (v := .int (nI 0)) (ty := .int) (C := RX2) (T := TX2) (N := 11) hx hb hts inX2 tyX2 tyX2_ok nmX2 hown hK hP hD hS 0 rfl rfl 0 (by decide) (hts _ q_fl_X2_29) (fun _ h9 => h9) rfl (by decide +kernel) rfl rfl (Nat.le_of_ble_eq_true rfl) dX2_takeTurn_2 (fun H locs hP hD hS => ?_)
  have hP : va_P (dC, dI) vwCl (mW cI cZ m0 m1 m2 m3 m4 m5 m6 0 n bg tn sl ht sn o nx kp ow) H := hP
  have hD : va_D (wIn (mW cI cZ m0 m1 m2 m3 m4 m5 m6 th n bg tn sl ht sn o nx kp ow)) (mW cI cZ m0 m1 m2 m3 m4 m5 m6 0 n bg tn sl ht sn o nx kp ow) := hD
  refine lv_aload_n hx hb dX2_takeTurn_5 rfl (lv_at hl 0 rfl) ?_
  refine va_get (D := (dC, dI)) (ci := 2) (v := .int (nI n)) (C := RX2) (T := TX2) (N := 11) hx hb hts inX2 hown hK hP 0 rfl rfl 1 (by decide) (hts _ q_fl_X2_33) (fun _ h9 => h9) rfl dX2_takeTurn_6 ?_
  refine ifN_ne (tgt := 18) hx hb dX2_takeTurn_9 (by decide) (by omega) (fun c_9 => absurd c_9 (fun q => q h0n)) (fun c_9 => ?_)
  refine lv_aload_n hx hb dX2_takeTurn_12 rfl (lv_at hl 0 rfl) ?_
  refine lv_iconst (v := nI 1) hx hb dX2_takeTurn_13 (by decide) ?_
  refine call_Vi (As := [.int (nI 1)]) (wr := []) (rest := []) S (m_X2_fail m0 m1 m2 m3 m4 m5 m6 0 n bg tn sl ht sn o nx kp ow 1 ) g_X2_X2_fail hd_X2_fail ⟨Nat.le_of_ble_eq_true rfl, Nat.le_of_ble_eq_true rfl⟩ ⟨Nat.zero_le _, Nat.zero_le _⟩ hP hD hK hS hZ [0, 1, 2, 3, 4, 5, 6] [] rfl rfl (by decide) 0 rfl rfl hl.1 rfl (Nat.le_of_ble_eq_true rfl) dX2_takeTurn_14 (fun r u H locs hq hP hD hS => ?_)
  obtain ⟨rfl, rfl⟩ := hq
  have hP : va_P (dC, dI) vwCl (mW cI cZ m0 m1 m2 m3 m4 m5 m6 1 n bg tn sl ht sn o nx kp ow) H := hP
  have hD : va_D (wIn (mW cI cZ m0 m1 m2 m3 m4 m5 m6 th n bg tn sl ht sn o nx kp ow)) (mW cI cZ m0 m1 m2 m3 m4 m5 m6 1 n bg tn sl ht sn o nx kp ow) := hD
  exact ret _ (mW cI cZ m0 m1 m2 m3 m4 m5 m6 1 n bg tn sl ht sn o nx kp ow) _ _ _ _ dX2_takeTurn_17 rfl ⟨rfl, rfl⟩ (List.Perm.refl _) hP hS

set_option maxHeartbeats 4000000 in
set_option maxRecDepth 100000 in
theorem m_X2_begin (m0 m1 m2 m3 m4 m5 m6 th n : Nat) (bg : Bool) (tn sl : Nat) (ht sn : Nat → Nat) (o nx kp : Nat → Bool) (ow : Nat → Nat) (hn : n ≤ 5) : Mi l yX2_begin ws_X2_begin 2 41 (dC, dI) (tyL cI cZ cJ) [.ref m0] (mW cI cZ m0 m1 m2 m3 m4 m5 m6 th n bg tn sl ht sn o nx kp ow) (fun r u => r = nI (3 ^ n) ∧ u = mW cI cZ m0 m1 m2 m3 m4 m5 m6 0 n false 0 0 ht sn (fun w => decide (w < 3 ^ n)) nx kp ow) := by
  refine Mi_of (by decide +kernel) (Nat.le_of_ble_eq_true rfl) ?_
  intro pr ev sx mi ag bl me cd Q ls S hP hK hD hZ hl ret
  obtain ⟨hx, hb, hml, hown, hts⟩ := id S
  have hown : sx.vm.findClass RX2 = some mi.cls := hown
  have hS : va_S (wIn (mW cI cZ m0 m1 m2 m3 m4 m5 m6 th n bg tn sl ht sn o nx kp ow)) sx.heap sx.heap [] := va_S.rf
  have hl : lv_has ls 1 [(0, .ref m0)] := hl
  refine lv_aload_n hx hb dX2_begin_0 rfl (lv_at hl 0 rfl) ?_
  refine lv_iconst (v := nI 0) hx hb dX2_begin_1 (by decide) ?_
  refine va_put (D := (dC, dI)) (ci := 2) (v := .int (nI 0)) (ty := .int) (C := RX2) (T := TX2) (N := 11) hx hb hts inX2 tyX2 tyX2_ok nmX2 hown hK hP hD hS 0 rfl rfl 0 (by decide) (hts _ q_fl_X2_29) (fun _ h9 => h9) rfl (by decide +kernel) rfl rfl (Nat.le_of_ble_eq_true rfl) dX2_begin_2 (fun H locs hP hD hS => ?_)
  have hP : va_P (dC, dI) vwCl (mW cI cZ m0 m1 m2 m3 m4 m5 m6 0 n bg tn sl ht sn o nx kp ow) H := hP
  have hD : va_D (wIn (mW cI cZ m0 m1 m2 m3 m4 m5 m6 th n bg tn sl ht sn o nx kp ow)) (mW cI cZ m0 m1 m2 m3 m4 m5 m6 0 n bg tn sl ht sn o nx kp ow) := hD
  refine lv_aload_n hx hb dX2_begin_5 rfl (lv_at hl 0 rfl) ?_
  refine lv_iconst (v := nI 0) hx hb dX2_begin_6 (by decide) ?_
  refine va_put (D := (dC, dI)) (ci := 2) (v := .int (nI 0)) (ty := .int) (C := RX2) (T := TX2) (N := 11) hx hb hts inX2 tyX2 tyX2_ok nmX2 hown hK hP hD hS 0 rfl rfl 9 (by decide) (hts _ q_fl_X2_105) (fun _ h9 => h9) rfl (by decide +kernel) rfl rfl (Nat.le_of_ble_eq_true rfl) dX2_begin_7 (fun H locs hP hD hS => ?_)
  have hP : va_P (dC, dI) vwCl (mW cI cZ m0 m1 m2 m3 m4 m5 m6 0 n bg 0 sl ht sn o nx kp ow) H := hP
  have hD : va_D (wIn (mW cI cZ m0 m1 m2 m3 m4 m5 m6 th n bg tn sl ht sn o nx kp ow)) (mW cI cZ m0 m1 m2 m3 m4 m5 m6 0 n bg 0 sl ht sn o nx kp ow) := hD
  refine lv_aload_n hx hb dX2_begin_10 rfl (lv_at hl 0 rfl) ?_
  refine lv_iconst (v := nI 0) hx hb dX2_begin_11 (by decide) ?_
  refine va_put (D := (dC, dI)) (ci := 2) (v := .int (nI 0)) (ty := .int) (C := RX2) (T := TX2) (N := 11) hx hb hts inX2 tyX2 tyX2_ok nmX2 hown hK hP hD hS 0 rfl rfl 10 (by decide) (hts _ q_fl_X2_114) (fun _ h9 => h9) rfl (by decide +kernel) rfl rfl (Nat.le_of_ble_eq_true rfl) dX2_begin_12 (fun H locs hP hD hS => ?_)
  have hP : va_P (dC, dI) vwCl (mW cI cZ m0 m1 m2 m3 m4 m5 m6 0 n bg 0 0 ht sn o nx kp ow) H := hP
  have hD : va_D (wIn (mW cI cZ m0 m1 m2 m3 m4 m5 m6 th n bg tn sl ht sn o nx kp ow)) (mW cI cZ m0 m1 m2 m3 m4 m5 m6 0 n bg 0 0 ht sn o nx kp ow) := hD
  refine lv_aload_n hx hb dX2_begin_15 rfl (lv_at hl 0 rfl) ?_
  refine lv_iconst (v := nI 0) hx hb dX2_begin_16 (by decide) ?_
  refine W_i (y := bI false) rfl ?_
  refine va_put (D := (dC, dI)) (ci := 2) (v := .int (bI false)) (ty := .boolean) (C := RX2) (T := TX2) (N := 11) hx hb hts inX2 tyX2 tyX2_ok nmX2 hown hK hP hD hS 0 rfl rfl 2 (by decide) (hts _ q_fl_X2_92) (fun _ h9 => h9) rfl (by decide +kernel) rfl rfl (Nat.le_of_ble_eq_true rfl) dX2_begin_17 (fun H locs hP hD hS => ?_)
  have hP : va_P (dC, dI) vwCl (mW cI cZ m0 m1 m2 m3 m4 m5 m6 0 n false 0 0 ht sn o nx kp ow) H := hP
  have hD : va_D (wIn (mW cI cZ m0 m1 m2 m3 m4 m5 m6 th n bg tn sl ht sn o nx kp ow)) (mW cI cZ m0 m1 m2 m3 m4 m5 m6 0 n false 0 0 ht sn o nx kp ow) := hD
  refine lv_aload_n hx hb dX2_begin_20 rfl (lv_at hl 0 rfl) ?_
  refine call_Vv (As := []) (wr := []) (rest := []) S (m_X2_openAll m0 m1 m2 m3 m4 m5 m6 0 n false 0 0 ht sn o nx kp ow  hn) g_X2_X2_openAll hd_X2_openAll ⟨Nat.le_of_ble_eq_true rfl, Nat.le_of_ble_eq_true rfl⟩ ⟨Nat.zero_le _, Nat.zero_le _⟩ hP hD hK hS hZ [0, 1, 2, 3, 4, 5, 6] [] rfl rfl (by decide) 0 rfl rfl hl.1 rfl (Nat.le_of_ble_eq_true rfl) dX2_begin_21 (fun u H locs hq hP hD hS => ?_)
  obtain rfl := hq
  have hP : va_P (dC, dI) vwCl (mW cI cZ m0 m1 m2 m3 m4 m5 m6 0 n false 0 0 ht sn (fun w => decide (w < 3 ^ n)) nx kp ow) H := hP
  have hD : va_D (wIn (mW cI cZ m0 m1 m2 m3 m4 m5 m6 th n bg tn sl ht sn o nx kp ow)) (mW cI cZ m0 m1 m2 m3 m4 m5 m6 0 n false 0 0 ht sn (fun w => decide (w < 3 ^ n)) nx kp ow) := hD
  refine lv_aload_n hx hb dX2_begin_24 rfl (lv_at hl 0 rfl) ?_
  refine call_Vp (As := []) (rest := []) S (m_X2_ways m0 m1 m2 m3 m4 m5 m6 0 n false 0 0 ht sn (fun w => decide (w < 3 ^ n)) nx kp ow  hn) g_X2_X2_ways hd_X2_ways ⟨Nat.le_of_ble_eq_true rfl, Nat.le_of_ble_eq_true rfl⟩ ⟨Nat.zero_le _, Nat.zero_le _⟩ hP hD hK hS hZ [0, 1, 2, 3, 4, 5, 6] rfl (by decide) 0 rfl rfl hl.1 rfl (Nat.le_of_ble_eq_true rfl) dX2_begin_25 (fun r H locs hq hP hS => ?_)
  obtain rfl := hq
  exact ret _ (mW cI cZ m0 m1 m2 m3 m4 m5 m6 0 n false 0 0 ht sn (fun w => decide (w < 3 ^ n)) nx kp ow) _ _ _ _ dX2_begin_28 rfl ⟨rfl, rfl⟩ (List.Perm.refl _) hP hS

set_option maxHeartbeats 4000000 in
set_option maxRecDepth 100000 in
theorem m_X2_players (m0 m1 m2 m3 m4 m5 m6 th n : Nat) (bg : Bool) (tn sl : Nat) (ht sn : Nat → Nat) (o nx kp : Nat → Bool) (ow : Nat → Nat)  : Mi l yX2_players ws_X2_players 1 21 (dC, dI) (tyL cI cZ cJ) [.ref m0] (mW cI cZ m0 m1 m2 m3 m4 m5 m6 th n bg tn sl ht sn o nx kp ow) (fun r u => r = nI n ∧ u = mW cI cZ m0 m1 m2 m3 m4 m5 m6 0 n bg tn sl ht sn o nx kp ow) := by
  refine Mi_of (by decide +kernel) (Nat.le_of_ble_eq_true rfl) ?_
  intro pr ev sx mi ag bl me cd Q ls S hP hK hD hZ hl ret
  obtain ⟨hx, hb, hml, hown, hts⟩ := id S
  have hown : sx.vm.findClass RX2 = some mi.cls := hown
  have hS : va_S (wIn (mW cI cZ m0 m1 m2 m3 m4 m5 m6 th n bg tn sl ht sn o nx kp ow)) sx.heap sx.heap [] := va_S.rf
  have hl : lv_has ls 1 [(0, .ref m0)] := hl
  refine lv_aload_n hx hb dX2_players_0 rfl (lv_at hl 0 rfl) ?_
  refine lv_aload_n hx hb dX2_players_1 rfl (lv_at hl 0 rfl) ?_
  refine va_get (D := (dC, dI)) (ci := 2) (v := .int (nI n)) (C := RX2) (T := TX2) (N := 11) hx hb hts inX2 hown hK hP 0 rfl rfl 1 (by decide) (hts _ q_fl_X2_33) (fun _ h9 => h9) rfl dX2_players_2 ?_
  refine call_Vi (As := [.int (nI n)]) (wr := []) (rest := []) S (m_X2_told m0 m1 m2 m3 m4 m5 m6 th n bg tn sl ht sn o nx kp ow (nI n)) g_X2_X2_told hd_X2_told ⟨Nat.le_of_ble_eq_true rfl, Nat.le_of_ble_eq_true rfl⟩ ⟨Nat.zero_le _, Nat.zero_le _⟩ hP hD hK hS hZ [0, 1, 2, 3, 4, 5, 6] [] rfl rfl (by decide) 0 rfl rfl hl.1 rfl (Nat.le_of_ble_eq_true rfl) dX2_players_5 (fun r u H locs hq hP hD hS => ?_)
  obtain ⟨rfl, rfl⟩ := hq
  have hP : va_P (dC, dI) vwCl (mW cI cZ m0 m1 m2 m3 m4 m5 m6 0 n bg tn sl ht sn o nx kp ow) H := hP
  have hD : va_D (wIn (mW cI cZ m0 m1 m2 m3 m4 m5 m6 th n bg tn sl ht sn o nx kp ow)) (mW cI cZ m0 m1 m2 m3 m4 m5 m6 0 n bg tn sl ht sn o nx kp ow) := hD
  exact ret _ (mW cI cZ m0 m1 m2 m3 m4 m5 m6 0 n bg tn sl ht sn o nx kp ow) _ _ _ _ dX2_players_8 rfl ⟨rfl, rfl⟩ (List.Perm.refl _) hP hS

set_option maxHeartbeats 4000000 in
set_option maxRecDepth 100000 in
theorem m_X2_turnsTaken (m0 m1 m2 m3 m4 m5 m6 th n : Nat) (bg : Bool) (tn sl : Nat) (ht sn : Nat → Nat) (o nx kp : Nat → Bool) (ow : Nat → Nat)  : Mi l yX2_turnsTaken ws_X2_turnsTaken 1 21 (dC, dI) (tyL cI cZ cJ) [.ref m0] (mW cI cZ m0 m1 m2 m3 m4 m5 m6 th n bg tn sl ht sn o nx kp ow) (fun r u => r = nI tn ∧ u = mW cI cZ m0 m1 m2 m3 m4 m5 m6 0 n bg tn sl ht sn o nx kp ow) := by
  refine Mi_of (by decide +kernel) (Nat.le_of_ble_eq_true rfl) ?_
  intro pr ev sx mi ag bl me cd Q ls S hP hK hD hZ hl ret
  obtain ⟨hx, hb, hml, hown, hts⟩ := id S
  have hown : sx.vm.findClass RX2 = some mi.cls := hown
  have hS : va_S (wIn (mW cI cZ m0 m1 m2 m3 m4 m5 m6 th n bg tn sl ht sn o nx kp ow)) sx.heap sx.heap [] := va_S.rf
  have hl : lv_has ls 1 [(0, .ref m0)] := hl
  refine lv_aload_n hx hb dX2_turnsTaken_0 rfl (lv_at hl 0 rfl) ?_
  refine lv_aload_n hx hb dX2_turnsTaken_1 rfl (lv_at hl 0 rfl) ?_
  refine va_get (D := (dC, dI)) (ci := 2) (v := .int (nI tn)) (C := RX2) (T := TX2) (N := 11) hx hb hts inX2 hown hK hP 0 rfl rfl 9 (by decide) (hts _ q_fl_X2_105) (fun _ h9 => h9) rfl dX2_turnsTaken_2 ?_
  refine call_Vi (As := [.int (nI tn)]) (wr := []) (rest := []) S (m_X2_told m0 m1 m2 m3 m4 m5 m6 th n bg tn sl ht sn o nx kp ow (nI tn)) g_X2_X2_told hd_X2_told ⟨Nat.le_of_ble_eq_true rfl, Nat.le_of_ble_eq_true rfl⟩ ⟨Nat.zero_le _, Nat.zero_le _⟩ hP hD hK hS hZ [0, 1, 2, 3, 4, 5, 6] [] rfl rfl (by decide) 0 rfl rfl hl.1 rfl (Nat.le_of_ble_eq_true rfl) dX2_turnsTaken_5 (fun r u H locs hq hP hD hS => ?_)
  obtain ⟨rfl, rfl⟩ := hq
  have hP : va_P (dC, dI) vwCl (mW cI cZ m0 m1 m2 m3 m4 m5 m6 0 n bg tn sl ht sn o nx kp ow) H := hP
  have hD : va_D (wIn (mW cI cZ m0 m1 m2 m3 m4 m5 m6 th n bg tn sl ht sn o nx kp ow)) (mW cI cZ m0 m1 m2 m3 m4 m5 m6 0 n bg tn sl ht sn o nx kp ow) := hD
  exact ret _ (mW cI cZ m0 m1 m2 m3 m4 m5 m6 0 n bg tn sl ht sn o nx kp ow) _ _ _ _ dX2_turnsTaken_8 rfl ⟨rfl, rfl⟩ (List.Perm.refl _) hP hS

set_option maxHeartbeats 4000000 in
set_option maxRecDepth 100000 in
theorem m_X2_silentTurns (m0 m1 m2 m3 m4 m5 m6 th n : Nat) (bg : Bool) (tn sl : Nat) (ht sn : Nat → Nat) (o nx kp : Nat → Bool) (ow : Nat → Nat)  : Mi l yX2_silentTurns ws_X2_silentTurns 1 21 (dC, dI) (tyL cI cZ cJ) [.ref m0] (mW cI cZ m0 m1 m2 m3 m4 m5 m6 th n bg tn sl ht sn o nx kp ow) (fun r u => r = nI sl ∧ u = mW cI cZ m0 m1 m2 m3 m4 m5 m6 0 n bg tn sl ht sn o nx kp ow) := by
  refine Mi_of (by decide +kernel) (Nat.le_of_ble_eq_true rfl) ?_
  intro pr ev sx mi ag bl me cd Q ls S hP hK hD hZ hl ret
  obtain ⟨hx, hb, hml, hown, hts⟩ := id S
  have hown : sx.vm.findClass RX2 = some mi.cls := hown
  have hS : va_S (wIn (mW cI cZ m0 m1 m2 m3 m4 m5 m6 th n bg tn sl ht sn o nx kp ow)) sx.heap sx.heap [] := va_S.rf
  have hl : lv_has ls 1 [(0, .ref m0)] := hl
  refine lv_aload_n hx hb dX2_silentTurns_0 rfl (lv_at hl 0 rfl) ?_
  refine lv_aload_n hx hb dX2_silentTurns_1 rfl (lv_at hl 0 rfl) ?_
  refine va_get (D := (dC, dI)) (ci := 2) (v := .int (nI sl)) (C := RX2) (T := TX2) (N := 11) hx hb hts inX2 hown hK hP 0 rfl rfl 10 (by decide) (hts _ q_fl_X2_114) (fun _ h9 => h9) rfl dX2_silentTurns_2 ?_
  refine call_Vi (As := [.int (nI sl)]) (wr := []) (rest := []) S (m_X2_told m0 m1 m2 m3 m4 m5 m6 th n bg tn sl ht sn o nx kp ow (nI sl)) g_X2_X2_told hd_X2_told ⟨Nat.le_of_ble_eq_true rfl, Nat.le_of_ble_eq_true rfl⟩ ⟨Nat.zero_le _, Nat.zero_le _⟩ hP hD hK hS hZ [0, 1, 2, 3, 4, 5, 6] [] rfl rfl (by decide) 0 rfl rfl hl.1 rfl (Nat.le_of_ble_eq_true rfl) dX2_silentTurns_5 (fun r u H locs hq hP hD hS => ?_)
  obtain ⟨rfl, rfl⟩ := hq
  have hP : va_P (dC, dI) vwCl (mW cI cZ m0 m1 m2 m3 m4 m5 m6 0 n bg tn sl ht sn o nx kp ow) H := hP
  have hD : va_D (wIn (mW cI cZ m0 m1 m2 m3 m4 m5 m6 th n bg tn sl ht sn o nx kp ow)) (mW cI cZ m0 m1 m2 m3 m4 m5 m6 0 n bg tn sl ht sn o nx kp ow) := hD
  exact ret _ (mW cI cZ m0 m1 m2 m3 m4 m5 m6 0 n bg tn sl ht sn o nx kp ow) _ _ _ _ dX2_silentTurns_8 rfl ⟨rfl, rfl⟩ (List.Perm.refl _) hP hS

set_option maxHeartbeats 4000000 in
set_option maxRecDepth 100000 in
theorem m_X2_playerInTurn (m0 m1 m2 m3 m4 m5 m6 th n : Nat) (bg : Bool) (tn sl : Nat) (ht sn : Nat → Nat) (o nx kp : Nat → Bool) (ow : Nat → Nat) (hn : n ≤ 5) (htn : tn < 2 ^ 20) : Mi l yX2_playerInTurn ws_X2_playerInTurn 1 21 (dC, dI) (tyL cI cZ cJ) [.ref m0] (mW cI cZ m0 m1 m2 m3 m4 m5 m6 th n bg tn sl ht sn o nx kp ow) (fun r u => r = whoM n tn ∧ u = mW cI cZ m0 m1 m2 m3 m4 m5 m6 0 n bg tn sl ht sn o nx kp ow) := by
  refine Mi_of (by decide +kernel) (Nat.le_of_ble_eq_true rfl) ?_
  intro pr ev sx mi ag bl me cd Q ls S hP hK hD hZ hl ret
  obtain ⟨hx, hb, hml, hown, hts⟩ := id S
  have hown : sx.vm.findClass RX2 = some mi.cls := hown
  have hS : va_S (wIn (mW cI cZ m0 m1 m2 m3 m4 m5 m6 th n bg tn sl ht sn o nx kp ow)) sx.heap sx.heap [] := va_S.rf
  have hl : lv_has ls 1 [(0, .ref m0)] := hl
  refine lv_aload_n hx hb dX2_playerInTurn_0 rfl (lv_at hl 0 rfl) ?_
  refine lv_aload_n hx hb dX2_playerInTurn_1 rfl (lv_at hl 0 rfl) ?_
  refine call_Vp (As := []) (rest := [.ref m0]) S (m_X2_whose m0 m1 m2 m3 m4 m5 m6 th n bg tn sl ht sn o nx kp ow  hn htn) g_X2_X2_whose hd_X2_whose ⟨Nat.le_of_ble_eq_true rfl, Nat.le_of_ble_eq_true rfl⟩ ⟨Nat.zero_le _, Nat.zero_le _⟩ hP hD hK hS hZ [0, 1, 2, 3, 4, 5, 6] rfl (by decide) 0 rfl rfl hl.1 rfl (Nat.le_of_ble_eq_true rfl) dX2_playerInTurn_2 (fun r H locs hq hP hS => ?_)
  obtain rfl := hq
  refine call_Vi (As := [.int (whoM n tn)]) (wr := []) (rest := []) S (m_X2_told m0 m1 m2 m3 m4 m5 m6 th n bg tn sl ht sn o nx kp ow (whoM n tn)) g_X2_X2_told hd_X2_told ⟨Nat.le_of_ble_eq_true rfl, Nat.le_of_ble_eq_true rfl⟩ ⟨Nat.zero_le _, Nat.zero_le _⟩ hP hD hK hS hZ [0, 1, 2, 3, 4, 5, 6] [] rfl rfl (by decide) 0 rfl rfl hl.1 rfl (Nat.le_of_ble_eq_true rfl) dX2_playerInTurn_5 (fun r u H locs hq hP hD hS => ?_)
  obtain ⟨rfl, rfl⟩ := hq
  have hP : va_P (dC, dI) vwCl (mW cI cZ m0 m1 m2 m3 m4 m5 m6 0 n bg tn sl ht sn o nx kp ow) H := hP
  have hD : va_D (wIn (mW cI cZ m0 m1 m2 m3 m4 m5 m6 th n bg tn sl ht sn o nx kp ow)) (mW cI cZ m0 m1 m2 m3 m4 m5 m6 0 n bg tn sl ht sn o nx kp ow) := hD
  exact ret _ (mW cI cZ m0 m1 m2 m3 m4 m5 m6 0 n bg tn sl ht sn o nx kp ow) _ _ _ _ dX2_playerInTurn_8 rfl ⟨rfl, rfl⟩ (List.Perm.refl _) hP hS

set_option maxHeartbeats 4000000 in
set_option maxRecDepth 100000 in
theorem m_X2_hatOf (m0 m1 m2 m3 m4 m5 m6 th n : Nat) (bg : Bool) (tn sl : Nat) (ht sn : Nat → Nat) (o nx kp : Nat → Bool) (ow : Nat → Nat) (j : Nat) (hn : n ≤ 5) (hj : j < n) : Mi l yX2_hatOf ws_X2_hatOf 2 43 (dC, dI) (tyL cI cZ cJ) [.ref m0, .int (nI j)] (mW cI cZ m0 m1 m2 m3 m4 m5 m6 th n bg tn sl ht sn o nx kp ow) (fun r u => r = nI (ht j) ∧ u = mW cI cZ m0 m1 m2 m3 m4 m5 m6 0 n bg tn sl ht sn o nx kp ow) := by
  refine Mi_of (by decide +kernel) (Nat.le_of_ble_eq_true rfl) ?_
  intro pr ev sx mi ag bl me cd Q ls S hP hK hD hZ hl ret
  obtain ⟨hx, hb, hml, hown, hts⟩ := id S
  have hown : sx.vm.findClass RX2 = some mi.cls := hown
  have hS : va_S (wIn (mW cI cZ m0 m1 m2 m3 m4 m5 m6 th n bg tn sl ht sn o nx kp ow)) sx.heap sx.heap [] := va_S.rf
  have hl : lv_has ls 2 [(0, .ref m0), (1, .int (nI j))] := hl
  refine lv_aload_n hx hb dX2_hatOf_0 rfl (lv_at hl 0 rfl) ?_
  refine lv_iconst (v := nI 0) hx hb dX2_hatOf_1 (by decide) ?_
  refine va_put (D := (dC, dI)) (ci := 2) (v := .int (nI 0)) (ty := .int) (C := RX2) (T := TX2) (N := 11) hx hb hts inX2 tyX2 tyX2_ok nmX2 hown hK hP hD hS 0 rfl rfl 0 (by decide) (hts _ q_fl_X2_29) (fun _ h9 => h9) rfl (by decide +kernel) rfl rfl (Nat.le_of_ble_eq_true rfl) dX2_hatOf_2 (fun H locs hP hD hS => ?_)
  have hP : va_P (dC, dI) vwCl (mW cI cZ m0 m1 m2 m3 m4 m5 m6 0 n bg tn sl ht sn o nx kp ow) H := hP
  have hD : va_D (wIn (mW cI cZ m0 m1 m2 m3 m4 m5 m6 th n bg tn sl ht sn o nx kp ow)) (mW cI cZ m0 m1 m2 m3 m4 m5 m6 0 n bg tn sl ht sn o nx kp ow) := hD
  refine lv_aload_n hx hb dX2_hatOf_5 rfl (lv_at hl 0 rfl) ?_
  refine lv_iload_n hx hb dX2_hatOf_6 rfl (lv_at hl 1 rfl) ?_
  refine call_Vp (As := [.int (nI j)]) (rest := []) S (m_X2_isPlayer_t m0 m1 m2 m3 m4 m5 m6 0 n bg tn sl ht sn o nx kp ow j hn (by omega)) g_X2_X2_isPlayer hd_X2_isPlayer ⟨Nat.le_of_ble_eq_true rfl, Nat.le_of_ble_eq_true rfl⟩ ⟨Nat.zero_le _, Nat.zero_le _⟩ hP hD hK hS hZ [0, 1, 2, 3, 4, 5, 6] rfl (by decide) 0 rfl rfl hl.1 rfl (Nat.le_of_ble_eq_true rfl) dX2_hatOf_7 (fun r H locs hq hP hS => ?_)
  obtain rfl := hq
  refine ifB_eq (tgt := 22) hx hb dX2_hatOf_10 (by decide) (fun c_10 => absurd c_10 (by decide)) (fun c_10 => ?_)
  refine lv_aload_n hx hb dX2_hatOf_13 rfl (lv_at hl 0 rfl) ?_
  refine va_get (D := (dC, dI)) (ci := 2) (v := .ref m1) (C := RX2) (T := TX2) (N := 11) hx hb hts inX2 hown hK hP 0 rfl rfl 3 (by decide) (hts _ q_fl_X2_9) (fun _ h9 => h9) rfl dX2_hatOf_14 ?_
  refine lv_iload_n hx hb dX2_hatOf_17 rfl (lv_at hl 1 rfl) ?_
  refine ia_ld hx hb hK hP 1 0 rfl rfl (j := j) (by omega) (by decide) dX2_hatOf_18 ?_
  refine lv_goto (tgt := 27) hx hb dX2_hatOf_19 (by decide) ?_
  exact ret _ (mW cI cZ m0 m1 m2 m3 m4 m5 m6 0 n bg tn sl ht sn o nx kp ow) _ _ _ _ dX2_hatOf_27 rfl ⟨rfl, rfl⟩ (List.Perm.refl _) hP hS

set_option maxHeartbeats 4000000 in
set_option maxRecDepth 100000 in
theorem mf_X2_hatOf_a (m0 m1 m2 m3 m4 m5 m6 th n : Nat) (bg : Bool) (tn sl : Nat) (ht sn : Nat → Nat) (o nx kp : Nat → Bool) (ow : Nat → Nat) (a0 : Int32) (hn : n ≤ 5) (ha0 : ∀ j, j < n → a0 ≠ nI j) : Mi l yX2_hatOf ws_X2_hatOf 2 43 (dC, dI) (tyL cI cZ cJ) [.ref m0, .int a0] (mW cI cZ m0 m1 m2 m3 m4 m5 m6 th n bg tn sl ht sn o nx kp ow) (fun r u => u = mW cI cZ m0 m1 m2 m3 m4 m5 m6 1 n bg tn sl ht sn o nx kp ow) := by
  refine Mi_of (by decide +kernel) (Nat.le_of_ble_eq_true rfl) ?_
  intro pr ev sx mi ag bl me cd Q ls S hP hK hD hZ hl ret
  obtain ⟨hx, hb, hml, hown, hts⟩ := id S
  have hown : sx.vm.findClass RX2 = some mi.cls := hown
  have hS : va_S (wIn (mW cI cZ m0 m1 m2 m3 m4 m5 m6 th n bg tn sl ht sn o nx kp ow)) sx.heap sx.heap [] := va_S.rf
  have hl : lv_has ls 2 [(0, .ref m0), (1, .int a0)] := hl
  refine lv_aload_n hx hb dX2_hatOf_0 rfl (lv_at hl 0 rfl) ?_
  refine lv_iconst (v := nI 0) hx hb dX2_hatOf_1 (by decide) ?_
  refine va_put (D := (dC, dI)) (ci := 2) (v := .int (nI 0)) (ty := .int) (C := RX2) (T := TX2) (N := 11) hx hb hts inX2 tyX2 tyX2_ok nmX2 hown hK hP hD hS 0 rfl rfl 0 (by decide) (hts _ q_fl_X2_29) (fun _ h9 => h9) rfl (by decide +kernel) rfl rfl (Nat.le_of_ble_eq_true rfl) dX2_hatOf_2 (fun H locs hP hD hS => ?_)
  have hP : va_P (dC, dI) vwCl (mW cI cZ m0 m1 m2 m3 m4 m5 m6 0 n bg tn sl ht sn o nx kp ow) H := hP
  have hD : va_D (wIn (mW cI cZ m0 m1 m2 m3 m4 m5 m6 th n bg tn sl ht sn o nx kp ow)) (mW cI cZ m0 m1 m2 m3 m4 m5 m6 0 n bg tn sl ht sn o nx kp ow) := hD
  refine lv_aload_n hx hb dX2_hatOf_5 rfl (lv_at hl 0 rfl) ?_
  refine lv_iload_n hx hb dX2_hatOf_6 rfl (lv_at hl 1 rfl) ?_
  refine call_Vp (As := [.int a0]) (rest := []) S (m_X2_isPlayer_f m0 m1 m2 m3 m4 m5 m6 0 n bg tn sl ht sn o nx kp ow a0 hn ha0) g_X2_X2_isPlayer hd_X2_isPlayer ⟨Nat.le_of_ble_eq_true rfl, Nat.le_of_ble_eq_true rfl⟩ ⟨Nat.zero_le _, Nat.zero_le _⟩ hP hD hK hS hZ [0, 1, 2, 3, 4, 5, 6] rfl (by decide) 0 rfl rfl hl.1 rfl (Nat.le_of_ble_eq_true rfl) dX2_hatOf_7 (fun r H locs hq hP hS => ?_)
  obtain rfl := hq
  refine ifB_eq (tgt := 22) hx hb dX2_hatOf_10 (by decide) (fun c_10 => ?_) (fun c_10 => absurd c_10 (by decide))
  refine lv_aload_n hx hb dX2_hatOf_22 rfl (lv_at hl 0 rfl) ?_
  refine lv_iconst (v := nI 1) hx hb dX2_hatOf_23 (by decide) ?_
  refine call_Vi (As := [.int (nI 1)]) (wr := []) (rest := []) S (m_X2_fail m0 m1 m2 m3 m4 m5 m6 0 n bg tn sl ht sn o nx kp ow 1 ) g_X2_X2_fail hd_X2_fail ⟨Nat.le_of_ble_eq_true rfl, Nat.le_of_ble_eq_true rfl⟩ ⟨Nat.zero_le _, Nat.zero_le _⟩ hP hD hK hS hZ [0, 1, 2, 3, 4, 5, 6] [] rfl rfl (by decide) 0 rfl rfl hl.1 rfl (Nat.le_of_ble_eq_true rfl) dX2_hatOf_24 (fun r u H locs hq hP hD hS => ?_)
  obtain ⟨rfl, rfl⟩ := hq
  have hP : va_P (dC, dI) vwCl (mW cI cZ m0 m1 m2 m3 m4 m5 m6 1 n bg tn sl ht sn o nx kp ow) H := hP
  have hD : va_D (wIn (mW cI cZ m0 m1 m2 m3 m4 m5 m6 th n bg tn sl ht sn o nx kp ow)) (mW cI cZ m0 m1 m2 m3 m4 m5 m6 1 n bg tn sl ht sn o nx kp ow) := hD
  exact ret _ (mW cI cZ m0 m1 m2 m3 m4 m5 m6 1 n bg tn sl ht sn o nx kp ow) _ _ _ _ dX2_hatOf_27 rfl rfl (List.Perm.refl _) hP hS

set_option maxHeartbeats 4000000 in
set_option maxRecDepth 100000 in
theorem m_X2_sees_ (m0 m1 m2 m3 m4 m5 m6 th n : Nat) (bg : Bool) (tn sl : Nat) (ht sn : Nat → Nat) (o nx kp : Nat → Bool) (ow : Nat → Nat) (j k : Nat) (hn : n ≤ 5) (hsn : ∀ p, p < 5 → sn p < 32) (hj : j < n) (hk : k < n) : Mi l yX2_sees_ ws_X2_sees_ 2 43 (dC, dI) (tyL cI cZ cJ) [.ref m0, .int (nI j), .int (nI k)] (mW cI cZ m0 m1 m2 m3 m4 m5 m6 th n bg tn sl ht sn o nx kp ow) (fun r u => r = bI (seeM sn j k j) ∧ u = mW cI cZ m0 m1 m2 m3 m4 m5 m6 0 n bg tn sl ht sn o nx kp ow) := by
  refine Mi_of (by decide +kernel) (Nat.le_of_ble_eq_true rfl) ?_
  intro pr ev sx mi ag bl me cd Q ls S hP hK hD hZ hl ret
  obtain ⟨hx, hb, hml, hown, hts⟩ := id S
  have hown : sx.vm.findClass RX2 = some mi.cls := hown
  have hS : va_S (wIn (mW cI cZ m0 m1 m2 m3 m4 m5 m6 th n bg tn sl ht sn o nx kp ow)) sx.heap sx.heap [] := va_S.rf
  have hl : lv_has ls 3 [(0, .ref m0), (1, .int (nI j)), (2, .int (nI k))] := hl
  refine lv_aload_n hx hb dX2_sees__0 rfl (lv_at hl 0 rfl) ?_
  refine lv_aload_n hx hb dX2_sees__1 rfl (lv_at hl 0 rfl) ?_
  refine lv_iload_n hx hb dX2_sees__2 rfl (lv_at hl 1 rfl) ?_
  refine call_Vp (As := [.int (nI j)]) (rest := [.ref m0]) S (m_X2_isPlayer_t m0 m1 m2 m3 m4 m5 m6 th n bg tn sl ht sn o nx kp ow j hn (by omega)) g_X2_X2_isPlayer hd_X2_isPlayer ⟨Nat.le_of_ble_eq_true rfl, Nat.le_of_ble_eq_true rfl⟩ ⟨Nat.zero_le _, Nat.zero_le _⟩ hP hD hK hS hZ [0, 1, 2, 3, 4, 5, 6] rfl (by decide) 0 rfl rfl hl.1 rfl (Nat.le_of_ble_eq_true rfl) dX2_sees__3 (fun r H locs hq hP hS => ?_)
  obtain rfl := hq
  refine ifB_eq (tgt := 21) hx hb dX2_sees__6 (by decide) (fun c_6 => absurd c_6 (by decide)) (fun c_6 => ?_)
  refine lv_aload_n hx hb dX2_sees__9 rfl (lv_at hl 0 rfl) ?_
  refine lv_iload_n hx hb dX2_sees__10 rfl (lv_at hl 2 rfl) ?_
  refine call_Vp (As := [.int (nI k)]) (rest := [.ref m0]) S (m_X2_isPlayer_t m0 m1 m2 m3 m4 m5 m6 th n bg tn sl ht sn o nx kp ow k hn (by omega)) g_X2_X2_isPlayer hd_X2_isPlayer ⟨Nat.le_of_ble_eq_true rfl, Nat.le_of_ble_eq_true rfl⟩ ⟨Nat.zero_le _, Nat.zero_le _⟩ hP hD hK hS hZ [0, 1, 2, 3, 4, 5, 6] rfl (by decide) 0 rfl rfl hl.1 rfl (Nat.le_of_ble_eq_true rfl) dX2_sees__11 (fun r H locs hq hP hS => ?_)
  obtain rfl := hq
  refine ifB_eq (tgt := 21) hx hb dX2_sees__14 (by decide) (fun c_14 => absurd c_14 (by decide)) (fun c_14 => ?_)
  refine lv_iconst (v := nI 0) hx hb dX2_sees__17 (by decide) ?_
  refine lv_goto (tgt := 22) hx hb dX2_sees__18 (by decide) ?_
  refine va_put (D := (dC, dI)) (ci := 2) (v := .int (nI 0)) (ty := .int) (C := RX2) (T := TX2) (N := 11) hx hb hts inX2 tyX2 tyX2_ok nmX2 hown hK hP hD hS 0 rfl rfl 0 (by decide) (hts _ q_fl_X2_29) (fun _ h9 => h9) rfl (by decide +kernel) rfl rfl (Nat.le_of_ble_eq_true rfl) dX2_sees__22 (fun H locs hP hD hS => ?_)
  have hP : va_P (dC, dI) vwCl (mW cI cZ m0 m1 m2 m3 m4 m5 m6 0 n bg tn sl ht sn o nx kp ow) H := hP
  have hD : va_D (wIn (mW cI cZ m0 m1 m2 m3 m4 m5 m6 th n bg tn sl ht sn o nx kp ow)) (mW cI cZ m0 m1 m2 m3 m4 m5 m6 0 n bg tn sl ht sn o nx kp ow) := hD
  refine lv_aload_n hx hb dX2_sees__25 rfl (lv_at hl 0 rfl) ?_
  refine va_get (D := (dC, dI)) (ci := 2) (v := .int (nI 0)) (C := RX2) (T := TX2) (N := 11) hx hb hts inX2 hown hK hP 0 rfl rfl 0 (by decide) (hts _ q_fl_X2_29) (fun _ h9 => h9) rfl dX2_sees__26 ?_
  refine ifN_ne (tgt := 46) hx hb dX2_sees__29 (by decide) (by omega) (fun c_29 => absurd c_29 (by decide)) (fun c_29 => ?_)
  refine lv_aload_n hx hb dX2_sees__32 rfl (lv_at hl 0 rfl) ?_
  refine lv_iload_n hx hb dX2_sees__33 rfl (lv_at hl 1 rfl) ?_
  refine lv_iload_n hx hb dX2_sees__34 rfl (lv_at hl 2 rfl) ?_
  refine lv_iload_n hx hb dX2_sees__35 rfl (lv_at hl 1 rfl) ?_
  refine call_Vp (As := [.int (nI j), .int (nI k), .int (nI j)]) (rest := []) S (m_X2_sees m0 m1 m2 m3 m4 m5 m6 0 n bg tn sl ht sn o nx kp ow j k j (by omega) (by omega) (by omega) hsn) g_X2_X2_sees hd_X2_sees ⟨Nat.le_of_ble_eq_true rfl, Nat.le_of_ble_eq_true rfl⟩ ⟨Nat.zero_le _, Nat.zero_le _⟩ hP hD hK hS hZ [0, 1, 2, 3, 4, 5, 6] rfl (by decide) 0 rfl rfl hl.1 rfl (Nat.le_of_ble_eq_true rfl) dX2_sees__36 (fun r H locs hq hP hS => ?_)
  obtain rfl := hq
  refine ifB_eq (tgt := 46) hx hb dX2_sees__39 (by decide) (fun c_39 => ?_) (fun c_39 => ?_)
  · refine lv_iconst (v := nI 0) hx hb dX2_sees__46 (by decide) ?_
    exact ret _ (mW cI cZ m0 m1 m2 m3 m4 m5 m6 0 n bg tn sl ht sn o nx kp ow) _ _ _ _ dX2_sees__47 rfl ⟨bI_f c_39, rfl⟩ (List.Perm.refl _) hP hS
  · refine lv_iconst (v := nI 1) hx hb dX2_sees__42 (by decide) ?_
    refine lv_goto (tgt := 47) hx hb dX2_sees__43 (by decide) ?_
    exact ret _ (mW cI cZ m0 m1 m2 m3 m4 m5 m6 0 n bg tn sl ht sn o nx kp ow) _ _ _ _ dX2_sees__47 rfl ⟨bI_t c_39, rfl⟩ (List.Perm.refl _) hP hS

set_option maxHeartbeats 4000000 in
set_option maxRecDepth 100000 in
theorem mf_X2_sees__a (m0 m1 m2 m3 m4 m5 m6 th n : Nat) (bg : Bool) (tn sl : Nat) (ht sn : Nat → Nat) (o nx kp : Nat → Bool) (ow : Nat → Nat) (a0 a1 : Int32) (ha0 : ∀ j, j < n → a0 ≠ nI j) (hn : n ≤ 5) : Mi l yX2_sees_ ws_X2_sees_ 2 43 (dC, dI) (tyL cI cZ cJ) [.ref m0, .int a0, .int a1] (mW cI cZ m0 m1 m2 m3 m4 m5 m6 th n bg tn sl ht sn o nx kp ow) (fun r u => u = mW cI cZ m0 m1 m2 m3 m4 m5 m6 1 n bg tn sl ht sn o nx kp ow) := by
  refine Mi_of (by decide +kernel) (Nat.le_of_ble_eq_true rfl) ?_
  intro pr ev sx mi ag bl me cd Q ls S hP hK hD hZ hl ret
  obtain ⟨hx, hb, hml, hown, hts⟩ := id S
  have hown : sx.vm.findClass RX2 = some mi.cls := hown
  have hS : va_S (wIn (mW cI cZ m0 m1 m2 m3 m4 m5 m6 th n bg tn sl ht sn o nx kp ow)) sx.heap sx.heap [] := va_S.rf
  have hl : lv_has ls 3 [(0, .ref m0), (1, .int a0), (2, .int a1)] := hl
  refine lv_aload_n hx hb dX2_sees__0 rfl (lv_at hl 0 rfl) ?_
  refine lv_aload_n hx hb dX2_sees__1 rfl (lv_at hl 0 rfl) ?_
  refine lv_iload_n hx hb dX2_sees__2 rfl (lv_at hl 1 rfl) ?_
  refine call_Vp (As := [.int a0]) (rest := [.ref m0]) S (m_X2_isPlayer_f m0 m1 m2 m3 m4 m5 m6 th n bg tn sl ht sn o nx kp ow a0 hn ha0) g_X2_X2_isPlayer hd_X2_isPlayer ⟨Nat.le_of_ble_eq_true rfl, Nat.le_of_ble_eq_true rfl⟩ ⟨Nat.zero_le _, Nat.zero_le _⟩ hP hD hK hS hZ [0, 1, 2, 3, 4, 5, 6] rfl (by decide) 0 rfl rfl hl.1 rfl (Nat.le_of_ble_eq_true rfl) dX2_sees__3 (fun r H locs hq hP hS => ?_)
  obtain rfl := hq
  refine ifB_eq (tgt := 21) hx hb dX2_sees__6 (by decide) (fun c_6 => ?_) (fun c_6 => absurd c_6 (by decide))
  refine lv_iconst (v := nI 1) hx hb dX2_sees__21 (by decide) ?_
  refine va_put (D := (dC, dI)) (ci := 2) (v := .int (nI 1)) (ty := .int) (C := RX2) (T := TX2) (N := 11) hx hb hts inX2 tyX2 tyX2_ok nmX2 hown hK hP hD hS 0 rfl rfl 0 (by decide) (hts _ q_fl_X2_29) (fun _ h9 => h9) rfl (by decide +kernel) rfl rfl (Nat.le_of_ble_eq_true rfl) dX2_sees__22 (fun H locs hP hD hS => ?_)
  have hP : va_P (dC, dI) vwCl (mW cI cZ m0 m1 m2 m3 m4 m5 m6 1 n bg tn sl ht sn o nx kp ow) H := hP
  have hD : va_D (wIn (mW cI cZ m0 m1 m2 m3 m4 m5 m6 th n bg tn sl ht sn o nx kp ow)) (mW cI cZ m0 m1 m2 m3 m4 m5 m6 1 n bg tn sl ht sn o nx kp ow) := hD
  refine lv_aload_n hx hb dX2_sees__25 rfl (lv_at hl 0 rfl) ?_
  refine va_get (D := (dC, dI)) (ci := 2) (v := .int (nI 1)) (C := RX2) (T := TX2) (N := 11) hx hb hts inX2 hown hK hP 0 rfl rfl 0 (by decide) (hts _ q_fl_X2_29) (fun _ h9 => h9) rfl dX2_sees__26 ?_
  refine ifN_ne (tgt := 46) hx hb dX2_sees__29 (by decide) (by omega) (fun c_29 => ?_) (fun c_29 => absurd c_29 (by decide))
  refine lv_iconst (v := nI 0) hx hb dX2_sees__46 (by decide) ?_
  exact ret _ (mW cI cZ m0 m1 m2 m3 m4 m5 m6 1 n bg tn sl ht sn o nx kp ow) _ _ _ _ dX2_sees__47 rfl rfl (List.Perm.refl _) hP hS

set_option maxHeartbeats 4000000 in
set_option maxRecDepth 100000 in
theorem mf_X2_sees__b (m0 m1 m2 m3 m4 m5 m6 th n : Nat) (bg : Bool) (tn sl : Nat) (ht sn : Nat → Nat) (o nx kp : Nat → Bool) (ow : Nat → Nat) (j : Nat) (a1 : Int32) (hj : j < n) (ha1 : ∀ j, j < n → a1 ≠ nI j) (hn : n ≤ 5) : Mi l yX2_sees_ ws_X2_sees_ 2 43 (dC, dI) (tyL cI cZ cJ) [.ref m0, .int (nI j), .int a1] (mW cI cZ m0 m1 m2 m3 m4 m5 m6 th n bg tn sl ht sn o nx kp ow) (fun r u => u = mW cI cZ m0 m1 m2 m3 m4 m5 m6 1 n bg tn sl ht sn o nx kp ow) := by
  refine Mi_of (by decide +kernel) (Nat.le_of_ble_eq_true rfl) ?_
  intro pr ev sx mi ag bl me cd Q ls S hP hK hD hZ hl ret
  obtain ⟨hx, hb, hml, hown, hts⟩ := id S
  have hown : sx.vm.findClass RX2 = some mi.cls := hown
  have hS : va_S (wIn (mW cI cZ m0 m1 m2 m3 m4 m5 m6 th n bg tn sl ht sn o nx kp ow)) sx.heap sx.heap [] := va_S.rf
  have hl : lv_has ls 3 [(0, .ref m0), (1, .int (nI j)), (2, .int a1)] := hl
  refine lv_aload_n hx hb dX2_sees__0 rfl (lv_at hl 0 rfl) ?_
  refine lv_aload_n hx hb dX2_sees__1 rfl (lv_at hl 0 rfl) ?_
  refine lv_iload_n hx hb dX2_sees__2 rfl (lv_at hl 1 rfl) ?_
  refine call_Vp (As := [.int (nI j)]) (rest := [.ref m0]) S (m_X2_isPlayer_t m0 m1 m2 m3 m4 m5 m6 th n bg tn sl ht sn o nx kp ow j hn (by omega)) g_X2_X2_isPlayer hd_X2_isPlayer ⟨Nat.le_of_ble_eq_true rfl, Nat.le_of_ble_eq_true rfl⟩ ⟨Nat.zero_le _, Nat.zero_le _⟩ hP hD hK hS hZ [0, 1, 2, 3, 4, 5, 6] rfl (by decide) 0 rfl rfl hl.1 rfl (Nat.le_of_ble_eq_true rfl) dX2_sees__3 (fun r H locs hq hP hS => ?_)
  obtain rfl := hq
  refine ifB_eq (tgt := 21) hx hb dX2_sees__6 (by decide) (fun c_6 => absurd c_6 (by decide)) (fun c_6 => ?_)
  refine lv_aload_n hx hb dX2_sees__9 rfl (lv_at hl 0 rfl) ?_
  refine lv_iload_n hx hb dX2_sees__10 rfl (lv_at hl 2 rfl) ?_
  refine call_Vp (As := [.int a1]) (rest := [.ref m0]) S (m_X2_isPlayer_f m0 m1 m2 m3 m4 m5 m6 th n bg tn sl ht sn o nx kp ow a1 hn ha1) g_X2_X2_isPlayer hd_X2_isPlayer ⟨Nat.le_of_ble_eq_true rfl, Nat.le_of_ble_eq_true rfl⟩ ⟨Nat.zero_le _, Nat.zero_le _⟩ hP hD hK hS hZ [0, 1, 2, 3, 4, 5, 6] rfl (by decide) 0 rfl rfl hl.1 rfl (Nat.le_of_ble_eq_true rfl) dX2_sees__11 (fun r H locs hq hP hS => ?_)
  obtain rfl := hq
  refine ifB_eq (tgt := 21) hx hb dX2_sees__14 (by decide) (fun c_14 => ?_) (fun c_14 => absurd c_14 (by decide))
  refine lv_iconst (v := nI 1) hx hb dX2_sees__21 (by decide) ?_
  refine va_put (D := (dC, dI)) (ci := 2) (v := .int (nI 1)) (ty := .int) (C := RX2) (T := TX2) (N := 11) hx hb hts inX2 tyX2 tyX2_ok nmX2 hown hK hP hD hS 0 rfl rfl 0 (by decide) (hts _ q_fl_X2_29) (fun _ h9 => h9) rfl (by decide +kernel) rfl rfl (Nat.le_of_ble_eq_true rfl) dX2_sees__22 (fun H locs hP hD hS => ?_)
  have hP : va_P (dC, dI) vwCl (mW cI cZ m0 m1 m2 m3 m4 m5 m6 1 n bg tn sl ht sn o nx kp ow) H := hP
  have hD : va_D (wIn (mW cI cZ m0 m1 m2 m3 m4 m5 m6 th n bg tn sl ht sn o nx kp ow)) (mW cI cZ m0 m1 m2 m3 m4 m5 m6 1 n bg tn sl ht sn o nx kp ow) := hD
  refine lv_aload_n hx hb dX2_sees__25 rfl (lv_at hl 0 rfl) ?_
  refine va_get (D := (dC, dI)) (ci := 2) (v := .int (nI 1)) (C := RX2) (T := TX2) (N := 11) hx hb hts inX2 hown hK hP 0 rfl rfl 0 (by decide) (hts _ q_fl_X2_29) (fun _ h9 => h9) rfl dX2_sees__26 ?_
  refine ifN_ne (tgt := 46) hx hb dX2_sees__29 (by decide) (by omega) (fun c_29 => ?_) (fun c_29 => absurd c_29 (by decide))
  refine lv_iconst (v := nI 0) hx hb dX2_sees__46 (by decide) ?_
  exact ret _ (mW cI cZ m0 m1 m2 m3 m4 m5 m6 1 n bg tn sl ht sn o nx kp ow) _ _ _ _ dX2_sees__47 rfl rfl (List.Perm.refl _) hP hS

set_option maxHeartbeats 4000000 in
set_option maxRecDepth 100000 in
theorem mf_X2_knowsHatOf_a (m0 m1 m2 m3 m4 m5 m6 th n : Nat) (bg : Bool) (tn sl : Nat) (ht sn : Nat → Nat) (o nx kp : Nat → Bool) (ow : Nat → Nat) (a0 a1 : Int32) (ha0 : ∀ j, j < n → a0 ≠ nI j) (hn : n ≤ 5) : Mi l yX2_knowsHatOf ws_X2_knowsHatOf 2 43 (dC, dI) (tyL cI cZ cJ) [.ref m0, .int a0, .int a1] (mW cI cZ m0 m1 m2 m3 m4 m5 m6 th n bg tn sl ht sn o nx kp ow) (fun r u => u = mW cI cZ m0 m1 m2 m3 m4 m5 m6 1 n bg tn sl ht sn o nx kp ow) := by
  refine Mi_of (by decide +kernel) (Nat.le_of_ble_eq_true rfl) ?_
  intro pr ev sx mi ag bl me cd Q ls S hP hK hD hZ hl ret
  obtain ⟨hx, hb, hml, hown, hts⟩ := id S
  have hown : sx.vm.findClass RX2 = some mi.cls := hown
  have hS : va_S (wIn (mW cI cZ m0 m1 m2 m3 m4 m5 m6 th n bg tn sl ht sn o nx kp ow)) sx.heap sx.heap [] := va_S.rf
  have hl : lv_has ls 3 [(0, .ref m0), (1, .int a0), (2, .int a1)] := hl
  refine lv_aload_n hx hb dX2_knowsHatOf_0 rfl (lv_at hl 0 rfl) ?_
  refine lv_aload_n hx hb dX2_knowsHatOf_1 rfl (lv_at hl 0 rfl) ?_
  refine lv_iload_n hx hb dX2_knowsHatOf_2 rfl (lv_at hl 1 rfl) ?_
  refine call_Vp (As := [.int a0]) (rest := [.ref m0]) S (m_X2_isPlayer_f m0 m1 m2 m3 m4 m5 m6 th n bg tn sl ht sn o nx kp ow a0 hn ha0) g_X2_X2_isPlayer hd_X2_isPlayer ⟨Nat.le_of_ble_eq_true rfl, Nat.le_of_ble_eq_true rfl⟩ ⟨Nat.zero_le _, Nat.zero_le _⟩ hP hD hK hS hZ [0, 1, 2, 3, 4, 5, 6] rfl (by decide) 0 rfl rfl hl.1 rfl (Nat.le_of_ble_eq_true rfl) dX2_knowsHatOf_3 (fun r H locs hq hP hS => ?_)
  obtain rfl := hq
  refine ifB_eq (tgt := 21) hx hb dX2_knowsHatOf_6 (by decide) (fun c_6 => ?_) (fun c_6 => absurd c_6 (by decide))
  refine lv_iconst (v := nI 1) hx hb dX2_knowsHatOf_21 (by decide) ?_
  refine va_put (D := (dC, dI)) (ci := 2) (v := .int (nI 1)) (ty := .int) (C := RX2) (T := TX2) (N := 11) hx hb hts inX2 tyX2 tyX2_ok nmX2 hown hK hP hD hS 0 rfl rfl 0 (by decide) (hts _ q_fl_X2_29) (fun _ h9 => h9) rfl (by decide +kernel) rfl rfl (Nat.le_of_ble_eq_true rfl) dX2_knowsHatOf_22 (fun H locs hP hD hS => ?_)
  have hP : va_P (dC, dI) vwCl (mW cI cZ m0 m1 m2 m3 m4 m5 m6 1 n bg tn sl ht sn o nx kp ow) H := hP
  have hD : va_D (wIn (mW cI cZ m0 m1 m2 m3 m4 m5 m6 th n bg tn sl ht sn o nx kp ow)) (mW cI cZ m0 m1 m2 m3 m4 m5 m6 1 n bg tn sl ht sn o nx kp ow) := hD
  refine lv_aload_n hx hb dX2_knowsHatOf_25 rfl (lv_at hl 0 rfl) ?_
  refine va_get (D := (dC, dI)) (ci := 2) (v := .int (nI 1)) (C := RX2) (T := TX2) (N := 11) hx hb hts inX2 hown hK hP 0 rfl rfl 0 (by decide) (hts _ q_fl_X2_29) (fun _ h9 => h9) rfl dX2_knowsHatOf_26 ?_
  refine ifN_ne (tgt := 45) hx hb dX2_knowsHatOf_29 (by decide) (by omega) (fun c_29 => ?_) (fun c_29 => absurd c_29 (by decide))
  refine lv_iconst (v := nI 0) hx hb dX2_knowsHatOf_45 (by decide) ?_
  exact ret _ (mW cI cZ m0 m1 m2 m3 m4 m5 m6 1 n bg tn sl ht sn o nx kp ow) _ _ _ _ dX2_knowsHatOf_46 rfl rfl (List.Perm.refl _) hP hS

set_option maxHeartbeats 4000000 in
set_option maxRecDepth 100000 in
theorem mf_X2_knowsHatOf_b (m0 m1 m2 m3 m4 m5 m6 th n : Nat) (bg : Bool) (tn sl : Nat) (ht sn : Nat → Nat) (o nx kp : Nat → Bool) (ow : Nat → Nat) (j : Nat) (a1 : Int32) (hj : j < n) (ha1 : ∀ j, j < n → a1 ≠ nI j) (hn : n ≤ 5) : Mi l yX2_knowsHatOf ws_X2_knowsHatOf 2 43 (dC, dI) (tyL cI cZ cJ) [.ref m0, .int (nI j), .int a1] (mW cI cZ m0 m1 m2 m3 m4 m5 m6 th n bg tn sl ht sn o nx kp ow) (fun r u => u = mW cI cZ m0 m1 m2 m3 m4 m5 m6 1 n bg tn sl ht sn o nx kp ow) := by
  refine Mi_of (by decide +kernel) (Nat.le_of_ble_eq_true rfl) ?_
  intro pr ev sx mi ag bl me cd Q ls S hP hK hD hZ hl ret
  obtain ⟨hx, hb, hml, hown, hts⟩ := id S
  have hown : sx.vm.findClass RX2 = some mi.cls := hown
  have hS : va_S (wIn (mW cI cZ m0 m1 m2 m3 m4 m5 m6 th n bg tn sl ht sn o nx kp ow)) sx.heap sx.heap [] := va_S.rf
  have hl : lv_has ls 3 [(0, .ref m0), (1, .int (nI j)), (2, .int a1)] := hl
  refine lv_aload_n hx hb dX2_knowsHatOf_0 rfl (lv_at hl 0 rfl) ?_
  refine lv_aload_n hx hb dX2_knowsHatOf_1 rfl (lv_at hl 0 rfl) ?_
  refine lv_iload_n hx hb dX2_knowsHatOf_2 rfl (lv_at hl 1 rfl) ?_
  refine call_Vp (As := [.int (nI j)]) (rest := [.ref m0]) S (m_X2_isPlayer_t m0 m1 m2 m3 m4 m5 m6 th n bg tn sl ht sn o nx kp ow j hn (by omega)) g_X2_X2_isPlayer hd_X2_isPlayer ⟨Nat.le_of_ble_eq_true rfl, Nat.le_of_ble_eq_true rfl⟩ ⟨Nat.zero_le _, Nat.zero_le _⟩ hP hD hK hS hZ [0, 1, 2, 3, 4, 5, 6] rfl (by decide) 0 rfl rfl hl.1 rfl (Nat.le_of_ble_eq_true rfl) dX2_knowsHatOf_3 (fun r H locs hq hP hS => ?_)
  obtain rfl := hq
  refine ifB_eq (tgt := 21) hx hb dX2_knowsHatOf_6 (by decide) (fun c_6 => absurd c_6 (by decide)) (fun c_6 => ?_)
  refine lv_aload_n hx hb dX2_knowsHatOf_9 rfl (lv_at hl 0 rfl) ?_
  refine lv_iload_n hx hb dX2_knowsHatOf_10 rfl (lv_at hl 2 rfl) ?_
  refine call_Vp (As := [.int a1]) (rest := [.ref m0]) S (m_X2_isPlayer_f m0 m1 m2 m3 m4 m5 m6 th n bg tn sl ht sn o nx kp ow a1 hn ha1) g_X2_X2_isPlayer hd_X2_isPlayer ⟨Nat.le_of_ble_eq_true rfl, Nat.le_of_ble_eq_true rfl⟩ ⟨Nat.zero_le _, Nat.zero_le _⟩ hP hD hK hS hZ [0, 1, 2, 3, 4, 5, 6] rfl (by decide) 0 rfl rfl hl.1 rfl (Nat.le_of_ble_eq_true rfl) dX2_knowsHatOf_11 (fun r H locs hq hP hS => ?_)
  obtain rfl := hq
  refine ifB_eq (tgt := 21) hx hb dX2_knowsHatOf_14 (by decide) (fun c_14 => ?_) (fun c_14 => absurd c_14 (by decide))
  refine lv_iconst (v := nI 1) hx hb dX2_knowsHatOf_21 (by decide) ?_
  refine va_put (D := (dC, dI)) (ci := 2) (v := .int (nI 1)) (ty := .int) (C := RX2) (T := TX2) (N := 11) hx hb hts inX2 tyX2 tyX2_ok nmX2 hown hK hP hD hS 0 rfl rfl 0 (by decide) (hts _ q_fl_X2_29) (fun _ h9 => h9) rfl (by decide +kernel) rfl rfl (Nat.le_of_ble_eq_true rfl) dX2_knowsHatOf_22 (fun H locs hP hD hS => ?_)
  have hP : va_P (dC, dI) vwCl (mW cI cZ m0 m1 m2 m3 m4 m5 m6 1 n bg tn sl ht sn o nx kp ow) H := hP
  have hD : va_D (wIn (mW cI cZ m0 m1 m2 m3 m4 m5 m6 th n bg tn sl ht sn o nx kp ow)) (mW cI cZ m0 m1 m2 m3 m4 m5 m6 1 n bg tn sl ht sn o nx kp ow) := hD
  refine lv_aload_n hx hb dX2_knowsHatOf_25 rfl (lv_at hl 0 rfl) ?_
  refine va_get (D := (dC, dI)) (ci := 2) (v := .int (nI 1)) (C := RX2) (T := TX2) (N := 11) hx hb hts inX2 hown hK hP 0 rfl rfl 0 (by decide) (hts _ q_fl_X2_29) (fun _ h9 => h9) rfl dX2_knowsHatOf_26 ?_
  refine ifN_ne (tgt := 45) hx hb dX2_knowsHatOf_29 (by decide) (by omega) (fun c_29 => ?_) (fun c_29 => absurd c_29 (by decide))
  refine lv_iconst (v := nI 0) hx hb dX2_knowsHatOf_45 (by decide) ?_
  exact ret _ (mW cI cZ m0 m1 m2 m3 m4 m5 m6 1 n bg tn sl ht sn o nx kp ow) _ _ _ _ dX2_knowsHatOf_46 rfl rfl (List.Perm.refl _) hP hS

set_option maxHeartbeats 4000000 in
set_option maxRecDepth 100000 in
theorem mf_X2_knowsCertain_a (m0 m1 m2 m3 m4 m5 m6 th n : Nat) (bg : Bool) (tn sl : Nat) (ht sn : Nat → Nat) (o nx kp : Nat → Bool) (ow : Nat → Nat) (a0 a1 : Int32) (ha0 : ∀ j, j < n → a0 ≠ nI j) (hn : n ≤ 5) : Mi l yX2_knowsCertain ws_X2_knowsCertain 2 43 (dC, dI) (tyL cI cZ cJ) [.ref m0, .int a0, .int a1] (mW cI cZ m0 m1 m2 m3 m4 m5 m6 th n bg tn sl ht sn o nx kp ow) (fun r u => u = mW cI cZ m0 m1 m2 m3 m4 m5 m6 1 n bg tn sl ht sn o nx kp ow) := by
  refine Mi_of (by decide +kernel) (Nat.le_of_ble_eq_true rfl) ?_
  intro pr ev sx mi ag bl me cd Q ls S hP hK hD hZ hl ret
  obtain ⟨hx, hb, hml, hown, hts⟩ := id S
  have hown : sx.vm.findClass RX2 = some mi.cls := hown
  have hS : va_S (wIn (mW cI cZ m0 m1 m2 m3 m4 m5 m6 th n bg tn sl ht sn o nx kp ow)) sx.heap sx.heap [] := va_S.rf
  have hl : lv_has ls 3 [(0, .ref m0), (1, .int a0), (2, .int a1)] := hl
  refine lv_aload_n hx hb dX2_knowsCertain_0 rfl (lv_at hl 0 rfl) ?_
  refine lv_aload_n hx hb dX2_knowsCertain_1 rfl (lv_at hl 0 rfl) ?_
  refine lv_iload_n hx hb dX2_knowsCertain_2 rfl (lv_at hl 1 rfl) ?_
  refine call_Vp (As := [.int a0]) (rest := [.ref m0]) S (m_X2_isPlayer_f m0 m1 m2 m3 m4 m5 m6 th n bg tn sl ht sn o nx kp ow a0 hn ha0) g_X2_X2_isPlayer hd_X2_isPlayer ⟨Nat.le_of_ble_eq_true rfl, Nat.le_of_ble_eq_true rfl⟩ ⟨Nat.zero_le _, Nat.zero_le _⟩ hP hD hK hS hZ [0, 1, 2, 3, 4, 5, 6] rfl (by decide) 0 rfl rfl hl.1 rfl (Nat.le_of_ble_eq_true rfl) dX2_knowsCertain_3 (fun r H locs hq hP hS => ?_)
  obtain rfl := hq
  refine ifB_eq (tgt := 21) hx hb dX2_knowsCertain_6 (by decide) (fun c_6 => ?_) (fun c_6 => absurd c_6 (by decide))
  refine lv_iconst (v := nI 1) hx hb dX2_knowsCertain_21 (by decide) ?_
  refine va_put (D := (dC, dI)) (ci := 2) (v := .int (nI 1)) (ty := .int) (C := RX2) (T := TX2) (N := 11) hx hb hts inX2 tyX2 tyX2_ok nmX2 hown hK hP hD hS 0 rfl rfl 0 (by decide) (hts _ q_fl_X2_29) (fun _ h9 => h9) rfl (by decide +kernel) rfl rfl (Nat.le_of_ble_eq_true rfl) dX2_knowsCertain_22 (fun H locs hP hD hS => ?_)
  have hP : va_P (dC, dI) vwCl (mW cI cZ m0 m1 m2 m3 m4 m5 m6 1 n bg tn sl ht sn o nx kp ow) H := hP
  have hD : va_D (wIn (mW cI cZ m0 m1 m2 m3 m4 m5 m6 th n bg tn sl ht sn o nx kp ow)) (mW cI cZ m0 m1 m2 m3 m4 m5 m6 1 n bg tn sl ht sn o nx kp ow) := hD
  refine lv_aload_n hx hb dX2_knowsCertain_25 rfl (lv_at hl 0 rfl) ?_
  refine va_get (D := (dC, dI)) (ci := 2) (v := .int (nI 1)) (C := RX2) (T := TX2) (N := 11) hx hb hts inX2 hown hK hP 0 rfl rfl 0 (by decide) (hts _ q_fl_X2_29) (fun _ h9 => h9) rfl dX2_knowsCertain_26 ?_
  refine ifN_ne (tgt := 45) hx hb dX2_knowsCertain_29 (by decide) (by omega) (fun c_29 => ?_) (fun c_29 => absurd c_29 (by decide))
  refine lv_iconst (v := nI 0) hx hb dX2_knowsCertain_45 (by decide) ?_
  exact ret _ (mW cI cZ m0 m1 m2 m3 m4 m5 m6 1 n bg tn sl ht sn o nx kp ow) _ _ _ _ dX2_knowsCertain_46 rfl rfl (List.Perm.refl _) hP hS

set_option maxHeartbeats 4000000 in
set_option maxRecDepth 100000 in
theorem mf_X2_knowsCertain_b (m0 m1 m2 m3 m4 m5 m6 th n : Nat) (bg : Bool) (tn sl : Nat) (ht sn : Nat → Nat) (o nx kp : Nat → Bool) (ow : Nat → Nat) (j : Nat) (a1 : Int32) (hj : j < n) (ha1 : ∀ j, j < n → a1 ≠ nI j) (hn : n ≤ 5) : Mi l yX2_knowsCertain ws_X2_knowsCertain 2 43 (dC, dI) (tyL cI cZ cJ) [.ref m0, .int (nI j), .int a1] (mW cI cZ m0 m1 m2 m3 m4 m5 m6 th n bg tn sl ht sn o nx kp ow) (fun r u => u = mW cI cZ m0 m1 m2 m3 m4 m5 m6 1 n bg tn sl ht sn o nx kp ow) := by
  refine Mi_of (by decide +kernel) (Nat.le_of_ble_eq_true rfl) ?_
  intro pr ev sx mi ag bl me cd Q ls S hP hK hD hZ hl ret
  obtain ⟨hx, hb, hml, hown, hts⟩ := id S
  have hown : sx.vm.findClass RX2 = some mi.cls := hown
  have hS : va_S (wIn (mW cI cZ m0 m1 m2 m3 m4 m5 m6 th n bg tn sl ht sn o nx kp ow)) sx.heap sx.heap [] := va_S.rf
  have hl : lv_has ls 3 [(0, .ref m0), (1, .int (nI j)), (2, .int a1)] := hl
  refine lv_aload_n hx hb dX2_knowsCertain_0 rfl (lv_at hl 0 rfl) ?_
  refine lv_aload_n hx hb dX2_knowsCertain_1 rfl (lv_at hl 0 rfl) ?_
  refine lv_iload_n hx hb dX2_knowsCertain_2 rfl (lv_at hl 1 rfl) ?_
  refine call_Vp (As := [.int (nI j)]) (rest := [.ref m0]) S (m_X2_isPlayer_t m0 m1 m2 m3 m4 m5 m6 th n bg tn sl ht sn o nx kp ow j hn (by omega)) g_X2_X2_isPlayer hd_X2_isPlayer ⟨Nat.le_of_ble_eq_true rfl, Nat.le_of_ble_eq_true rfl⟩ ⟨Nat.zero_le _, Nat.zero_le _⟩ hP hD hK hS hZ [0, 1, 2, 3, 4, 5, 6] rfl (by decide) 0 rfl rfl hl.1 rfl (Nat.le_of_ble_eq_true rfl) dX2_knowsCertain_3 (fun r H locs hq hP hS => ?_)
  obtain rfl := hq
  refine ifB_eq (tgt := 21) hx hb dX2_knowsCertain_6 (by decide) (fun c_6 => absurd c_6 (by decide)) (fun c_6 => ?_)
  refine lv_aload_n hx hb dX2_knowsCertain_9 rfl (lv_at hl 0 rfl) ?_
  refine lv_iload_n hx hb dX2_knowsCertain_10 rfl (lv_at hl 2 rfl) ?_
  refine call_Vp (As := [.int a1]) (rest := [.ref m0]) S (m_X2_isPlayer_f m0 m1 m2 m3 m4 m5 m6 th n bg tn sl ht sn o nx kp ow a1 hn ha1) g_X2_X2_isPlayer hd_X2_isPlayer ⟨Nat.le_of_ble_eq_true rfl, Nat.le_of_ble_eq_true rfl⟩ ⟨Nat.zero_le _, Nat.zero_le _⟩ hP hD hK hS hZ [0, 1, 2, 3, 4, 5, 6] rfl (by decide) 0 rfl rfl hl.1 rfl (Nat.le_of_ble_eq_true rfl) dX2_knowsCertain_11 (fun r H locs hq hP hS => ?_)
  obtain rfl := hq
  refine ifB_eq (tgt := 21) hx hb dX2_knowsCertain_14 (by decide) (fun c_14 => ?_) (fun c_14 => absurd c_14 (by decide))
  refine lv_iconst (v := nI 1) hx hb dX2_knowsCertain_21 (by decide) ?_
  refine va_put (D := (dC, dI)) (ci := 2) (v := .int (nI 1)) (ty := .int) (C := RX2) (T := TX2) (N := 11) hx hb hts inX2 tyX2 tyX2_ok nmX2 hown hK hP hD hS 0 rfl rfl 0 (by decide) (hts _ q_fl_X2_29) (fun _ h9 => h9) rfl (by decide +kernel) rfl rfl (Nat.le_of_ble_eq_true rfl) dX2_knowsCertain_22 (fun H locs hP hD hS => ?_)
  have hP : va_P (dC, dI) vwCl (mW cI cZ m0 m1 m2 m3 m4 m5 m6 1 n bg tn sl ht sn o nx kp ow) H := hP
  have hD : va_D (wIn (mW cI cZ m0 m1 m2 m3 m4 m5 m6 th n bg tn sl ht sn o nx kp ow)) (mW cI cZ m0 m1 m2 m3 m4 m5 m6 1 n bg tn sl ht sn o nx kp ow) := hD
  refine lv_aload_n hx hb dX2_knowsCertain_25 rfl (lv_at hl 0 rfl) ?_
  refine va_get (D := (dC, dI)) (ci := 2) (v := .int (nI 1)) (C := RX2) (T := TX2) (N := 11) hx hb hts inX2 hown hK hP 0 rfl rfl 0 (by decide) (hts _ q_fl_X2_29) (fun _ h9 => h9) rfl dX2_knowsCertain_26 ?_
  refine ifN_ne (tgt := 45) hx hb dX2_knowsCertain_29 (by decide) (by omega) (fun c_29 => ?_) (fun c_29 => absurd c_29 (by decide))
  refine lv_iconst (v := nI 0) hx hb dX2_knowsCertain_45 (by decide) ?_
  exact ret _ (mW cI cZ m0 m1 m2 m3 m4 m5 m6 1 n bg tn sl ht sn o nx kp ow) _ _ _ _ dX2_knowsCertain_46 rfl rfl (List.Perm.refl _) hP hS

set_option maxHeartbeats 4000000 in
set_option maxRecDepth 100000 in
theorem m_X2_hatsOf (m0 m1 m2 m3 m4 m5 m6 th n : Nat) (bg : Bool) (tn sl : Nat) (ht sn : Nat → Nat) (o nx kp : Nat → Bool) (ow : Nat → Nat) (co : Nat) (hn : n ≤ 5) (hsn : ∀ p, p < 5 → sn p < 32) (hht : ∀ p, p < 5 → ht p < 3) (hco : co < 3) : Mi l yX2_hatsOf ws_X2_hatsOf 2 45 (dC, dI) (tyL cI cZ cJ) [.ref m0, .int (nI co)] (mW cI cZ m0 m1 m2 m3 m4 m5 m6 th n bg tn sl ht sn o nx kp ow) (fun r u => r = nI (haveN n (realN ht n) co) ∧ u = mW cI cZ m0 m1 m2 m3 m4 m5 m6 0 n bg tn sl ht sn o nx kp ow) := by
  refine Mi_of (by decide +kernel) (Nat.le_of_ble_eq_true rfl) ?_
  intro pr ev sx mi ag bl me cd Q ls S hP hK hD hZ hl ret
  obtain ⟨hx, hb, hml, hown, hts⟩ := id S
  have hown : sx.vm.findClass RX2 = some mi.cls := hown
  have hS : va_S (wIn (mW cI cZ m0 m1 m2 m3 m4 m5 m6 th n bg tn sl ht sn o nx kp ow)) sx.heap sx.heap [] := va_S.rf
  have hl : lv_has ls 2 [(0, .ref m0), (1, .int (nI co))] := hl
  have h3 := p3_243 n hn; have h30 := p3_0 n
  have hre : realN ht n < 3 ^ n := realN_lt n (fun p hp => hht p (by omega))
  refine lv_aload_n hx hb dX2_hatsOf_0 rfl (lv_at hl 0 rfl) ?_
  refine lv_iconst (v := nI 0) hx hb dX2_hatsOf_1 (by decide) ?_
  refine va_put (D := (dC, dI)) (ci := 2) (v := .int (nI 0)) (ty := .int) (C := RX2) (T := TX2) (N := 11) hx hb hts inX2 tyX2 tyX2_ok nmX2 hown hK hP hD hS 0 rfl rfl 0 (by decide) (hts _ q_fl_X2_29) (fun _ h9 => h9) rfl (by decide +kernel) rfl rfl (Nat.le_of_ble_eq_true rfl) dX2_hatsOf_2 (fun H locs hP hD hS => ?_)
  have hP : va_P (dC, dI) vwCl (mW cI cZ m0 m1 m2 m3 m4 m5 m6 0 n bg tn sl ht sn o nx kp ow) H := hP
  have hD : va_D (wIn (mW cI cZ m0 m1 m2 m3 m4 m5 m6 th n bg tn sl ht sn o nx kp ow)) (mW cI cZ m0 m1 m2 m3 m4 m5 m6 0 n bg tn sl ht sn o nx kp ow) := hD
  refine lv_iload_n hx hb dX2_hatsOf_5 rfl (lv_at hl 1 rfl) ?_
  refine call_Sp (As := [.int (nI co)]) (rest := []) S (m_X2_isColour_t co (by omega)) g_X2_X2_isColour hd_X2_isColour ⟨Nat.le_of_ble_eq_true rfl, Nat.le_of_ble_eq_true rfl⟩ ⟨Nat.zero_le _, Nat.zero_le _⟩ hP hD hK hS hZ [] rfl (by decide) hl.1 rfl (Nat.le_of_ble_eq_true rfl) dX2_hatsOf_6 (fun r H locs hq hP hS => ?_)
  obtain rfl := hq
  refine ifB_eq (tgt := 24) hx hb dX2_hatsOf_9 (by decide) (fun c_9 => absurd c_9 (by decide)) (fun c_9 => ?_)
  refine lv_aload_n hx hb dX2_hatsOf_12 rfl (lv_at hl 0 rfl) ?_
  refine lv_aload_n hx hb dX2_hatsOf_13 rfl (lv_at hl 0 rfl) ?_
  refine call_Vp (As := []) (rest := [.ref m0]) S (m_X2_real m0 m1 m2 m3 m4 m5 m6 0 n bg tn sl ht sn o nx kp ow  hn) g_X2_X2_real hd_X2_real ⟨Nat.le_of_ble_eq_true rfl, Nat.le_of_ble_eq_true rfl⟩ ⟨Nat.zero_le _, Nat.zero_le _⟩ hP hD hK hS hZ [0, 1, 2, 3, 4, 5, 6] rfl (by decide) 0 rfl rfl hl.1 rfl (Nat.le_of_ble_eq_true rfl) dX2_hatsOf_14 (fun r H locs hq hP hS => ?_)
  obtain rfl := hq
  refine lv_iload_n hx hb dX2_hatsOf_17 rfl (lv_at hl 1 rfl) ?_
  refine call_Vp (As := [.int (nI (realN ht n)), .int (nI co)]) (rest := []) S (m_X2_have m0 m1 m2 m3 m4 m5 m6 0 n bg tn sl ht sn o nx kp ow (realN ht n) co hn (by omega) (by omega)) g_X2_X2_have hd_X2_have ⟨Nat.le_of_ble_eq_true rfl, Nat.le_of_ble_eq_true rfl⟩ ⟨Nat.zero_le _, Nat.zero_le _⟩ hP hD hK hS hZ [0, 1, 2, 3, 4, 5, 6] rfl (by decide) 0 rfl rfl hl.1 rfl (Nat.le_of_ble_eq_true rfl) dX2_hatsOf_18 (fun r H locs hq hP hS => ?_)
  obtain rfl := hq
  refine lv_goto (tgt := 29) hx hb dX2_hatsOf_21 (by decide) ?_
  exact ret _ (mW cI cZ m0 m1 m2 m3 m4 m5 m6 0 n bg tn sl ht sn o nx kp ow) _ _ _ _ dX2_hatsOf_29 rfl ⟨rfl, rfl⟩ (List.Perm.refl _) hP hS

set_option maxHeartbeats 4000000 in
set_option maxRecDepth 100000 in
theorem mf_X2_hatsOf_a (m0 m1 m2 m3 m4 m5 m6 th n : Nat) (bg : Bool) (tn sl : Nat) (ht sn : Nat → Nat) (o nx kp : Nat → Bool) (ow : Nat → Nat) (a0 : Int32) (ha0 : ∀ j, j < 3 → a0 ≠ nI j) (hn : n ≤ 5) : Mi l yX2_hatsOf ws_X2_hatsOf 2 42 (dC, dI) (tyL cI cZ cJ) [.ref m0, .int a0] (mW cI cZ m0 m1 m2 m3 m4 m5 m6 th n bg tn sl ht sn o nx kp ow) (fun r u => u = mW cI cZ m0 m1 m2 m3 m4 m5 m6 1 n bg tn sl ht sn o nx kp ow) := by
  refine Mi_of (by decide +kernel) (Nat.le_of_ble_eq_true rfl) ?_
  intro pr ev sx mi ag bl me cd Q ls S hP hK hD hZ hl ret
  obtain ⟨hx, hb, hml, hown, hts⟩ := id S
  have hown : sx.vm.findClass RX2 = some mi.cls := hown
  have hS : va_S (wIn (mW cI cZ m0 m1 m2 m3 m4 m5 m6 th n bg tn sl ht sn o nx kp ow)) sx.heap sx.heap [] := va_S.rf
  have hl : lv_has ls 2 [(0, .ref m0), (1, .int a0)] := hl
  refine lv_aload_n hx hb dX2_hatsOf_0 rfl (lv_at hl 0 rfl) ?_
  refine lv_iconst (v := nI 0) hx hb dX2_hatsOf_1 (by decide) ?_
  refine va_put (D := (dC, dI)) (ci := 2) (v := .int (nI 0)) (ty := .int) (C := RX2) (T := TX2) (N := 11) hx hb hts inX2 tyX2 tyX2_ok nmX2 hown hK hP hD hS 0 rfl rfl 0 (by decide) (hts _ q_fl_X2_29) (fun _ h9 => h9) rfl (by decide +kernel) rfl rfl (Nat.le_of_ble_eq_true rfl) dX2_hatsOf_2 (fun H locs hP hD hS => ?_)
  have hP : va_P (dC, dI) vwCl (mW cI cZ m0 m1 m2 m3 m4 m5 m6 0 n bg tn sl ht sn o nx kp ow) H := hP
  have hD : va_D (wIn (mW cI cZ m0 m1 m2 m3 m4 m5 m6 th n bg tn sl ht sn o nx kp ow)) (mW cI cZ m0 m1 m2 m3 m4 m5 m6 0 n bg tn sl ht sn o nx kp ow) := hD
  refine lv_iload_n hx hb dX2_hatsOf_5 rfl (lv_at hl 1 rfl) ?_
  refine call_Sp (As := [.int a0]) (rest := []) S (m_X2_isColour_f a0 ha0) g_X2_X2_isColour hd_X2_isColour ⟨Nat.le_of_ble_eq_true rfl, Nat.le_of_ble_eq_true rfl⟩ ⟨Nat.zero_le _, Nat.zero_le _⟩ hP hD hK hS hZ [] rfl (by decide) hl.1 rfl (Nat.le_of_ble_eq_true rfl) dX2_hatsOf_6 (fun r H locs hq hP hS => ?_)
  obtain rfl := hq
  refine ifB_eq (tgt := 24) hx hb dX2_hatsOf_9 (by decide) (fun c_9 => ?_) (fun c_9 => absurd c_9 (by decide))
  refine lv_aload_n hx hb dX2_hatsOf_24 rfl (lv_at hl 0 rfl) ?_
  refine lv_iconst (v := nI 1) hx hb dX2_hatsOf_25 (by decide) ?_
  refine call_Vi (As := [.int (nI 1)]) (wr := []) (rest := []) S (m_X2_fail m0 m1 m2 m3 m4 m5 m6 0 n bg tn sl ht sn o nx kp ow 1 ) g_X2_X2_fail hd_X2_fail ⟨Nat.le_of_ble_eq_true rfl, Nat.le_of_ble_eq_true rfl⟩ ⟨Nat.zero_le _, Nat.zero_le _⟩ hP hD hK hS hZ [0, 1, 2, 3, 4, 5, 6] [] rfl rfl (by decide) 0 rfl rfl hl.1 rfl (Nat.le_of_ble_eq_true rfl) dX2_hatsOf_26 (fun r u H locs hq hP hD hS => ?_)
  obtain ⟨rfl, rfl⟩ := hq
  have hP : va_P (dC, dI) vwCl (mW cI cZ m0 m1 m2 m3 m4 m5 m6 1 n bg tn sl ht sn o nx kp ow) H := hP
  have hD : va_D (wIn (mW cI cZ m0 m1 m2 m3 m4 m5 m6 th n bg tn sl ht sn o nx kp ow)) (mW cI cZ m0 m1 m2 m3 m4 m5 m6 1 n bg tn sl ht sn o nx kp ow) := hD
  exact ret _ (mW cI cZ m0 m1 m2 m3 m4 m5 m6 1 n bg tn sl ht sn o nx kp ow) _ _ _ _ dX2_hatsOf_29 rfl rfl (List.Perm.refl _) hP hS

set_option maxHeartbeats 4000000 in
set_option maxRecDepth 100000 in
theorem m_X2_openWays (m0 m1 m2 m3 m4 m5 m6 th n : Nat) (bg : Bool) (tn sl : Nat) (ht sn : Nat → Nat) (o nx kp : Nat → Bool) (ow : Nat → Nat) (hn : n ≤ 5) : Mi l yX2_openWays ws_X2_openWays 2 42 (dC, dI) (tyL cI cZ cJ) [.ref m0] (mW cI cZ m0 m1 m2 m3 m4 m5 m6 th n bg tn sl ht sn o nx kp ow) (fun r u => r = nI (cntP o (3 ^ n)) ∧ u = mW cI cZ m0 m1 m2 m3 m4 m5 m6 0 n bg tn sl ht sn o nx kp ow) := by
  refine Mi_of (by decide +kernel) (Nat.le_of_ble_eq_true rfl) ?_
  intro pr ev sx mi ag bl me cd Q ls S hP hK hD hZ hl ret
  obtain ⟨hx, hb, hml, hown, hts⟩ := id S
  have hown : sx.vm.findClass RX2 = some mi.cls := hown
  have hS : va_S (wIn (mW cI cZ m0 m1 m2 m3 m4 m5 m6 th n bg tn sl ht sn o nx kp ow)) sx.heap sx.heap [] := va_S.rf
  have hl : lv_has ls 1 [(0, .ref m0)] := hl
  refine lv_aload_n hx hb dX2_openWays_0 rfl (lv_at hl 0 rfl) ?_
  refine lv_aload_n hx hb dX2_openWays_1 rfl (lv_at hl 0 rfl) ?_
  refine call_Vp (As := []) (rest := [.ref m0]) S (m_X2_openNow m0 m1 m2 m3 m4 m5 m6 th n bg tn sl ht sn o nx kp ow  hn) g_X2_X2_openNow hd_X2_openNow ⟨Nat.le_of_ble_eq_true rfl, Nat.le_of_ble_eq_true rfl⟩ ⟨Nat.zero_le _, Nat.zero_le _⟩ hP hD hK hS hZ [0, 1, 2, 3, 4, 5, 6] rfl (by decide) 0 rfl rfl hl.1 rfl (Nat.le_of_ble_eq_true rfl) dX2_openWays_2 (fun r H locs hq hP hS => ?_)
  obtain rfl := hq
  refine call_Vi (As := [.int (nI (cntP o (3 ^ n)))]) (wr := []) (rest := []) S (m_X2_told m0 m1 m2 m3 m4 m5 m6 th n bg tn sl ht sn o nx kp ow (nI (cntP o (3 ^ n)))) g_X2_X2_told hd_X2_told ⟨Nat.le_of_ble_eq_true rfl, Nat.le_of_ble_eq_true rfl⟩ ⟨Nat.zero_le _, Nat.zero_le _⟩ hP hD hK hS hZ [0, 1, 2, 3, 4, 5, 6] [] rfl rfl (by decide) 0 rfl rfl hl.1 rfl (Nat.le_of_ble_eq_true rfl) dX2_openWays_5 (fun r u H locs hq hP hD hS => ?_)
  obtain ⟨rfl, rfl⟩ := hq
  have hP : va_P (dC, dI) vwCl (mW cI cZ m0 m1 m2 m3 m4 m5 m6 0 n bg tn sl ht sn o nx kp ow) H := hP
  have hD : va_D (wIn (mW cI cZ m0 m1 m2 m3 m4 m5 m6 th n bg tn sl ht sn o nx kp ow)) (mW cI cZ m0 m1 m2 m3 m4 m5 m6 0 n bg tn sl ht sn o nx kp ow) := hD
  exact ret _ (mW cI cZ m0 m1 m2 m3 m4 m5 m6 0 n bg tn sl ht sn o nx kp ow) _ _ _ _ dX2_openWays_8 rfl ⟨rfl, rfl⟩ (List.Perm.refl _) hP hS

set_option maxHeartbeats 4000000 in
set_option maxRecDepth 100000 in
theorem m_X2_openWaysWith (m0 m1 m2 m3 m4 m5 m6 th n : Nat) (bg : Bool) (tn sl : Nat) (ht sn : Nat → Nat) (o nx kp : Nat → Bool) (ow : Nat → Nat) (j co : Nat) (hn : n ≤ 5) (hj : j < n) (hco : co < 3) : Mi l yX2_openWaysWith ws_X2_openWaysWith 2 45 (dC, dI) (tyL cI cZ cJ) [.ref m0, .int (nI j), .int (nI co)] (mW cI cZ m0 m1 m2 m3 m4 m5 m6 th n bg tn sl ht sn o nx kp ow) (fun r u => r = nI (withM o n j co) ∧ u = mW cI cZ m0 m1 m2 m3 m4 m5 m6 0 n bg tn sl ht sn o nx kp ow) := by
  refine Mi_of (by decide +kernel) (Nat.le_of_ble_eq_true rfl) ?_
  intro pr ev sx mi ag bl me cd Q ls S hP hK hD hZ hl ret
  obtain ⟨hx, hb, hml, hown, hts⟩ := id S
  have hown : sx.vm.findClass RX2 = some mi.cls := hown
  have hS : va_S (wIn (mW cI cZ m0 m1 m2 m3 m4 m5 m6 th n bg tn sl ht sn o nx kp ow)) sx.heap sx.heap [] := va_S.rf
  have hl : lv_has ls 3 [(0, .ref m0), (1, .int (nI j)), (2, .int (nI co))] := hl
  refine lv_aload_n hx hb dX2_openWaysWith_0 rfl (lv_at hl 0 rfl) ?_
  refine lv_iconst (v := nI 0) hx hb dX2_openWaysWith_1 (by decide) ?_
  refine va_put (D := (dC, dI)) (ci := 2) (v := .int (nI 0)) (ty := .int) (C := RX2) (T := TX2) (N := 11) hx hb hts inX2 tyX2 tyX2_ok nmX2 hown hK hP hD hS 0 rfl rfl 0 (by decide) (hts _ q_fl_X2_29) (fun _ h9 => h9) rfl (by decide +kernel) rfl rfl (Nat.le_of_ble_eq_true rfl) dX2_openWaysWith_2 (fun H locs hP hD hS => ?_)
  have hP : va_P (dC, dI) vwCl (mW cI cZ m0 m1 m2 m3 m4 m5 m6 0 n bg tn sl ht sn o nx kp ow) H := hP
  have hD : va_D (wIn (mW cI cZ m0 m1 m2 m3 m4 m5 m6 th n bg tn sl ht sn o nx kp ow)) (mW cI cZ m0 m1 m2 m3 m4 m5 m6 0 n bg tn sl ht sn o nx kp ow) := hD
  refine lv_aload_n hx hb dX2_openWaysWith_5 rfl (lv_at hl 0 rfl) ?_
  refine lv_iload_n hx hb dX2_openWaysWith_6 rfl (lv_at hl 1 rfl) ?_
  refine call_Vp (As := [.int (nI j)]) (rest := []) S (m_X2_isPlayer_t m0 m1 m2 m3 m4 m5 m6 0 n bg tn sl ht sn o nx kp ow j hn (by omega)) g_X2_X2_isPlayer hd_X2_isPlayer ⟨Nat.le_of_ble_eq_true rfl, Nat.le_of_ble_eq_true rfl⟩ ⟨Nat.zero_le _, Nat.zero_le _⟩ hP hD hK hS hZ [0, 1, 2, 3, 4, 5, 6] rfl (by decide) 0 rfl rfl hl.1 rfl (Nat.le_of_ble_eq_true rfl) dX2_openWaysWith_7 (fun r H locs hq hP hS => ?_)
  obtain rfl := hq
  refine ifB_eq (tgt := 29) hx hb dX2_openWaysWith_10 (by decide) (fun c_10 => absurd c_10 (by decide)) (fun c_10 => ?_)
  refine lv_iload_n hx hb dX2_openWaysWith_13 rfl (lv_at hl 2 rfl) ?_
  refine call_Sp (As := [.int (nI co)]) (rest := []) S (m_X2_isColour_t co (by omega)) g_X2_X2_isColour hd_X2_isColour ⟨Nat.le_of_ble_eq_true rfl, Nat.le_of_ble_eq_true rfl⟩ ⟨Nat.zero_le _, Nat.zero_le _⟩ hP hD hK hS hZ [] rfl (by decide) hl.1 rfl (Nat.le_of_ble_eq_true rfl) dX2_openWaysWith_14 (fun r H locs hq hP hS => ?_)
  obtain rfl := hq
  refine ifB_eq (tgt := 29) hx hb dX2_openWaysWith_17 (by decide) (fun c_17 => absurd c_17 (by decide)) (fun c_17 => ?_)
  refine lv_aload_n hx hb dX2_openWaysWith_20 rfl (lv_at hl 0 rfl) ?_
  refine lv_iload_n hx hb dX2_openWaysWith_21 rfl (lv_at hl 1 rfl) ?_
  refine lv_iload_n hx hb dX2_openWaysWith_22 rfl (lv_at hl 2 rfl) ?_
  refine call_Vp (As := [.int (nI j), .int (nI co)]) (rest := []) S (m_X2_openWith m0 m1 m2 m3 m4 m5 m6 0 n bg tn sl ht sn o nx kp ow j co hn (by omega) hco) g_X2_X2_openWith hd_X2_openWith ⟨Nat.le_of_ble_eq_true rfl, Nat.le_of_ble_eq_true rfl⟩ ⟨Nat.zero_le _, Nat.zero_le _⟩ hP hD hK hS hZ [0, 1, 2, 3, 4, 5, 6] rfl (by decide) 0 rfl rfl hl.1 rfl (Nat.le_of_ble_eq_true rfl) dX2_openWaysWith_23 (fun r H locs hq hP hS => ?_)
  obtain rfl := hq
  refine lv_goto (tgt := 34) hx hb dX2_openWaysWith_26 (by decide) ?_
  exact ret _ (mW cI cZ m0 m1 m2 m3 m4 m5 m6 0 n bg tn sl ht sn o nx kp ow) _ _ _ _ dX2_openWaysWith_34 rfl ⟨rfl, rfl⟩ (List.Perm.refl _) hP hS

set_option maxHeartbeats 4000000 in
set_option maxRecDepth 100000 in
theorem mf_X2_openWaysWith_a (m0 m1 m2 m3 m4 m5 m6 th n : Nat) (bg : Bool) (tn sl : Nat) (ht sn : Nat → Nat) (o nx kp : Nat → Bool) (ow : Nat → Nat) (a0 a1 : Int32) (ha0 : ∀ j, j < n → a0 ≠ nI j) (hn : n ≤ 5) : Mi l yX2_openWaysWith ws_X2_openWaysWith 2 43 (dC, dI) (tyL cI cZ cJ) [.ref m0, .int a0, .int a1] (mW cI cZ m0 m1 m2 m3 m4 m5 m6 th n bg tn sl ht sn o nx kp ow) (fun r u => u = mW cI cZ m0 m1 m2 m3 m4 m5 m6 1 n bg tn sl ht sn o nx kp ow) := by
  refine Mi_of (by decide +kernel) (Nat.le_of_ble_eq_true rfl) ?_
  intro pr ev sx mi ag bl me cd Q ls S hP hK hD hZ hl ret
  obtain ⟨hx, hb, hml, hown, hts⟩ := id S
  have hown : sx.vm.findClass RX2 = some mi.cls := hown
  have hS : va_S (wIn (mW cI cZ m0 m1 m2 m3 m4 m5 m6 th n bg tn sl ht sn o nx kp ow)) sx.heap sx.heap [] := va_S.rf
  have hl : lv_has ls 3 [(0, .ref m0), (1, .int a0), (2, .int a1)] := hl
  refine lv_aload_n hx hb dX2_openWaysWith_0 rfl (lv_at hl 0 rfl) ?_
  refine lv_iconst (v := nI 0) hx hb dX2_openWaysWith_1 (by decide) ?_
  refine va_put (D := (dC, dI)) (ci := 2) (v := .int (nI 0)) (ty := .int) (C := RX2) (T := TX2) (N := 11) hx hb hts inX2 tyX2 tyX2_ok nmX2 hown hK hP hD hS 0 rfl rfl 0 (by decide) (hts _ q_fl_X2_29) (fun _ h9 => h9) rfl (by decide +kernel) rfl rfl (Nat.le_of_ble_eq_true rfl) dX2_openWaysWith_2 (fun H locs hP hD hS => ?_)
  have hP : va_P (dC, dI) vwCl (mW cI cZ m0 m1 m2 m3 m4 m5 m6 0 n bg tn sl ht sn o nx kp ow) H := hP
  have hD : va_D (wIn (mW cI cZ m0 m1 m2 m3 m4 m5 m6 th n bg tn sl ht sn o nx kp ow)) (mW cI cZ m0 m1 m2 m3 m4 m5 m6 0 n bg tn sl ht sn o nx kp ow) := hD
  refine lv_aload_n hx hb dX2_openWaysWith_5 rfl (lv_at hl 0 rfl) ?_
  refine lv_iload_n hx hb dX2_openWaysWith_6 rfl (lv_at hl 1 rfl) ?_
  refine call_Vp (As := [.int a0]) (rest := []) S (m_X2_isPlayer_f m0 m1 m2 m3 m4 m5 m6 0 n bg tn sl ht sn o nx kp ow a0 hn ha0) g_X2_X2_isPlayer hd_X2_isPlayer ⟨Nat.le_of_ble_eq_true rfl, Nat.le_of_ble_eq_true rfl⟩ ⟨Nat.zero_le _, Nat.zero_le _⟩ hP hD hK hS hZ [0, 1, 2, 3, 4, 5, 6] rfl (by decide) 0 rfl rfl hl.1 rfl (Nat.le_of_ble_eq_true rfl) dX2_openWaysWith_7 (fun r H locs hq hP hS => ?_)
  obtain rfl := hq
  refine ifB_eq (tgt := 29) hx hb dX2_openWaysWith_10 (by decide) (fun c_10 => ?_) (fun c_10 => absurd c_10 (by decide))
  refine lv_aload_n hx hb dX2_openWaysWith_29 rfl (lv_at hl 0 rfl) ?_
  refine lv_iconst (v := nI 1) hx hb dX2_openWaysWith_30 (by decide) ?_
  refine call_Vi (As := [.int (nI 1)]) (wr := []) (rest := []) S (m_X2_fail m0 m1 m2 m3 m4 m5 m6 0 n bg tn sl ht sn o nx kp ow 1 ) g_X2_X2_fail hd_X2_fail ⟨Nat.le_of_ble_eq_true rfl, Nat.le_of_ble_eq_true rfl⟩ ⟨Nat.zero_le _, Nat.zero_le _⟩ hP hD hK hS hZ [0, 1, 2, 3, 4, 5, 6] [] rfl rfl (by decide) 0 rfl rfl hl.1 rfl (Nat.le_of_ble_eq_true rfl) dX2_openWaysWith_31 (fun r u H locs hq hP hD hS => ?_)
  obtain ⟨rfl, rfl⟩ := hq
  have hP : va_P (dC, dI) vwCl (mW cI cZ m0 m1 m2 m3 m4 m5 m6 1 n bg tn sl ht sn o nx kp ow) H := hP
  have hD : va_D (wIn (mW cI cZ m0 m1 m2 m3 m4 m5 m6 th n bg tn sl ht sn o nx kp ow)) (mW cI cZ m0 m1 m2 m3 m4 m5 m6 1 n bg tn sl ht sn o nx kp ow) := hD
  exact ret _ (mW cI cZ m0 m1 m2 m3 m4 m5 m6 1 n bg tn sl ht sn o nx kp ow) _ _ _ _ dX2_openWaysWith_34 rfl rfl (List.Perm.refl _) hP hS

set_option maxHeartbeats 4000000 in
set_option maxRecDepth 100000 in
theorem mf_X2_openWaysWith_b (m0 m1 m2 m3 m4 m5 m6 th n : Nat) (bg : Bool) (tn sl : Nat) (ht sn : Nat → Nat) (o nx kp : Nat → Bool) (ow : Nat → Nat) (j : Nat) (a1 : Int32) (hj : j < n) (ha1 : ∀ j, j < 3 → a1 ≠ nI j) (hn : n ≤ 5) : Mi l yX2_openWaysWith ws_X2_openWaysWith 2 43 (dC, dI) (tyL cI cZ cJ) [.ref m0, .int (nI j), .int a1] (mW cI cZ m0 m1 m2 m3 m4 m5 m6 th n bg tn sl ht sn o nx kp ow) (fun r u => u = mW cI cZ m0 m1 m2 m3 m4 m5 m6 1 n bg tn sl ht sn o nx kp ow) := by
  refine Mi_of (by decide +kernel) (Nat.le_of_ble_eq_true rfl) ?_
  intro pr ev sx mi ag bl me cd Q ls S hP hK hD hZ hl ret
  obtain ⟨hx, hb, hml, hown, hts⟩ := id S
  have hown : sx.vm.findClass RX2 = some mi.cls := hown
  have hS : va_S (wIn (mW cI cZ m0 m1 m2 m3 m4 m5 m6 th n bg tn sl ht sn o nx kp ow)) sx.heap sx.heap [] := va_S.rf
  have hl : lv_has ls 3 [(0, .ref m0), (1, .int (nI j)), (2, .int a1)] := hl
  refine lv_aload_n hx hb dX2_openWaysWith_0 rfl (lv_at hl 0 rfl) ?_
  refine lv_iconst (v := nI 0) hx hb dX2_openWaysWith_1 (by decide) ?_
  refine va_put (D := (dC, dI)) (ci := 2) (v := .int (nI 0)) (ty := .int) (C := RX2) (T := TX2) (N := 11) hx hb hts inX2 tyX2 tyX2_ok nmX2 hown hK hP hD hS 0 rfl rfl 0 (by decide) (hts _ q_fl_X2_29) (fun _ h9 => h9) rfl (by decide +kernel) rfl rfl (Nat.le_of_ble_eq_true rfl) dX2_openWaysWith_2 (fun H locs hP hD hS => ?_)
  have hP : va_P (dC, dI) vwCl (mW cI cZ m0 m1 m2 m3 m4 m5 m6 0 n bg tn sl ht sn o nx kp ow) H := hP
  have hD : va_D (wIn (mW cI cZ m0 m1 m2 m3 m4 m5 m6 th n bg tn sl ht sn o nx kp ow)) (mW cI cZ m0 m1 m2 m3 m4 m5 m6 0 n bg tn sl ht sn o nx kp ow) := hD
  refine lv_aload_n hx hb dX2_openWaysWith_5 rfl (lv_at hl 0 rfl) ?_
  refine lv_iload_n hx hb dX2_openWaysWith_6 rfl (lv_at hl 1 rfl) ?_
  refine call_Vp (As := [.int (nI j)]) (rest := []) S (m_X2_isPlayer_t m0 m1 m2 m3 m4 m5 m6 0 n bg tn sl ht sn o nx kp ow j hn (by omega)) g_X2_X2_isPlayer hd_X2_isPlayer ⟨Nat.le_of_ble_eq_true rfl, Nat.le_of_ble_eq_true rfl⟩ ⟨Nat.zero_le _, Nat.zero_le _⟩ hP hD hK hS hZ [0, 1, 2, 3, 4, 5, 6] rfl (by decide) 0 rfl rfl hl.1 rfl (Nat.le_of_ble_eq_true rfl) dX2_openWaysWith_7 (fun r H locs hq hP hS => ?_)
  obtain rfl := hq
  refine ifB_eq (tgt := 29) hx hb dX2_openWaysWith_10 (by decide) (fun c_10 => absurd c_10 (by decide)) (fun c_10 => ?_)
  refine lv_iload_n hx hb dX2_openWaysWith_13 rfl (lv_at hl 2 rfl) ?_
  refine call_Sp (As := [.int a1]) (rest := []) S (m_X2_isColour_f a1 ha1) g_X2_X2_isColour hd_X2_isColour ⟨Nat.le_of_ble_eq_true rfl, Nat.le_of_ble_eq_true rfl⟩ ⟨Nat.zero_le _, Nat.zero_le _⟩ hP hD hK hS hZ [] rfl (by decide) hl.1 rfl (Nat.le_of_ble_eq_true rfl) dX2_openWaysWith_14 (fun r H locs hq hP hS => ?_)
  obtain rfl := hq
  refine ifB_eq (tgt := 29) hx hb dX2_openWaysWith_17 (by decide) (fun c_17 => ?_) (fun c_17 => absurd c_17 (by decide))
  refine lv_aload_n hx hb dX2_openWaysWith_29 rfl (lv_at hl 0 rfl) ?_
  refine lv_iconst (v := nI 1) hx hb dX2_openWaysWith_30 (by decide) ?_
  refine call_Vi (As := [.int (nI 1)]) (wr := []) (rest := []) S (m_X2_fail m0 m1 m2 m3 m4 m5 m6 0 n bg tn sl ht sn o nx kp ow 1 ) g_X2_X2_fail hd_X2_fail ⟨Nat.le_of_ble_eq_true rfl, Nat.le_of_ble_eq_true rfl⟩ ⟨Nat.zero_le _, Nat.zero_le _⟩ hP hD hK hS hZ [0, 1, 2, 3, 4, 5, 6] [] rfl rfl (by decide) 0 rfl rfl hl.1 rfl (Nat.le_of_ble_eq_true rfl) dX2_openWaysWith_31 (fun r u H locs hq hP hD hS => ?_)
  obtain ⟨rfl, rfl⟩ := hq
  have hP : va_P (dC, dI) vwCl (mW cI cZ m0 m1 m2 m3 m4 m5 m6 1 n bg tn sl ht sn o nx kp ow) H := hP
  have hD : va_D (wIn (mW cI cZ m0 m1 m2 m3 m4 m5 m6 th n bg tn sl ht sn o nx kp ow)) (mW cI cZ m0 m1 m2 m3 m4 m5 m6 1 n bg tn sl ht sn o nx kp ow) := hD
  exact ret _ (mW cI cZ m0 m1 m2 m3 m4 m5 m6 1 n bg tn sl ht sn o nx kp ow) _ _ _ _ dX2_openWaysWith_34 rfl rfl (List.Perm.refl _) hP hS

set_option maxHeartbeats 4000000 in
set_option maxRecDepth 100000 in
theorem m_X2_isKnownToAll (m0 m1 m2 m3 m4 m5 m6 th n : Nat) (bg : Bool) (tn sl : Nat) (ht sn : Nat → Nat) (o nx kp : Nat → Bool) (ow : Nat → Nat) (j : Nat) (hn : n ≤ 5) (hht : ∀ p, p < 5 → ht p < 3) (hj : j < n) : Mi l yX2_isKnownToAll ws_X2_isKnownToAll 3 66 (dC, dI) (tyL cI cZ cJ) [.ref m0, .int (nI j)] (mW cI cZ m0 m1 m2 m3 m4 m5 m6 th n bg tn sl ht sn o nx kp ow) (fun r u => r = bI (allM ht o n j) ∧ u = mW cI cZ m0 m1 m2 m3 m4 m5 m6 0 n bg tn sl ht sn o nx kp ow) := by
  refine Mi_of (by decide +kernel) (Nat.le_of_ble_eq_true rfl) ?_
  intro pr ev sx mi ag bl me cd Q ls S hP hK hD hZ hl ret
  obtain ⟨hx, hb, hml, hown, hts⟩ := id S
  have hown : sx.vm.findClass RX2 = some mi.cls := hown
  have hS : va_S (wIn (mW cI cZ m0 m1 m2 m3 m4 m5 m6 th n bg tn sl ht sn o nx kp ow)) sx.heap sx.heap [] := va_S.rf
  have hl : lv_has ls 2 [(0, .ref m0), (1, .int (nI j))] := hl
  refine lv_aload_n hx hb dX2_isKnownToAll_0 rfl (lv_at hl 0 rfl) ?_
  refine lv_aload_n hx hb dX2_isKnownToAll_1 rfl (lv_at hl 0 rfl) ?_
  refine lv_iload_n hx hb dX2_isKnownToAll_2 rfl (lv_at hl 1 rfl) ?_
  refine call_Vp (As := [.int (nI j)]) (rest := [.ref m0]) S (m_X2_isPlayer_t m0 m1 m2 m3 m4 m5 m6 th n bg tn sl ht sn o nx kp ow j hn (by omega)) g_X2_X2_isPlayer hd_X2_isPlayer ⟨Nat.le_of_ble_eq_true rfl, Nat.le_of_ble_eq_true rfl⟩ ⟨Nat.zero_le _, Nat.zero_le _⟩ hP hD hK hS hZ [0, 1, 2, 3, 4, 5, 6] rfl (by decide) 0 rfl rfl hl.1 rfl (Nat.le_of_ble_eq_true rfl) dX2_isKnownToAll_3 (fun r H locs hq hP hS => ?_)
  obtain rfl := hq
  refine ifB_eq (tgt := 13) hx hb dX2_isKnownToAll_6 (by decide) (fun c_6 => absurd c_6 (by decide)) (fun c_6 => ?_)
  refine lv_iconst (v := nI 0) hx hb dX2_isKnownToAll_9 (by decide) ?_
  refine lv_goto (tgt := 14) hx hb dX2_isKnownToAll_10 (by decide) ?_
  refine va_put (D := (dC, dI)) (ci := 2) (v := .int (nI 0)) (ty := .int) (C := RX2) (T := TX2) (N := 11) hx hb hts inX2 tyX2 tyX2_ok nmX2 hown hK hP hD hS 0 rfl rfl 0 (by decide) (hts _ q_fl_X2_29) (fun _ h9 => h9) rfl (by decide +kernel) rfl rfl (Nat.le_of_ble_eq_true rfl) dX2_isKnownToAll_14 (fun H locs hP hD hS => ?_)
  have hP : va_P (dC, dI) vwCl (mW cI cZ m0 m1 m2 m3 m4 m5 m6 0 n bg tn sl ht sn o nx kp ow) H := hP
  have hD : va_D (wIn (mW cI cZ m0 m1 m2 m3 m4 m5 m6 th n bg tn sl ht sn o nx kp ow)) (mW cI cZ m0 m1 m2 m3 m4 m5 m6 0 n bg tn sl ht sn o nx kp ow) := hD
  refine lv_aload_n hx hb dX2_isKnownToAll_17 rfl (lv_at hl 0 rfl) ?_
  refine va_get (D := (dC, dI)) (ci := 2) (v := .int (nI 0)) (C := RX2) (T := TX2) (N := 11) hx hb hts inX2 hown hK hP 0 rfl rfl 0 (by decide) (hts _ q_fl_X2_29) (fun _ h9 => h9) rfl dX2_isKnownToAll_18 ?_
  refine ifN_ne (tgt := 36) hx hb dX2_isKnownToAll_21 (by decide) (by omega) (fun c_21 => absurd c_21 (by decide)) (fun c_21 => ?_)
  refine lv_aload_n hx hb dX2_isKnownToAll_24 rfl (lv_at hl 0 rfl) ?_
  refine lv_iload_n hx hb dX2_isKnownToAll_25 rfl (lv_at hl 1 rfl) ?_
  refine call_Vp (As := [.int (nI j)]) (rest := []) S (m_X2_known m0 m1 m2 m3 m4 m5 m6 0 n bg tn sl ht sn o nx kp ow j hn hht (by omega)) g_X2_X2_known hd_X2_known ⟨Nat.le_of_ble_eq_true rfl, Nat.le_of_ble_eq_true rfl⟩ ⟨Nat.zero_le _, Nat.zero_le _⟩ hP hD hK hS hZ [0, 1, 2, 3, 4, 5, 6] rfl (by decide) 0 rfl rfl hl.1 rfl (Nat.le_of_ble_eq_true rfl) dX2_isKnownToAll_26 (fun r H locs hq hP hS => ?_)
  obtain rfl := hq
  refine ifB_eq (tgt := 36) hx hb dX2_isKnownToAll_29 (by decide) (fun c_29 => ?_) (fun c_29 => ?_)
  · refine lv_iconst (v := nI 0) hx hb dX2_isKnownToAll_36 (by decide) ?_
    exact ret _ (mW cI cZ m0 m1 m2 m3 m4 m5 m6 0 n bg tn sl ht sn o nx kp ow) _ _ _ _ dX2_isKnownToAll_37 rfl ⟨bI_f c_29, rfl⟩ (List.Perm.refl _) hP hS
  · refine lv_iconst (v := nI 1) hx hb dX2_isKnownToAll_32 (by decide) ?_
    refine lv_goto (tgt := 37) hx hb dX2_isKnownToAll_33 (by decide) ?_
    exact ret _ (mW cI cZ m0 m1 m2 m3 m4 m5 m6 0 n bg tn sl ht sn o nx kp ow) _ _ _ _ dX2_isKnownToAll_37 rfl ⟨bI_t c_29, rfl⟩ (List.Perm.refl _) hP hS

set_option maxHeartbeats 4000000 in
set_option maxRecDepth 100000 in
theorem mf_X2_isKnownToAll_a (m0 m1 m2 m3 m4 m5 m6 th n : Nat) (bg : Bool) (tn sl : Nat) (ht sn : Nat → Nat) (o nx kp : Nat → Bool) (ow : Nat → Nat) (a0 : Int32) (hn : n ≤ 5) (ha0 : ∀ j, j < n → a0 ≠ nI j) : Mi l yX2_isKnownToAll ws_X2_isKnownToAll 2 43 (dC, dI) (tyL cI cZ cJ) [.ref m0, .int a0] (mW cI cZ m0 m1 m2 m3 m4 m5 m6 th n bg tn sl ht sn o nx kp ow) (fun r u => u = mW cI cZ m0 m1 m2 m3 m4 m5 m6 1 n bg tn sl ht sn o nx kp ow) := by
  refine Mi_of (by decide +kernel) (Nat.le_of_ble_eq_true rfl) ?_
  intro pr ev sx mi ag bl me cd Q ls S hP hK hD hZ hl ret
  obtain ⟨hx, hb, hml, hown, hts⟩ := id S
  have hown : sx.vm.findClass RX2 = some mi.cls := hown
  have hS : va_S (wIn (mW cI cZ m0 m1 m2 m3 m4 m5 m6 th n bg tn sl ht sn o nx kp ow)) sx.heap sx.heap [] := va_S.rf
  have hl : lv_has ls 2 [(0, .ref m0), (1, .int a0)] := hl
  refine lv_aload_n hx hb dX2_isKnownToAll_0 rfl (lv_at hl 0 rfl) ?_
  refine lv_aload_n hx hb dX2_isKnownToAll_1 rfl (lv_at hl 0 rfl) ?_
  refine lv_iload_n hx hb dX2_isKnownToAll_2 rfl (lv_at hl 1 rfl) ?_
  refine call_Vp (As := [.int a0]) (rest := [.ref m0]) S (m_X2_isPlayer_f m0 m1 m2 m3 m4 m5 m6 th n bg tn sl ht sn o nx kp ow a0 hn ha0) g_X2_X2_isPlayer hd_X2_isPlayer ⟨Nat.le_of_ble_eq_true rfl, Nat.le_of_ble_eq_true rfl⟩ ⟨Nat.zero_le _, Nat.zero_le _⟩ hP hD hK hS hZ [0, 1, 2, 3, 4, 5, 6] rfl (by decide) 0 rfl rfl hl.1 rfl (Nat.le_of_ble_eq_true rfl) dX2_isKnownToAll_3 (fun r H locs hq hP hS => ?_)
  obtain rfl := hq
  refine ifB_eq (tgt := 13) hx hb dX2_isKnownToAll_6 (by decide) (fun c_6 => ?_) (fun c_6 => absurd c_6 (by decide))
  refine lv_iconst (v := nI 1) hx hb dX2_isKnownToAll_13 (by decide) ?_
  refine va_put (D := (dC, dI)) (ci := 2) (v := .int (nI 1)) (ty := .int) (C := RX2) (T := TX2) (N := 11) hx hb hts inX2 tyX2 tyX2_ok nmX2 hown hK hP hD hS 0 rfl rfl 0 (by decide) (hts _ q_fl_X2_29) (fun _ h9 => h9) rfl (by decide +kernel) rfl rfl (Nat.le_of_ble_eq_true rfl) dX2_isKnownToAll_14 (fun H locs hP hD hS => ?_)
  have hP : va_P (dC, dI) vwCl (mW cI cZ m0 m1 m2 m3 m4 m5 m6 1 n bg tn sl ht sn o nx kp ow) H := hP
  have hD : va_D (wIn (mW cI cZ m0 m1 m2 m3 m4 m5 m6 th n bg tn sl ht sn o nx kp ow)) (mW cI cZ m0 m1 m2 m3 m4 m5 m6 1 n bg tn sl ht sn o nx kp ow) := hD
  refine lv_aload_n hx hb dX2_isKnownToAll_17 rfl (lv_at hl 0 rfl) ?_
  refine va_get (D := (dC, dI)) (ci := 2) (v := .int (nI 1)) (C := RX2) (T := TX2) (N := 11) hx hb hts inX2 hown hK hP 0 rfl rfl 0 (by decide) (hts _ q_fl_X2_29) (fun _ h9 => h9) rfl dX2_isKnownToAll_18 ?_
  refine ifN_ne (tgt := 36) hx hb dX2_isKnownToAll_21 (by decide) (by omega) (fun c_21 => ?_) (fun c_21 => absurd c_21 (by decide))
  refine lv_iconst (v := nI 0) hx hb dX2_isKnownToAll_36 (by decide) ?_
  exact ret _ (mW cI cZ m0 m1 m2 m3 m4 m5 m6 1 n bg tn sl ht sn o nx kp ow) _ _ _ _ dX2_isKnownToAll_37 rfl rfl (List.Perm.refl _) hP hS

set_option maxHeartbeats 4000000 in
set_option maxRecDepth 100000 in
theorem m_X2_possibleWays (m0 m1 m2 m3 m4 m5 m6 th n : Nat) (bg : Bool) (tn sl : Nat) (ht sn : Nat → Nat) (o nx kp : Nat → Bool) (ow : Nat → Nat) (j : Nat) (hn : n ≤ 5) (hsn : ∀ p, p < 5 → sn p < 32) (hht : ∀ p, p < 5 → ht p < 3) (hj : j < n) : Mi l yX2_possibleWays ws_X2_possibleWays 3 71 (dC, dI) (tyL cI cZ cJ) [.ref m0, .int (nI j)] (mW cI cZ m0 m1 m2 m3 m4 m5 m6 th n bg tn sl ht sn o nx kp ow) (fun r u => r = nI (possM sn ht o n j) ∧ u = mW cI cZ m0 m1 m2 m3 m4 m5 m6 0 n bg tn sl ht sn o nx kp ow) := by
  refine Mi_of (by decide +kernel) (Nat.le_of_ble_eq_true rfl) ?_
  intro pr ev sx mi ag bl me cd Q ls S hP hK hD hZ hl ret
  obtain ⟨hx, hb, hml, hown, hts⟩ := id S
  have hown : sx.vm.findClass RX2 = some mi.cls := hown
  have hS : va_S (wIn (mW cI cZ m0 m1 m2 m3 m4 m5 m6 th n bg tn sl ht sn o nx kp ow)) sx.heap sx.heap [] := va_S.rf
  have hl : lv_has ls 2 [(0, .ref m0), (1, .int (nI j))] := hl
  refine lv_aload_n hx hb dX2_possibleWays_0 rfl (lv_at hl 0 rfl) ?_
  refine lv_iconst (v := nI 0) hx hb dX2_possibleWays_1 (by decide) ?_
  refine va_put (D := (dC, dI)) (ci := 2) (v := .int (nI 0)) (ty := .int) (C := RX2) (T := TX2) (N := 11) hx hb hts inX2 tyX2 tyX2_ok nmX2 hown hK hP hD hS 0 rfl rfl 0 (by decide) (hts _ q_fl_X2_29) (fun _ h9 => h9) rfl (by decide +kernel) rfl rfl (Nat.le_of_ble_eq_true rfl) dX2_possibleWays_2 (fun H locs hP hD hS => ?_)
  have hP : va_P (dC, dI) vwCl (mW cI cZ m0 m1 m2 m3 m4 m5 m6 0 n bg tn sl ht sn o nx kp ow) H := hP
  have hD : va_D (wIn (mW cI cZ m0 m1 m2 m3 m4 m5 m6 th n bg tn sl ht sn o nx kp ow)) (mW cI cZ m0 m1 m2 m3 m4 m5 m6 0 n bg tn sl ht sn o nx kp ow) := hD
  refine lv_aload_n hx hb dX2_possibleWays_5 rfl (lv_at hl 0 rfl) ?_
  refine lv_iload_n hx hb dX2_possibleWays_6 rfl (lv_at hl 1 rfl) ?_
  refine call_Vp (As := [.int (nI j)]) (rest := []) S (m_X2_isPlayer_t m0 m1 m2 m3 m4 m5 m6 0 n bg tn sl ht sn o nx kp ow j hn (by omega)) g_X2_X2_isPlayer hd_X2_isPlayer ⟨Nat.le_of_ble_eq_true rfl, Nat.le_of_ble_eq_true rfl⟩ ⟨Nat.zero_le _, Nat.zero_le _⟩ hP hD hK hS hZ [0, 1, 2, 3, 4, 5, 6] rfl (by decide) 0 rfl rfl hl.1 rfl (Nat.le_of_ble_eq_true rfl) dX2_possibleWays_7 (fun r H locs hq hP hS => ?_)
  obtain rfl := hq
  refine ifB_eq (tgt := 21) hx hb dX2_possibleWays_10 (by decide) (fun c_10 => absurd c_10 (by decide)) (fun c_10 => ?_)
  refine lv_aload_n hx hb dX2_possibleWays_13 rfl (lv_at hl 0 rfl) ?_
  refine lv_iload_n hx hb dX2_possibleWays_14 rfl (lv_at hl 1 rfl) ?_
  refine call_Vp (As := [.int (nI j)]) (rest := []) S (m_X2_possible m0 m1 m2 m3 m4 m5 m6 0 n bg tn sl ht sn o nx kp ow j hn hsn hht (by omega)) g_X2_X2_possible hd_X2_possible ⟨Nat.le_of_ble_eq_true rfl, Nat.le_of_ble_eq_true rfl⟩ ⟨Nat.zero_le _, Nat.zero_le _⟩ hP hD hK hS hZ [0, 1, 2, 3, 4, 5, 6] rfl (by decide) 0 rfl rfl hl.1 rfl (Nat.le_of_ble_eq_true rfl) dX2_possibleWays_15 (fun r H locs hq hP hS => ?_)
  obtain rfl := hq
  refine lv_goto (tgt := 26) hx hb dX2_possibleWays_18 (by decide) ?_
  exact ret _ (mW cI cZ m0 m1 m2 m3 m4 m5 m6 0 n bg tn sl ht sn o nx kp ow) _ _ _ _ dX2_possibleWays_26 rfl ⟨rfl, rfl⟩ (List.Perm.refl _) hP hS

set_option maxHeartbeats 4000000 in
set_option maxRecDepth 100000 in
theorem mf_X2_possibleWays_a (m0 m1 m2 m3 m4 m5 m6 th n : Nat) (bg : Bool) (tn sl : Nat) (ht sn : Nat → Nat) (o nx kp : Nat → Bool) (ow : Nat → Nat) (a0 : Int32) (hn : n ≤ 5) (ha0 : ∀ j, j < n → a0 ≠ nI j) : Mi l yX2_possibleWays ws_X2_possibleWays 2 43 (dC, dI) (tyL cI cZ cJ) [.ref m0, .int a0] (mW cI cZ m0 m1 m2 m3 m4 m5 m6 th n bg tn sl ht sn o nx kp ow) (fun r u => u = mW cI cZ m0 m1 m2 m3 m4 m5 m6 1 n bg tn sl ht sn o nx kp ow) := by
  refine Mi_of (by decide +kernel) (Nat.le_of_ble_eq_true rfl) ?_
  intro pr ev sx mi ag bl me cd Q ls S hP hK hD hZ hl ret
  obtain ⟨hx, hb, hml, hown, hts⟩ := id S
  have hown : sx.vm.findClass RX2 = some mi.cls := hown
  have hS : va_S (wIn (mW cI cZ m0 m1 m2 m3 m4 m5 m6 th n bg tn sl ht sn o nx kp ow)) sx.heap sx.heap [] := va_S.rf
  have hl : lv_has ls 2 [(0, .ref m0), (1, .int a0)] := hl
  refine lv_aload_n hx hb dX2_possibleWays_0 rfl (lv_at hl 0 rfl) ?_
  refine lv_iconst (v := nI 0) hx hb dX2_possibleWays_1 (by decide) ?_
  refine va_put (D := (dC, dI)) (ci := 2) (v := .int (nI 0)) (ty := .int) (C := RX2) (T := TX2) (N := 11) hx hb hts inX2 tyX2 tyX2_ok nmX2 hown hK hP hD hS 0 rfl rfl 0 (by decide) (hts _ q_fl_X2_29) (fun _ h9 => h9) rfl (by decide +kernel) rfl rfl (Nat.le_of_ble_eq_true rfl) dX2_possibleWays_2 (fun H locs hP hD hS => ?_)
  have hP : va_P (dC, dI) vwCl (mW cI cZ m0 m1 m2 m3 m4 m5 m6 0 n bg tn sl ht sn o nx kp ow) H := hP
  have hD : va_D (wIn (mW cI cZ m0 m1 m2 m3 m4 m5 m6 th n bg tn sl ht sn o nx kp ow)) (mW cI cZ m0 m1 m2 m3 m4 m5 m6 0 n bg tn sl ht sn o nx kp ow) := hD
  refine lv_aload_n hx hb dX2_possibleWays_5 rfl (lv_at hl 0 rfl) ?_
  refine lv_iload_n hx hb dX2_possibleWays_6 rfl (lv_at hl 1 rfl) ?_
  refine call_Vp (As := [.int a0]) (rest := []) S (m_X2_isPlayer_f m0 m1 m2 m3 m4 m5 m6 0 n bg tn sl ht sn o nx kp ow a0 hn ha0) g_X2_X2_isPlayer hd_X2_isPlayer ⟨Nat.le_of_ble_eq_true rfl, Nat.le_of_ble_eq_true rfl⟩ ⟨Nat.zero_le _, Nat.zero_le _⟩ hP hD hK hS hZ [0, 1, 2, 3, 4, 5, 6] rfl (by decide) 0 rfl rfl hl.1 rfl (Nat.le_of_ble_eq_true rfl) dX2_possibleWays_7 (fun r H locs hq hP hS => ?_)
  obtain rfl := hq
  refine ifB_eq (tgt := 21) hx hb dX2_possibleWays_10 (by decide) (fun c_10 => ?_) (fun c_10 => absurd c_10 (by decide))
  refine lv_aload_n hx hb dX2_possibleWays_21 rfl (lv_at hl 0 rfl) ?_
  refine lv_iconst (v := nI 1) hx hb dX2_possibleWays_22 (by decide) ?_
  refine call_Vi (As := [.int (nI 1)]) (wr := []) (rest := []) S (m_X2_fail m0 m1 m2 m3 m4 m5 m6 0 n bg tn sl ht sn o nx kp ow 1 ) g_X2_X2_fail hd_X2_fail ⟨Nat.le_of_ble_eq_true rfl, Nat.le_of_ble_eq_true rfl⟩ ⟨Nat.zero_le _, Nat.zero_le _⟩ hP hD hK hS hZ [0, 1, 2, 3, 4, 5, 6] [] rfl rfl (by decide) 0 rfl rfl hl.1 rfl (Nat.le_of_ble_eq_true rfl) dX2_possibleWays_23 (fun r u H locs hq hP hD hS => ?_)
  obtain ⟨rfl, rfl⟩ := hq
  have hP : va_P (dC, dI) vwCl (mW cI cZ m0 m1 m2 m3 m4 m5 m6 1 n bg tn sl ht sn o nx kp ow) H := hP
  have hD : va_D (wIn (mW cI cZ m0 m1 m2 m3 m4 m5 m6 th n bg tn sl ht sn o nx kp ow)) (mW cI cZ m0 m1 m2 m3 m4 m5 m6 1 n bg tn sl ht sn o nx kp ow) := hD
  exact ret _ (mW cI cZ m0 m1 m2 m3 m4 m5 m6 1 n bg tn sl ht sn o nx kp ow) _ _ _ _ dX2_possibleWays_26 rfl rfl (List.Perm.refl _) hP hS

set_option maxHeartbeats 4000000 in
set_option maxRecDepth 100000 in
theorem m_X2_holdsPossible (m0 m1 m2 m3 m4 m5 m6 th n : Nat) (bg : Bool) (tn sl : Nat) (ht sn : Nat → Nat) (o nx kp : Nat → Bool) (ow : Nat → Nat) (j k co : Nat) (hn : n ≤ 5) (hsn : ∀ p, p < 5 → sn p < 32) (hht : ∀ p, p < 5 → ht p < 3) (hj : j < n) (hk : k < n) (hco : co < 3) : Mi l yX2_holdsPossible ws_X2_holdsPossible 3 73 (dC, dI) (tyL cI cZ cJ) [.ref m0, .int (nI j), .int (nI k), .int (nI co)] (mW cI cZ m0 m1 m2 m3 m4 m5 m6 th n bg tn sl ht sn o nx kp ow) (fun r u => r = bI (((colG sn j k o n (viewN sn j (realN ht n) n) (3 ^ n)) / 2 ^ co &&& 1) == 1) ∧ u = mW cI cZ m0 m1 m2 m3 m4 m5 m6 0 n bg tn sl ht sn o nx kp ow) := by
  refine Mi_of (by decide +kernel) (Nat.le_of_ble_eq_true rfl) ?_
  intro pr ev sx mi ag bl me cd Q ls S hP hK hD hZ hl ret
  obtain ⟨hx, hb, hml, hown, hts⟩ := id S
  have hown : sx.vm.findClass RX2 = some mi.cls := hown
  have hS : va_S (wIn (mW cI cZ m0 m1 m2 m3 m4 m5 m6 th n bg tn sl ht sn o nx kp ow)) sx.heap sx.heap [] := va_S.rf
  have hl : lv_has ls 4 [(0, .ref m0), (1, .int (nI j)), (2, .int (nI k)), (3, .int (nI co))] := hl
  have h3 := p3_243 n hn; have h30 := p3_0 n
  have hre : realN ht n < 3 ^ n := realN_lt n (fun p hp => hht p (by omega))
  refine lv_aload_n hx hb dX2_holdsPossible_0 rfl (lv_at hl 0 rfl) ?_
  refine lv_aload_n hx hb dX2_holdsPossible_1 rfl (lv_at hl 0 rfl) ?_
  refine lv_iload_n hx hb dX2_holdsPossible_2 rfl (lv_at hl 1 rfl) ?_
  refine call_Vp (As := [.int (nI j)]) (rest := [.ref m0]) S (m_X2_isPlayer_t m0 m1 m2 m3 m4 m5 m6 th n bg tn sl ht sn o nx kp ow j hn (by omega)) g_X2_X2_isPlayer hd_X2_isPlayer ⟨Nat.le_of_ble_eq_true rfl, Nat.le_of_ble_eq_true rfl⟩ ⟨Nat.zero_le _, Nat.zero_le _⟩ hP hD hK hS hZ [0, 1, 2, 3, 4, 5, 6] rfl (by decide) 0 rfl rfl hl.1 rfl (Nat.le_of_ble_eq_true rfl) dX2_holdsPossible_3 (fun r H locs hq hP hS => ?_)
  obtain rfl := hq
  refine ifB_eq (tgt := 28) hx hb dX2_holdsPossible_6 (by decide) (fun c_6 => absurd c_6 (by decide)) (fun c_6 => ?_)
  refine lv_aload_n hx hb dX2_holdsPossible_9 rfl (lv_at hl 0 rfl) ?_
  refine lv_iload_n hx hb dX2_holdsPossible_10 rfl (lv_at hl 2 rfl) ?_
  refine call_Vp (As := [.int (nI k)]) (rest := [.ref m0]) S (m_X2_isPlayer_t m0 m1 m2 m3 m4 m5 m6 th n bg tn sl ht sn o nx kp ow k hn (by omega)) g_X2_X2_isPlayer hd_X2_isPlayer ⟨Nat.le_of_ble_eq_true rfl, Nat.le_of_ble_eq_true rfl⟩ ⟨Nat.zero_le _, Nat.zero_le _⟩ hP hD hK hS hZ [0, 1, 2, 3, 4, 5, 6] rfl (by decide) 0 rfl rfl hl.1 rfl (Nat.le_of_ble_eq_true rfl) dX2_holdsPossible_11 (fun r H locs hq hP hS => ?_)
  obtain rfl := hq
  refine ifB_eq (tgt := 28) hx hb dX2_holdsPossible_14 (by decide) (fun c_14 => absurd c_14 (by decide)) (fun c_14 => ?_)
  refine lv_iload_n hx hb dX2_holdsPossible_17 rfl (lv_at hl 3 rfl) ?_
  refine call_Sp (As := [.int (nI co)]) (rest := [.ref m0]) S (m_X2_isColour_t co (by omega)) g_X2_X2_isColour hd_X2_isColour ⟨Nat.le_of_ble_eq_true rfl, Nat.le_of_ble_eq_true rfl⟩ ⟨Nat.zero_le _, Nat.zero_le _⟩ hP hD hK hS hZ [] rfl (by decide) hl.1 rfl (Nat.le_of_ble_eq_true rfl) dX2_holdsPossible_18 (fun r H locs hq hP hS => ?_)
  obtain rfl := hq
  refine ifB_eq (tgt := 28) hx hb dX2_holdsPossible_21 (by decide) (fun c_21 => absurd c_21 (by decide)) (fun c_21 => ?_)
  refine lv_iconst (v := nI 0) hx hb dX2_holdsPossible_24 (by decide) ?_
  refine lv_goto (tgt := 29) hx hb dX2_holdsPossible_25 (by decide) ?_
  refine va_put (D := (dC, dI)) (ci := 2) (v := .int (nI 0)) (ty := .int) (C := RX2) (T := TX2) (N := 11) hx hb hts inX2 tyX2 tyX2_ok nmX2 hown hK hP hD hS 0 rfl rfl 0 (by decide) (hts _ q_fl_X2_29) (fun _ h9 => h9) rfl (by decide +kernel) rfl rfl (Nat.le_of_ble_eq_true rfl) dX2_holdsPossible_29 (fun H locs hP hD hS => ?_)
  have hP : va_P (dC, dI) vwCl (mW cI cZ m0 m1 m2 m3 m4 m5 m6 0 n bg tn sl ht sn o nx kp ow) H := hP
  have hD : va_D (wIn (mW cI cZ m0 m1 m2 m3 m4 m5 m6 th n bg tn sl ht sn o nx kp ow)) (mW cI cZ m0 m1 m2 m3 m4 m5 m6 0 n bg tn sl ht sn o nx kp ow) := hD
  refine lv_aload_n hx hb dX2_holdsPossible_32 rfl (lv_at hl 0 rfl) ?_
  refine va_get (D := (dC, dI)) (ci := 2) (v := .int (nI 0)) (C := RX2) (T := TX2) (N := 11) hx hb hts inX2 hown hK hP 0 rfl rfl 0 (by decide) (hts _ q_fl_X2_29) (fun _ h9 => h9) rfl dX2_holdsPossible_33 ?_
  refine ifN_ne (tgt := 61) hx hb dX2_holdsPossible_36 (by decide) (by omega) (fun c_36 => absurd c_36 (by decide)) (fun c_36 => ?_)
  refine lv_aload_n hx hb dX2_holdsPossible_39 rfl (lv_at hl 0 rfl) ?_
  refine lv_iload_n hx hb dX2_holdsPossible_40 rfl (lv_at hl 1 rfl) ?_
  refine lv_iload_n hx hb dX2_holdsPossible_41 rfl (lv_at hl 2 rfl) ?_
  refine lv_aload_n hx hb dX2_holdsPossible_42 rfl (lv_at hl 0 rfl) ?_
  refine call_Vp (As := []) (rest := [.int (nI k), .int (nI j), .ref m0]) S (m_X2_real m0 m1 m2 m3 m4 m5 m6 0 n bg tn sl ht sn o nx kp ow  hn) g_X2_X2_real hd_X2_real ⟨Nat.le_of_ble_eq_true rfl, Nat.le_of_ble_eq_true rfl⟩ ⟨Nat.zero_le _, Nat.zero_le _⟩ hP hD hK hS hZ [0, 1, 2, 3, 4, 5, 6] rfl (by decide) 0 rfl rfl hl.1 rfl (Nat.le_of_ble_eq_true rfl) dX2_holdsPossible_43 (fun r H locs hq hP hS => ?_)
  obtain rfl := hq
  refine call_Vp (As := [.int (nI j), .int (nI k), .int (nI (realN ht n))]) (rest := []) S (m_X2_colours m0 m1 m2 m3 m4 m5 m6 0 n bg tn sl ht sn o nx kp ow j k (realN ht n) hn hsn (by omega) (by omega) (by omega)) g_X2_X2_colours hd_X2_colours ⟨Nat.le_of_ble_eq_true rfl, Nat.le_of_ble_eq_true rfl⟩ ⟨Nat.zero_le _, Nat.zero_le _⟩ hP hD hK hS hZ [0, 1, 2, 3, 4, 5, 6] rfl (by decide) 0 rfl rfl hl.1 rfl (Nat.le_of_ble_eq_true rfl) dX2_holdsPossible_46 (fun r H locs hq hP hS => ?_)
  obtain rfl := hq
  refine lv_iload_n hx hb dX2_holdsPossible_49 rfl (lv_at hl 3 rfl) ?_
  refine lv_ishr hx hb dX2_holdsPossible_50 ?_
  refine W_i (y := nI ((colG sn j k o n (viewN sn j (realN ht n) n) (3 ^ n)) / 2 ^ co)) (nI_shr (by have := colG_lt sn j k o n (viewN sn j (realN ht n) n) (3 ^ n); omega) (by omega)) ?_
  refine lv_iconst (v := nI 1) hx hb dX2_holdsPossible_51 (by decide) ?_
  refine lv_iand hx hb dX2_holdsPossible_52 ?_
  refine W_i (y := nI (((colG sn j k o n (viewN sn j (realN ht n) n) (3 ^ n)) / 2 ^ co) &&& 1)) (nI_and _ _) ?_
  refine lv_iconst (v := nI 1) hx hb dX2_holdsPossible_53 (by decide) ?_
  refine icN_ne (tgt := 61) hx hb dX2_holdsPossible_54 (by decide) (by have := @Nat.and_le_right ((colG sn j k o n (viewN sn j (realN ht n) n) (3 ^ n)) / 2 ^ co) 1; omega) (by omega) (fun c_54 => ?_) (fun c_54 => ?_)
  · refine lv_iconst (v := nI 0) hx hb dX2_holdsPossible_61 (by decide) ?_
    exact ret _ (mW cI cZ m0 m1 m2 m3 m4 m5 m6 0 n bg tn sl ht sn o nx kp ow) _ _ _ _ dX2_holdsPossible_62 rfl ⟨bI_f (beq_eq_false_iff_ne.mpr c_54), rfl⟩ (List.Perm.refl _) hP hS
  · refine lv_iconst (v := nI 1) hx hb dX2_holdsPossible_57 (by decide) ?_
    refine lv_goto (tgt := 62) hx hb dX2_holdsPossible_58 (by decide) ?_
    exact ret _ (mW cI cZ m0 m1 m2 m3 m4 m5 m6 0 n bg tn sl ht sn o nx kp ow) _ _ _ _ dX2_holdsPossible_62 rfl ⟨bI_t (beq_iff_eq.mpr c_54), rfl⟩ (List.Perm.refl _) hP hS

set_option maxHeartbeats 4000000 in
set_option maxRecDepth 100000 in
theorem mf_X2_holdsPossible_a (m0 m1 m2 m3 m4 m5 m6 th n : Nat) (bg : Bool) (tn sl : Nat) (ht sn : Nat → Nat) (o nx kp : Nat → Bool) (ow : Nat → Nat) (a0 a1 a2 : Int32) (ha0 : ∀ j, j < n → a0 ≠ nI j) (hn : n ≤ 5) : Mi l yX2_holdsPossible ws_X2_holdsPossible 2 43 (dC, dI) (tyL cI cZ cJ) [.ref m0, .int a0, .int a1, .int a2] (mW cI cZ m0 m1 m2 m3 m4 m5 m6 th n bg tn sl ht sn o nx kp ow) (fun r u => u = mW cI cZ m0 m1 m2 m3 m4 m5 m6 1 n bg tn sl ht sn o nx kp ow) := by
  refine Mi_of (by decide +kernel) (Nat.le_of_ble_eq_true rfl) ?_
  intro pr ev sx mi ag bl me cd Q ls S hP hK hD hZ hl ret
  obtain ⟨hx, hb, hml, hown, hts⟩ := id S
  have hown : sx.vm.findClass RX2 = some mi.cls := hown
  have hS : va_S (wIn (mW cI cZ m0 m1 m2 m3 m4 m5 m6 th n bg tn sl ht sn o nx kp ow)) sx.heap sx.heap [] := va_S.rf
  have hl : lv_has ls 4 [(0, .ref m0), (1, .int a0), (2, .int a1), (3, .int a2)] := hl
  refine lv_aload_n hx hb dX2_holdsPossible_0 rfl (lv_at hl 0 rfl) ?_
  refine lv_aload_n hx hb dX2_holdsPossible_1 rfl (lv_at hl 0 rfl) ?_
  refine lv_iload_n hx hb dX2_holdsPossible_2 rfl (lv_at hl 1 rfl) ?_
  refine call_Vp (As := [.int a0]) (rest := [.ref m0]) S (m_X2_isPlayer_f m0 m1 m2 m3 m4 m5 m6 th n bg tn sl ht sn o nx kp ow a0 hn ha0) g_X2_X2_isPlayer hd_X2_isPlayer ⟨Nat.le_of_ble_eq_true rfl, Nat.le_of_ble_eq_true rfl⟩ ⟨Nat.zero_le _, Nat.zero_le _⟩ hP hD hK hS hZ [0, 1, 2, 3, 4, 5, 6] rfl (by decide) 0 rfl rfl hl.1 rfl (Nat.le_of_ble_eq_true rfl) dX2_holdsPossible_3 (fun r H locs hq hP hS => ?_)
  obtain rfl := hq
  refine ifB_eq (tgt := 28) hx hb dX2_holdsPossible_6 (by decide) (fun c_6 => ?_) (fun c_6 => absurd c_6 (by decide))
  refine lv_iconst (v := nI 1) hx hb dX2_holdsPossible_28 (by decide) ?_
  refine va_put (D := (dC, dI)) (ci := 2) (v := .int (nI 1)) (ty := .int) (C := RX2) (T := TX2) (N := 11) hx hb hts inX2 tyX2 tyX2_ok nmX2 hown hK hP hD hS 0 rfl rfl 0 (by decide) (hts _ q_fl_X2_29) (fun _ h9 => h9) rfl (by decide +kernel) rfl rfl (Nat.le_of_ble_eq_true rfl) dX2_holdsPossible_29 (fun H locs hP hD hS => ?_)
  have hP : va_P (dC, dI) vwCl (mW cI cZ m0 m1 m2 m3 m4 m5 m6 1 n bg tn sl ht sn o nx kp ow) H := hP
  have hD : va_D (wIn (mW cI cZ m0 m1 m2 m3 m4 m5 m6 th n bg tn sl ht sn o nx kp ow)) (mW cI cZ m0 m1 m2 m3 m4 m5 m6 1 n bg tn sl ht sn o nx kp ow) := hD
  refine lv_aload_n hx hb dX2_holdsPossible_32 rfl (lv_at hl 0 rfl) ?_
  refine va_get (D := (dC, dI)) (ci := 2) (v := .int (nI 1)) (C := RX2) (T := TX2) (N := 11) hx hb hts inX2 hown hK hP 0 rfl rfl 0 (by decide) (hts _ q_fl_X2_29) (fun _ h9 => h9) rfl dX2_holdsPossible_33 ?_
  refine ifN_ne (tgt := 61) hx hb dX2_holdsPossible_36 (by decide) (by omega) (fun c_36 => ?_) (fun c_36 => absurd c_36 (by decide))
  refine lv_iconst (v := nI 0) hx hb dX2_holdsPossible_61 (by decide) ?_
  exact ret _ (mW cI cZ m0 m1 m2 m3 m4 m5 m6 1 n bg tn sl ht sn o nx kp ow) _ _ _ _ dX2_holdsPossible_62 rfl rfl (List.Perm.refl _) hP hS

set_option maxHeartbeats 4000000 in
set_option maxRecDepth 100000 in
theorem mf_X2_holdsPossible_b (m0 m1 m2 m3 m4 m5 m6 th n : Nat) (bg : Bool) (tn sl : Nat) (ht sn : Nat → Nat) (o nx kp : Nat → Bool) (ow : Nat → Nat) (j : Nat) (a1 a2 : Int32) (hj : j < n) (ha1 : ∀ j, j < n → a1 ≠ nI j) (hn : n ≤ 5) : Mi l yX2_holdsPossible ws_X2_holdsPossible 2 43 (dC, dI) (tyL cI cZ cJ) [.ref m0, .int (nI j), .int a1, .int a2] (mW cI cZ m0 m1 m2 m3 m4 m5 m6 th n bg tn sl ht sn o nx kp ow) (fun r u => u = mW cI cZ m0 m1 m2 m3 m4 m5 m6 1 n bg tn sl ht sn o nx kp ow) := by
  refine Mi_of (by decide +kernel) (Nat.le_of_ble_eq_true rfl) ?_
  intro pr ev sx mi ag bl me cd Q ls S hP hK hD hZ hl ret
  obtain ⟨hx, hb, hml, hown, hts⟩ := id S
  have hown : sx.vm.findClass RX2 = some mi.cls := hown
  have hS : va_S (wIn (mW cI cZ m0 m1 m2 m3 m4 m5 m6 th n bg tn sl ht sn o nx kp ow)) sx.heap sx.heap [] := va_S.rf
  have hl : lv_has ls 4 [(0, .ref m0), (1, .int (nI j)), (2, .int a1), (3, .int a2)] := hl
  refine lv_aload_n hx hb dX2_holdsPossible_0 rfl (lv_at hl 0 rfl) ?_
  refine lv_aload_n hx hb dX2_holdsPossible_1 rfl (lv_at hl 0 rfl) ?_
  refine lv_iload_n hx hb dX2_holdsPossible_2 rfl (lv_at hl 1 rfl) ?_
  refine call_Vp (As := [.int (nI j)]) (rest := [.ref m0]) S (m_X2_isPlayer_t m0 m1 m2 m3 m4 m5 m6 th n bg tn sl ht sn o nx kp ow j hn (by omega)) g_X2_X2_isPlayer hd_X2_isPlayer ⟨Nat.le_of_ble_eq_true rfl, Nat.le_of_ble_eq_true rfl⟩ ⟨Nat.zero_le _, Nat.zero_le _⟩ hP hD hK hS hZ [0, 1, 2, 3, 4, 5, 6] rfl (by decide) 0 rfl rfl hl.1 rfl (Nat.le_of_ble_eq_true rfl) dX2_holdsPossible_3 (fun r H locs hq hP hS => ?_)
  obtain rfl := hq
  refine ifB_eq (tgt := 28) hx hb dX2_holdsPossible_6 (by decide) (fun c_6 => absurd c_6 (by decide)) (fun c_6 => ?_)
  refine lv_aload_n hx hb dX2_holdsPossible_9 rfl (lv_at hl 0 rfl) ?_
  refine lv_iload_n hx hb dX2_holdsPossible_10 rfl (lv_at hl 2 rfl) ?_
  refine call_Vp (As := [.int a1]) (rest := [.ref m0]) S (m_X2_isPlayer_f m0 m1 m2 m3 m4 m5 m6 th n bg tn sl ht sn o nx kp ow a1 hn ha1) g_X2_X2_isPlayer hd_X2_isPlayer ⟨Nat.le_of_ble_eq_true rfl, Nat.le_of_ble_eq_true rfl⟩ ⟨Nat.zero_le _, Nat.zero_le _⟩ hP hD hK hS hZ [0, 1, 2, 3, 4, 5, 6] rfl (by decide) 0 rfl rfl hl.1 rfl (Nat.le_of_ble_eq_true rfl) dX2_holdsPossible_11 (fun r H locs hq hP hS => ?_)
  obtain rfl := hq
  refine ifB_eq (tgt := 28) hx hb dX2_holdsPossible_14 (by decide) (fun c_14 => ?_) (fun c_14 => absurd c_14 (by decide))
  refine lv_iconst (v := nI 1) hx hb dX2_holdsPossible_28 (by decide) ?_
  refine va_put (D := (dC, dI)) (ci := 2) (v := .int (nI 1)) (ty := .int) (C := RX2) (T := TX2) (N := 11) hx hb hts inX2 tyX2 tyX2_ok nmX2 hown hK hP hD hS 0 rfl rfl 0 (by decide) (hts _ q_fl_X2_29) (fun _ h9 => h9) rfl (by decide +kernel) rfl rfl (Nat.le_of_ble_eq_true rfl) dX2_holdsPossible_29 (fun H locs hP hD hS => ?_)
  have hP : va_P (dC, dI) vwCl (mW cI cZ m0 m1 m2 m3 m4 m5 m6 1 n bg tn sl ht sn o nx kp ow) H := hP
  have hD : va_D (wIn (mW cI cZ m0 m1 m2 m3 m4 m5 m6 th n bg tn sl ht sn o nx kp ow)) (mW cI cZ m0 m1 m2 m3 m4 m5 m6 1 n bg tn sl ht sn o nx kp ow) := hD
  refine lv_aload_n hx hb dX2_holdsPossible_32 rfl (lv_at hl 0 rfl) ?_
  refine va_get (D := (dC, dI)) (ci := 2) (v := .int (nI 1)) (C := RX2) (T := TX2) (N := 11) hx hb hts inX2 hown hK hP 0 rfl rfl 0 (by decide) (hts _ q_fl_X2_29) (fun _ h9 => h9) rfl dX2_holdsPossible_33 ?_
  refine ifN_ne (tgt := 61) hx hb dX2_holdsPossible_36 (by decide) (by omega) (fun c_36 => ?_) (fun c_36 => absurd c_36 (by decide))
  refine lv_iconst (v := nI 0) hx hb dX2_holdsPossible_61 (by decide) ?_
  exact ret _ (mW cI cZ m0 m1 m2 m3 m4 m5 m6 1 n bg tn sl ht sn o nx kp ow) _ _ _ _ dX2_holdsPossible_62 rfl rfl (List.Perm.refl _) hP hS

set_option maxHeartbeats 4000000 in
set_option maxRecDepth 100000 in
theorem mf_X2_holdsPossible_c (m0 m1 m2 m3 m4 m5 m6 th n : Nat) (bg : Bool) (tn sl : Nat) (ht sn : Nat → Nat) (o nx kp : Nat → Bool) (ow : Nat → Nat) (j k : Nat) (a2 : Int32) (hj : j < n) (hk : k < n) (ha2 : ∀ j, j < 3 → a2 ≠ nI j) (hn : n ≤ 5) : Mi l yX2_holdsPossible ws_X2_holdsPossible 2 43 (dC, dI) (tyL cI cZ cJ) [.ref m0, .int (nI j), .int (nI k), .int a2] (mW cI cZ m0 m1 m2 m3 m4 m5 m6 th n bg tn sl ht sn o nx kp ow) (fun r u => u = mW cI cZ m0 m1 m2 m3 m4 m5 m6 1 n bg tn sl ht sn o nx kp ow) := by
  refine Mi_of (by decide +kernel) (Nat.le_of_ble_eq_true rfl) ?_
  intro pr ev sx mi ag bl me cd Q ls S hP hK hD hZ hl ret
  obtain ⟨hx, hb, hml, hown, hts⟩ := id S
  have hown : sx.vm.findClass RX2 = some mi.cls := hown
  have hS : va_S (wIn (mW cI cZ m0 m1 m2 m3 m4 m5 m6 th n bg tn sl ht sn o nx kp ow)) sx.heap sx.heap [] := va_S.rf
  have hl : lv_has ls 4 [(0, .ref m0), (1, .int (nI j)), (2, .int (nI k)), (3, .int a2)] := hl
  refine lv_aload_n hx hb dX2_holdsPossible_0 rfl (lv_at hl 0 rfl) ?_
  refine lv_aload_n hx hb dX2_holdsPossible_1 rfl (lv_at hl 0 rfl) ?_
  refine lv_iload_n hx hb dX2_holdsPossible_2 rfl (lv_at hl 1 rfl) ?_
  refine call_Vp (As := [.int (nI j)]) (rest := [.ref m0]) S (m_X2_isPlayer_t m0 m1 m2 m3 m4 m5 m6 th n bg tn sl ht sn o nx kp ow j hn (by omega)) g_X2_X2_isPlayer hd_X2_isPlayer ⟨Nat.le_of_ble_eq_true rfl, Nat.le_of_ble_eq_true rfl⟩ ⟨Nat.zero_le _, Nat.zero_le _⟩ hP hD hK hS hZ [0, 1, 2, 3, 4, 5, 6] rfl (by decide) 0 rfl rfl hl.1 rfl (Nat.le_of_ble_eq_true rfl) dX2_holdsPossible_3 (fun r H locs hq hP hS => ?_)
  obtain rfl := hq
  refine ifB_eq (tgt := 28) hx hb dX2_holdsPossible_6 (by decide) (fun c_6 => absurd c_6 (by decide)) (fun c_6 => ?_)
  refine lv_aload_n hx hb dX2_holdsPossible_9 rfl (lv_at hl 0 rfl) ?_
  refine lv_iload_n hx hb dX2_holdsPossible_10 rfl (lv_at hl 2 rfl) ?_
  refine call_Vp (As := [.int (nI k)]) (rest := [.ref m0]) S (m_X2_isPlayer_t m0 m1 m2 m3 m4 m5 m6 th n bg tn sl ht sn o nx kp ow k hn (by omega)) g_X2_X2_isPlayer hd_X2_isPlayer ⟨Nat.le_of_ble_eq_true rfl, Nat.le_of_ble_eq_true rfl⟩ ⟨Nat.zero_le _, Nat.zero_le _⟩ hP hD hK hS hZ [0, 1, 2, 3, 4, 5, 6] rfl (by decide) 0 rfl rfl hl.1 rfl (Nat.le_of_ble_eq_true rfl) dX2_holdsPossible_11 (fun r H locs hq hP hS => ?_)
  obtain rfl := hq
  refine ifB_eq (tgt := 28) hx hb dX2_holdsPossible_14 (by decide) (fun c_14 => absurd c_14 (by decide)) (fun c_14 => ?_)
  refine lv_iload_n hx hb dX2_holdsPossible_17 rfl (lv_at hl 3 rfl) ?_
  refine call_Sp (As := [.int a2]) (rest := [.ref m0]) S (m_X2_isColour_f a2 ha2) g_X2_X2_isColour hd_X2_isColour ⟨Nat.le_of_ble_eq_true rfl, Nat.le_of_ble_eq_true rfl⟩ ⟨Nat.zero_le _, Nat.zero_le _⟩ hP hD hK hS hZ [] rfl (by decide) hl.1 rfl (Nat.le_of_ble_eq_true rfl) dX2_holdsPossible_18 (fun r H locs hq hP hS => ?_)
  obtain rfl := hq
  refine ifB_eq (tgt := 28) hx hb dX2_holdsPossible_21 (by decide) (fun c_21 => ?_) (fun c_21 => absurd c_21 (by decide))
  refine lv_iconst (v := nI 1) hx hb dX2_holdsPossible_28 (by decide) ?_
  refine va_put (D := (dC, dI)) (ci := 2) (v := .int (nI 1)) (ty := .int) (C := RX2) (T := TX2) (N := 11) hx hb hts inX2 tyX2 tyX2_ok nmX2 hown hK hP hD hS 0 rfl rfl 0 (by decide) (hts _ q_fl_X2_29) (fun _ h9 => h9) rfl (by decide +kernel) rfl rfl (Nat.le_of_ble_eq_true rfl) dX2_holdsPossible_29 (fun H locs hP hD hS => ?_)
  have hP : va_P (dC, dI) vwCl (mW cI cZ m0 m1 m2 m3 m4 m5 m6 1 n bg tn sl ht sn o nx kp ow) H := hP
  have hD : va_D (wIn (mW cI cZ m0 m1 m2 m3 m4 m5 m6 th n bg tn sl ht sn o nx kp ow)) (mW cI cZ m0 m1 m2 m3 m4 m5 m6 1 n bg tn sl ht sn o nx kp ow) := hD
  refine lv_aload_n hx hb dX2_holdsPossible_32 rfl (lv_at hl 0 rfl) ?_
  refine va_get (D := (dC, dI)) (ci := 2) (v := .int (nI 1)) (C := RX2) (T := TX2) (N := 11) hx hb hts inX2 hown hK hP 0 rfl rfl 0 (by decide) (hts _ q_fl_X2_29) (fun _ h9 => h9) rfl dX2_holdsPossible_33 ?_
  refine ifN_ne (tgt := 61) hx hb dX2_holdsPossible_36 (by decide) (by omega) (fun c_36 => ?_) (fun c_36 => absurd c_36 (by decide))
  refine lv_iconst (v := nI 0) hx hb dX2_holdsPossible_61 (by decide) ?_
  exact ret _ (mW cI cZ m0 m1 m2 m3 m4 m5 m6 1 n bg tn sl ht sn o nx kp ow) _ _ _ _ dX2_holdsPossible_62 rfl rfl (List.Perm.refl _) hP hS

set_option maxHeartbeats 4000000 in
set_option maxRecDepth 100000 in
theorem m_X2_isCertain (m0 m1 m2 m3 m4 m5 m6 th n : Nat) (bg : Bool) (tn sl : Nat) (ht sn : Nat → Nat) (o nx kp : Nat → Bool) (ow : Nat → Nat) (j : Nat) (hn : n ≤ 5) (hsn : ∀ p, p < 5 → sn p < 32) (hht : ∀ p, p < 5 → ht p < 3) (hj : j < n) : Mi l yX2_isCertain ws_X2_isCertain 4 94 (dC, dI) (tyL cI cZ cJ) [.ref m0, .int (nI j)] (mW cI cZ m0 m1 m2 m3 m4 m5 m6 th n bg tn sl ht sn o nx kp ow) (fun r u => r = bI (certM sn ht o n j) ∧ u = mW cI cZ m0 m1 m2 m3 m4 m5 m6 0 n bg tn sl ht sn o nx kp ow) := by
  refine Mi_of (by decide +kernel) (Nat.le_of_ble_eq_true rfl) ?_
  intro pr ev sx mi ag bl me cd Q ls S hP hK hD hZ hl ret
  obtain ⟨hx, hb, hml, hown, hts⟩ := id S
  have hown : sx.vm.findClass RX2 = some mi.cls := hown
  have hS : va_S (wIn (mW cI cZ m0 m1 m2 m3 m4 m5 m6 th n bg tn sl ht sn o nx kp ow)) sx.heap sx.heap [] := va_S.rf
  have hl : lv_has ls 2 [(0, .ref m0), (1, .int (nI j))] := hl
  refine lv_aload_n hx hb dX2_isCertain_0 rfl (lv_at hl 0 rfl) ?_
  refine lv_aload_n hx hb dX2_isCertain_1 rfl (lv_at hl 0 rfl) ?_
  refine lv_iload_n hx hb dX2_isCertain_2 rfl (lv_at hl 1 rfl) ?_
  refine call_Vp (As := [.int (nI j)]) (rest := [.ref m0]) S (m_X2_isPlayer_t m0 m1 m2 m3 m4 m5 m6 th n bg tn sl ht sn o nx kp ow j hn (by omega)) g_X2_X2_isPlayer hd_X2_isPlayer ⟨Nat.le_of_ble_eq_true rfl, Nat.le_of_ble_eq_true rfl⟩ ⟨Nat.zero_le _, Nat.zero_le _⟩ hP hD hK hS hZ [0, 1, 2, 3, 4, 5, 6] rfl (by decide) 0 rfl rfl hl.1 rfl (Nat.le_of_ble_eq_true rfl) dX2_isCertain_3 (fun r H locs hq hP hS => ?_)
  obtain rfl := hq
  refine ifB_eq (tgt := 13) hx hb dX2_isCertain_6 (by decide) (fun c_6 => absurd c_6 (by decide)) (fun c_6 => ?_)
  refine lv_iconst (v := nI 0) hx hb dX2_isCertain_9 (by decide) ?_
  refine lv_goto (tgt := 14) hx hb dX2_isCertain_10 (by decide) ?_
  refine va_put (D := (dC, dI)) (ci := 2) (v := .int (nI 0)) (ty := .int) (C := RX2) (T := TX2) (N := 11) hx hb hts inX2 tyX2 tyX2_ok nmX2 hown hK hP hD hS 0 rfl rfl 0 (by decide) (hts _ q_fl_X2_29) (fun _ h9 => h9) rfl (by decide +kernel) rfl rfl (Nat.le_of_ble_eq_true rfl) dX2_isCertain_14 (fun H locs hP hD hS => ?_)
  have hP : va_P (dC, dI) vwCl (mW cI cZ m0 m1 m2 m3 m4 m5 m6 0 n bg tn sl ht sn o nx kp ow) H := hP
  have hD : va_D (wIn (mW cI cZ m0 m1 m2 m3 m4 m5 m6 th n bg tn sl ht sn o nx kp ow)) (mW cI cZ m0 m1 m2 m3 m4 m5 m6 0 n bg tn sl ht sn o nx kp ow) := hD
  refine lv_aload_n hx hb dX2_isCertain_17 rfl (lv_at hl 0 rfl) ?_
  refine va_get (D := (dC, dI)) (ci := 2) (v := .int (nI 0)) (C := RX2) (T := TX2) (N := 11) hx hb hts inX2 hown hK hP 0 rfl rfl 0 (by decide) (hts _ q_fl_X2_29) (fun _ h9 => h9) rfl dX2_isCertain_18 ?_
  refine ifN_ne (tgt := 36) hx hb dX2_isCertain_21 (by decide) (by omega) (fun c_21 => absurd c_21 (by decide)) (fun c_21 => ?_)
  refine lv_aload_n hx hb dX2_isCertain_24 rfl (lv_at hl 0 rfl) ?_
  refine lv_iload_n hx hb dX2_isCertain_25 rfl (lv_at hl 1 rfl) ?_
  refine call_Vp (As := [.int (nI j)]) (rest := []) S (m_X2_certainNow m0 m1 m2 m3 m4 m5 m6 0 n bg tn sl ht sn o nx kp ow j hn hsn hht (by omega)) g_X2_X2_certainNow hd_X2_certainNow ⟨Nat.le_of_ble_eq_true rfl, Nat.le_of_ble_eq_true rfl⟩ ⟨Nat.zero_le _, Nat.zero_le _⟩ hP hD hK hS hZ [0, 1, 2, 3, 4, 5, 6] rfl (by decide) 0 rfl rfl hl.1 rfl (Nat.le_of_ble_eq_true rfl) dX2_isCertain_26 (fun r H locs hq hP hS => ?_)
  obtain rfl := hq
  refine ifB_eq (tgt := 36) hx hb dX2_isCertain_29 (by decide) (fun c_29 => ?_) (fun c_29 => ?_)
  · refine lv_iconst (v := nI 0) hx hb dX2_isCertain_36 (by decide) ?_
    exact ret _ (mW cI cZ m0 m1 m2 m3 m4 m5 m6 0 n bg tn sl ht sn o nx kp ow) _ _ _ _ dX2_isCertain_37 rfl ⟨bI_f c_29, rfl⟩ (List.Perm.refl _) hP hS
  · refine lv_iconst (v := nI 1) hx hb dX2_isCertain_32 (by decide) ?_
    refine lv_goto (tgt := 37) hx hb dX2_isCertain_33 (by decide) ?_
    exact ret _ (mW cI cZ m0 m1 m2 m3 m4 m5 m6 0 n bg tn sl ht sn o nx kp ow) _ _ _ _ dX2_isCertain_37 rfl ⟨bI_t c_29, rfl⟩ (List.Perm.refl _) hP hS

set_option maxHeartbeats 4000000 in
set_option maxRecDepth 100000 in
theorem mf_X2_isCertain_a (m0 m1 m2 m3 m4 m5 m6 th n : Nat) (bg : Bool) (tn sl : Nat) (ht sn : Nat → Nat) (o nx kp : Nat → Bool) (ow : Nat → Nat) (a0 : Int32) (hn : n ≤ 5) (ha0 : ∀ j, j < n → a0 ≠ nI j) : Mi l yX2_isCertain ws_X2_isCertain 2 43 (dC, dI) (tyL cI cZ cJ) [.ref m0, .int a0] (mW cI cZ m0 m1 m2 m3 m4 m5 m6 th n bg tn sl ht sn o nx kp ow) (fun r u => u = mW cI cZ m0 m1 m2 m3 m4 m5 m6 1 n bg tn sl ht sn o nx kp ow) := by
  refine Mi_of (by decide +kernel) (Nat.le_of_ble_eq_true rfl) ?_
  intro pr ev sx mi ag bl me cd Q ls S hP hK hD hZ hl ret
  obtain ⟨hx, hb, hml, hown, hts⟩ := id S
  have hown : sx.vm.findClass RX2 = some mi.cls := hown
  have hS : va_S (wIn (mW cI cZ m0 m1 m2 m3 m4 m5 m6 th n bg tn sl ht sn o nx kp ow)) sx.heap sx.heap [] := va_S.rf
  have hl : lv_has ls 2 [(0, .ref m0), (1, .int a0)] := hl
  refine lv_aload_n hx hb dX2_isCertain_0 rfl (lv_at hl 0 rfl) ?_
  refine lv_aload_n hx hb dX2_isCertain_1 rfl (lv_at hl 0 rfl) ?_
  refine lv_iload_n hx hb dX2_isCertain_2 rfl (lv_at hl 1 rfl) ?_
  refine call_Vp (As := [.int a0]) (rest := [.ref m0]) S (m_X2_isPlayer_f m0 m1 m2 m3 m4 m5 m6 th n bg tn sl ht sn o nx kp ow a0 hn ha0) g_X2_X2_isPlayer hd_X2_isPlayer ⟨Nat.le_of_ble_eq_true rfl, Nat.le_of_ble_eq_true rfl⟩ ⟨Nat.zero_le _, Nat.zero_le _⟩ hP hD hK hS hZ [0, 1, 2, 3, 4, 5, 6] rfl (by decide) 0 rfl rfl hl.1 rfl (Nat.le_of_ble_eq_true rfl) dX2_isCertain_3 (fun r H locs hq hP hS => ?_)
  obtain rfl := hq
  refine ifB_eq (tgt := 13) hx hb dX2_isCertain_6 (by decide) (fun c_6 => ?_) (fun c_6 => absurd c_6 (by decide))
  refine lv_iconst (v := nI 1) hx hb dX2_isCertain_13 (by decide) ?_
  refine va_put (D := (dC, dI)) (ci := 2) (v := .int (nI 1)) (ty := .int) (C := RX2) (T := TX2) (N := 11) hx hb hts inX2 tyX2 tyX2_ok nmX2 hown hK hP hD hS 0 rfl rfl 0 (by decide) (hts _ q_fl_X2_29) (fun _ h9 => h9) rfl (by decide +kernel) rfl rfl (Nat.le_of_ble_eq_true rfl) dX2_isCertain_14 (fun H locs hP hD hS => ?_)
  have hP : va_P (dC, dI) vwCl (mW cI cZ m0 m1 m2 m3 m4 m5 m6 1 n bg tn sl ht sn o nx kp ow) H := hP
  have hD : va_D (wIn (mW cI cZ m0 m1 m2 m3 m4 m5 m6 th n bg tn sl ht sn o nx kp ow)) (mW cI cZ m0 m1 m2 m3 m4 m5 m6 1 n bg tn sl ht sn o nx kp ow) := hD
  refine lv_aload_n hx hb dX2_isCertain_17 rfl (lv_at hl 0 rfl) ?_
  refine va_get (D := (dC, dI)) (ci := 2) (v := .int (nI 1)) (C := RX2) (T := TX2) (N := 11) hx hb hts inX2 hown hK hP 0 rfl rfl 0 (by decide) (hts _ q_fl_X2_29) (fun _ h9 => h9) rfl dX2_isCertain_18 ?_
  refine ifN_ne (tgt := 36) hx hb dX2_isCertain_21 (by decide) (by omega) (fun c_21 => ?_) (fun c_21 => absurd c_21 (by decide))
  refine lv_iconst (v := nI 0) hx hb dX2_isCertain_36 (by decide) ?_
  exact ret _ (mW cI cZ m0 m1 m2 m3 m4 m5 m6 1 n bg tn sl ht sn o nx kp ow) _ _ _ _ dX2_isCertain_37 rfl rfl (List.Perm.refl _) hP hS

set_option maxHeartbeats 4000000 in
set_option maxRecDepth 100000 in
theorem m_X2_knowsHatOf (m0 m1 m2 m3 m4 m5 m6 th n : Nat) (bg : Bool) (tn sl : Nat) (ht sn : Nat → Nat) (o nx kp : Nat → Bool) (ow : Nat → Nat) (j k : Nat) (hn : n ≤ 5) (hsn : ∀ p, p < 5 → sn p < 32) (hht : ∀ p, p < 5 → ht p < 3) (hj : j < n) (hk : k < n) : Mi l yX2_knowsHatOf ws_X2_knowsHatOf 4 95 (dC, dI) (tyL cI cZ cJ) [.ref m0, .int (nI j), .int (nI k)] (mW cI cZ m0 m1 m2 m3 m4 m5 m6 th n bg tn sl ht sn o nx kp ow) (fun r u => r = bI (knwM sn ht o n j k) ∧ u = mW cI cZ m0 m1 m2 m3 m4 m5 m6 0 n bg tn sl ht sn o nx kp ow) := by
  refine Mi_of (by decide +kernel) (Nat.le_of_ble_eq_true rfl) ?_
  intro pr ev sx mi ag bl me cd Q ls S hP hK hD hZ hl ret
  obtain ⟨hx, hb, hml, hown, hts⟩ := id S
  have hown : sx.vm.findClass RX2 = some mi.cls := hown
  have hS : va_S (wIn (mW cI cZ m0 m1 m2 m3 m4 m5 m6 th n bg tn sl ht sn o nx kp ow)) sx.heap sx.heap [] := va_S.rf
  have hl : lv_has ls 3 [(0, .ref m0), (1, .int (nI j)), (2, .int (nI k))] := hl
  refine lv_aload_n hx hb dX2_knowsHatOf_0 rfl (lv_at hl 0 rfl) ?_
  refine lv_aload_n hx hb dX2_knowsHatOf_1 rfl (lv_at hl 0 rfl) ?_
  refine lv_iload_n hx hb dX2_knowsHatOf_2 rfl (lv_at hl 1 rfl) ?_
  refine call_Vp (As := [.int (nI j)]) (rest := [.ref m0]) S (m_X2_isPlayer_t m0 m1 m2 m3 m4 m5 m6 th n bg tn sl ht sn o nx kp ow j hn (by omega)) g_X2_X2_isPlayer hd_X2_isPlayer ⟨Nat.le_of_ble_eq_true rfl, Nat.le_of_ble_eq_true rfl⟩ ⟨Nat.zero_le _, Nat.zero_le _⟩ hP hD hK hS hZ [0, 1, 2, 3, 4, 5, 6] rfl (by decide) 0 rfl rfl hl.1 rfl (Nat.le_of_ble_eq_true rfl) dX2_knowsHatOf_3 (fun r H locs hq hP hS => ?_)
  obtain rfl := hq
  refine ifB_eq (tgt := 21) hx hb dX2_knowsHatOf_6 (by decide) (fun c_6 => absurd c_6 (by decide)) (fun c_6 => ?_)
  refine lv_aload_n hx hb dX2_knowsHatOf_9 rfl (lv_at hl 0 rfl) ?_
  refine lv_iload_n hx hb dX2_knowsHatOf_10 rfl (lv_at hl 2 rfl) ?_
  refine call_Vp (As := [.int (nI k)]) (rest := [.ref m0]) S (m_X2_isPlayer_t m0 m1 m2 m3 m4 m5 m6 th n bg tn sl ht sn o nx kp ow k hn (by omega)) g_X2_X2_isPlayer hd_X2_isPlayer ⟨Nat.le_of_ble_eq_true rfl, Nat.le_of_ble_eq_true rfl⟩ ⟨Nat.zero_le _, Nat.zero_le _⟩ hP hD hK hS hZ [0, 1, 2, 3, 4, 5, 6] rfl (by decide) 0 rfl rfl hl.1 rfl (Nat.le_of_ble_eq_true rfl) dX2_knowsHatOf_11 (fun r H locs hq hP hS => ?_)
  obtain rfl := hq
  refine ifB_eq (tgt := 21) hx hb dX2_knowsHatOf_14 (by decide) (fun c_14 => absurd c_14 (by decide)) (fun c_14 => ?_)
  refine lv_iconst (v := nI 0) hx hb dX2_knowsHatOf_17 (by decide) ?_
  refine lv_goto (tgt := 22) hx hb dX2_knowsHatOf_18 (by decide) ?_
  refine va_put (D := (dC, dI)) (ci := 2) (v := .int (nI 0)) (ty := .int) (C := RX2) (T := TX2) (N := 11) hx hb hts inX2 tyX2 tyX2_ok nmX2 hown hK hP hD hS 0 rfl rfl 0 (by decide) (hts _ q_fl_X2_29) (fun _ h9 => h9) rfl (by decide +kernel) rfl rfl (Nat.le_of_ble_eq_true rfl) dX2_knowsHatOf_22 (fun H locs hP hD hS => ?_)
  have hP : va_P (dC, dI) vwCl (mW cI cZ m0 m1 m2 m3 m4 m5 m6 0 n bg tn sl ht sn o nx kp ow) H := hP
  have hD : va_D (wIn (mW cI cZ m0 m1 m2 m3 m4 m5 m6 th n bg tn sl ht sn o nx kp ow)) (mW cI cZ m0 m1 m2 m3 m4 m5 m6 0 n bg tn sl ht sn o nx kp ow) := hD
  refine lv_aload_n hx hb dX2_knowsHatOf_25 rfl (lv_at hl 0 rfl) ?_
  refine va_get (D := (dC, dI)) (ci := 2) (v := .int (nI 0)) (C := RX2) (T := TX2) (N := 11) hx hb hts inX2 hown hK hP 0 rfl rfl 0 (by decide) (hts _ q_fl_X2_29) (fun _ h9 => h9) rfl dX2_knowsHatOf_26 ?_
  refine ifN_ne (tgt := 45) hx hb dX2_knowsHatOf_29 (by decide) (by omega) (fun c_29 => absurd c_29 (by decide)) (fun c_29 => ?_)
  refine lv_aload_n hx hb dX2_knowsHatOf_32 rfl (lv_at hl 0 rfl) ?_
  refine lv_iload_n hx hb dX2_knowsHatOf_33 rfl (lv_at hl 1 rfl) ?_
  refine lv_iload_n hx hb dX2_knowsHatOf_34 rfl (lv_at hl 2 rfl) ?_
  refine call_Vp (As := [.int (nI j), .int (nI k)]) (rest := []) S (m_X2_knows m0 m1 m2 m3 m4 m5 m6 0 n bg tn sl ht sn o nx kp ow j k hn hsn hht (by omega) (by omega)) g_X2_X2_knows hd_X2_knows ⟨Nat.le_of_ble_eq_true rfl, Nat.le_of_ble_eq_true rfl⟩ ⟨Nat.zero_le _, Nat.zero_le _⟩ hP hD hK hS hZ [0, 1, 2, 3, 4, 5, 6] rfl (by decide) 0 rfl rfl hl.1 rfl (Nat.le_of_ble_eq_true rfl) dX2_knowsHatOf_35 (fun r H locs hq hP hS => ?_)
  obtain rfl := hq
  refine ifB_eq (tgt := 45) hx hb dX2_knowsHatOf_38 (by decide) (fun c_38 => ?_) (fun c_38 => ?_)
  · refine lv_iconst (v := nI 0) hx hb dX2_knowsHatOf_45 (by decide) ?_
    exact ret _ (mW cI cZ m0 m1 m2 m3 m4 m5 m6 0 n bg tn sl ht sn o nx kp ow) _ _ _ _ dX2_knowsHatOf_46 rfl ⟨bI_f c_38, rfl⟩ (List.Perm.refl _) hP hS
  · refine lv_iconst (v := nI 1) hx hb dX2_knowsHatOf_41 (by decide) ?_
    refine lv_goto (tgt := 46) hx hb dX2_knowsHatOf_42 (by decide) ?_
    exact ret _ (mW cI cZ m0 m1 m2 m3 m4 m5 m6 0 n bg tn sl ht sn o nx kp ow) _ _ _ _ dX2_knowsHatOf_46 rfl ⟨bI_t c_38, rfl⟩ (List.Perm.refl _) hP hS

set_option maxHeartbeats 4000000 in
set_option maxRecDepth 100000 in
theorem m_X2_knowsCertain (m0 m1 m2 m3 m4 m5 m6 th n : Nat) (bg : Bool) (tn sl : Nat) (ht sn : Nat → Nat) (o nx kp : Nat → Bool) (ow : Nat → Nat) (j k : Nat) (hn : n ≤ 5) (hsn : ∀ p, p < 5 → sn p < 32) (hht : ∀ p, p < 5 → ht p < 3) (hj : j < n) (hk : k < n) : Mi l yX2_knowsCertain ws_X2_knowsCertain 4 93 (dC, dI) (tyL cI cZ cJ) [.ref m0, .int (nI j), .int (nI k)] (mW cI cZ m0 m1 m2 m3 m4 m5 m6 th n bg tn sl ht sn o nx kp ow) (fun r u => r = bI (sureM sn ht o n j k) ∧ u = mW cI cZ m0 m1 m2 m3 m4 m5 m6 0 n bg tn sl ht sn o nx kp (lookF sn k o n ow (3 ^ n))) := by
  refine Mi_of (by decide +kernel) (Nat.le_of_ble_eq_true rfl) ?_
  intro pr ev sx mi ag bl me cd Q ls S hP hK hD hZ hl ret
  obtain ⟨hx, hb, hml, hown, hts⟩ := id S
  have hown : sx.vm.findClass RX2 = some mi.cls := hown
  have hS : va_S (wIn (mW cI cZ m0 m1 m2 m3 m4 m5 m6 th n bg tn sl ht sn o nx kp ow)) sx.heap sx.heap [] := va_S.rf
  have hl : lv_has ls 3 [(0, .ref m0), (1, .int (nI j)), (2, .int (nI k))] := hl
  refine lv_aload_n hx hb dX2_knowsCertain_0 rfl (lv_at hl 0 rfl) ?_
  refine lv_aload_n hx hb dX2_knowsCertain_1 rfl (lv_at hl 0 rfl) ?_
  refine lv_iload_n hx hb dX2_knowsCertain_2 rfl (lv_at hl 1 rfl) ?_
  refine call_Vp (As := [.int (nI j)]) (rest := [.ref m0]) S (m_X2_isPlayer_t m0 m1 m2 m3 m4 m5 m6 th n bg tn sl ht sn o nx kp ow j hn (by omega)) g_X2_X2_isPlayer hd_X2_isPlayer ⟨Nat.le_of_ble_eq_true rfl, Nat.le_of_ble_eq_true rfl⟩ ⟨Nat.zero_le _, Nat.zero_le _⟩ hP hD hK hS hZ [0, 1, 2, 3, 4, 5, 6] rfl (by decide) 0 rfl rfl hl.1 rfl (Nat.le_of_ble_eq_true rfl) dX2_knowsCertain_3 (fun r H locs hq hP hS => ?_)
  obtain rfl := hq
  refine ifB_eq (tgt := 21) hx hb dX2_knowsCertain_6 (by decide) (fun c_6 => absurd c_6 (by decide)) (fun c_6 => ?_)
  refine lv_aload_n hx hb dX2_knowsCertain_9 rfl (lv_at hl 0 rfl) ?_
  refine lv_iload_n hx hb dX2_knowsCertain_10 rfl (lv_at hl 2 rfl) ?_
  refine call_Vp (As := [.int (nI k)]) (rest := [.ref m0]) S (m_X2_isPlayer_t m0 m1 m2 m3 m4 m5 m6 th n bg tn sl ht sn o nx kp ow k hn (by omega)) g_X2_X2_isPlayer hd_X2_isPlayer ⟨Nat.le_of_ble_eq_true rfl, Nat.le_of_ble_eq_true rfl⟩ ⟨Nat.zero_le _, Nat.zero_le _⟩ hP hD hK hS hZ [0, 1, 2, 3, 4, 5, 6] rfl (by decide) 0 rfl rfl hl.1 rfl (Nat.le_of_ble_eq_true rfl) dX2_knowsCertain_11 (fun r H locs hq hP hS => ?_)
  obtain rfl := hq
  refine ifB_eq (tgt := 21) hx hb dX2_knowsCertain_14 (by decide) (fun c_14 => absurd c_14 (by decide)) (fun c_14 => ?_)
  refine lv_iconst (v := nI 0) hx hb dX2_knowsCertain_17 (by decide) ?_
  refine lv_goto (tgt := 22) hx hb dX2_knowsCertain_18 (by decide) ?_
  refine va_put (D := (dC, dI)) (ci := 2) (v := .int (nI 0)) (ty := .int) (C := RX2) (T := TX2) (N := 11) hx hb hts inX2 tyX2 tyX2_ok nmX2 hown hK hP hD hS 0 rfl rfl 0 (by decide) (hts _ q_fl_X2_29) (fun _ h9 => h9) rfl (by decide +kernel) rfl rfl (Nat.le_of_ble_eq_true rfl) dX2_knowsCertain_22 (fun H locs hP hD hS => ?_)
  have hP : va_P (dC, dI) vwCl (mW cI cZ m0 m1 m2 m3 m4 m5 m6 0 n bg tn sl ht sn o nx kp ow) H := hP
  have hD : va_D (wIn (mW cI cZ m0 m1 m2 m3 m4 m5 m6 th n bg tn sl ht sn o nx kp ow)) (mW cI cZ m0 m1 m2 m3 m4 m5 m6 0 n bg tn sl ht sn o nx kp ow) := hD
  refine lv_aload_n hx hb dX2_knowsCertain_25 rfl (lv_at hl 0 rfl) ?_
  refine va_get (D := (dC, dI)) (ci := 2) (v := .int (nI 0)) (C := RX2) (T := TX2) (N := 11) hx hb hts inX2 hown hK hP 0 rfl rfl 0 (by decide) (hts _ q_fl_X2_29) (fun _ h9 => h9) rfl dX2_knowsCertain_26 ?_
  refine ifN_ne (tgt := 45) hx hb dX2_knowsCertain_29 (by decide) (by omega) (fun c_29 => absurd c_29 (by decide)) (fun c_29 => ?_)
  refine lv_aload_n hx hb dX2_knowsCertain_32 rfl (lv_at hl 0 rfl) ?_
  refine lv_iload_n hx hb dX2_knowsCertain_33 rfl (lv_at hl 1 rfl) ?_
  refine lv_iload_n hx hb dX2_knowsCertain_34 rfl (lv_at hl 2 rfl) ?_
  refine call_Vi (As := [.int (nI j), .int (nI k)]) (wr := []) (rest := []) S (m_X2_sure m0 m1 m2 m3 m4 m5 m6 0 n bg tn sl ht sn o nx kp ow j k hn hsn hht (by omega) (by omega)) g_X2_X2_sure hd_X2_sure ⟨Nat.le_of_ble_eq_true rfl, Nat.le_of_ble_eq_true rfl⟩ ⟨Nat.zero_le _, Nat.zero_le _⟩ hP hD hK hS hZ [0, 1, 2, 3, 4, 5, 6] [] rfl rfl (by decide) 0 rfl rfl hl.1 rfl (Nat.le_of_ble_eq_true rfl) dX2_knowsCertain_35 (fun r u H locs hq hP hD hS => ?_)
  obtain ⟨rfl, rfl⟩ := hq
  have hP : va_P (dC, dI) vwCl (mW cI cZ m0 m1 m2 m3 m4 m5 m6 0 n bg tn sl ht sn o nx kp (lookF sn k o n ow (3 ^ n))) H := hP
  have hD : va_D (wIn (mW cI cZ m0 m1 m2 m3 m4 m5 m6 th n bg tn sl ht sn o nx kp ow)) (mW cI cZ m0 m1 m2 m3 m4 m5 m6 0 n bg tn sl ht sn o nx kp (lookF sn k o n ow (3 ^ n))) := hD
  refine ifB_eq (tgt := 45) hx hb dX2_knowsCertain_38 (by decide) (fun c_38 => ?_) (fun c_38 => ?_)
  · refine lv_iconst (v := nI 0) hx hb dX2_knowsCertain_45 (by decide) ?_
    exact ret _ (mW cI cZ m0 m1 m2 m3 m4 m5 m6 0 n bg tn sl ht sn o nx kp (lookF sn k o n ow (3 ^ n))) _ _ _ _ dX2_knowsCertain_46 rfl ⟨bI_f c_38, rfl⟩ (List.Perm.refl _) hP hS
  · refine lv_iconst (v := nI 1) hx hb dX2_knowsCertain_41 (by decide) ?_
    refine lv_goto (tgt := 46) hx hb dX2_knowsCertain_42 (by decide) ?_
    exact ret _ (mW cI cZ m0 m1 m2 m3 m4 m5 m6 0 n bg tn sl ht sn o nx kp (lookF sn k o n ow (3 ^ n))) _ _ _ _ dX2_knowsCertain_46 rfl ⟨bI_t c_38, rfl⟩ (List.Perm.refl _) hP hS

set_option maxHeartbeats 4000000 in
set_option maxRecDepth 100000 in
theorem m_X2_certainPlayers (m0 m1 m2 m3 m4 m5 m6 th n : Nat) (bg : Bool) (tn sl : Nat) (ht sn : Nat → Nat) (o nx kp : Nat → Bool) (ow : Nat → Nat) (hn : n ≤ 5) (hsn : ∀ p, p < 5 → sn p < 32) (hht : ∀ p, p < 5 → ht p < 3) : Mi l yX2_certainPlayers ws_X2_certainPlayers 5 116 (dC, dI) (tyL cI cZ cJ) [.ref m0] (mW cI cZ m0 m1 m2 m3 m4 m5 m6 th n bg tn sl ht sn o nx kp ow) (fun r u => r = nI (manyM sn ht o n n) ∧ u = mW cI cZ m0 m1 m2 m3 m4 m5 m6 0 n bg tn sl ht sn o nx kp ow) := by
  refine Mi_of (by decide +kernel) (Nat.le_of_ble_eq_true rfl) ?_
  intro pr ev sx mi ag bl me cd Q ls S hP hK hD hZ hl ret
  obtain ⟨hx, hb, hml, hown, hts⟩ := id S
  have hown : sx.vm.findClass RX2 = some mi.cls := hown
  have hS : va_S (wIn (mW cI cZ m0 m1 m2 m3 m4 m5 m6 th n bg tn sl ht sn o nx kp ow)) sx.heap sx.heap [] := va_S.rf
  have hl : lv_has ls 1 [(0, .ref m0)] := hl
  refine lv_aload_n hx hb dX2_certainPlayers_0 rfl (lv_at hl 0 rfl) ?_
  refine lv_aload_n hx hb dX2_certainPlayers_1 rfl (lv_at hl 0 rfl) ?_
  refine call_Vp (As := []) (rest := [.ref m0]) S (m_X2_many m0 m1 m2 m3 m4 m5 m6 th n bg tn sl ht sn o nx kp ow  hn hsn hht) g_X2_X2_many hd_X2_many ⟨Nat.le_of_ble_eq_true rfl, Nat.le_of_ble_eq_true rfl⟩ ⟨Nat.zero_le _, Nat.zero_le _⟩ hP hD hK hS hZ [0, 1, 2, 3, 4, 5, 6] rfl (by decide) 0 rfl rfl hl.1 rfl (Nat.le_of_ble_eq_true rfl) dX2_certainPlayers_2 (fun r H locs hq hP hS => ?_)
  obtain rfl := hq
  refine call_Vi (As := [.int (nI (manyM sn ht o n n))]) (wr := []) (rest := []) S (m_X2_told m0 m1 m2 m3 m4 m5 m6 th n bg tn sl ht sn o nx kp ow (nI (manyM sn ht o n n))) g_X2_X2_told hd_X2_told ⟨Nat.le_of_ble_eq_true rfl, Nat.le_of_ble_eq_true rfl⟩ ⟨Nat.zero_le _, Nat.zero_le _⟩ hP hD hK hS hZ [0, 1, 2, 3, 4, 5, 6] [] rfl rfl (by decide) 0 rfl rfl hl.1 rfl (Nat.le_of_ble_eq_true rfl) dX2_certainPlayers_5 (fun r u H locs hq hP hD hS => ?_)
  obtain ⟨rfl, rfl⟩ := hq
  have hP : va_P (dC, dI) vwCl (mW cI cZ m0 m1 m2 m3 m4 m5 m6 0 n bg tn sl ht sn o nx kp ow) H := hP
  have hD : va_D (wIn (mW cI cZ m0 m1 m2 m3 m4 m5 m6 th n bg tn sl ht sn o nx kp ow)) (mW cI cZ m0 m1 m2 m3 m4 m5 m6 0 n bg tn sl ht sn o nx kp ow) := hD
  exact ret _ (mW cI cZ m0 m1 m2 m3 m4 m5 m6 0 n bg tn sl ht sn o nx kp ow) _ _ _ _ dX2_certainPlayers_8 rfl ⟨rfl, rfl⟩ (List.Perm.refl _) hP hS

set_option maxHeartbeats 4000000 in
set_option maxRecDepth 100000 in
theorem m_X2_openAfterTurn (m0 m1 m2 m3 m4 m5 m6 th n : Nat) (bg : Bool) (tn sl : Nat) (ht sn : Nat → Nat) (o nx kp : Nat → Bool) (ow : Nat → Nat) (hn : n ≤ 5) (hsn : ∀ p, p < 5 → sn p < 32) (hht : ∀ p, p < 5 → ht p < 3) (htn : tn < 2 ^ 20) (h0n : 0 < n) : Mi l yX2_openAfterTurn ws_X2_openAfterTurn 5 115 (dC, dI) (tyL cI cZ cJ) [.ref m0] (mW cI cZ m0 m1 m2 m3 m4 m5 m6 th n bg tn sl ht sn o nx kp ow) (fun r u => r = nI (cntP (turnM sn o n (tn % n) (realN ht n)) (3 ^ n)) ∧ ∃ (nx2 : Nat → Bool) (ow2 : Nat → Nat), u = mW cI cZ m0 m1 m2 m4 m3 m5 m6 0 n bg tn sl ht sn o nx2 o ow2) := by
  refine Mi_of (by decide +kernel) (Nat.le_of_ble_eq_true rfl) ?_
  intro pr ev sx mi ag bl me cd Q ls S hP hK hD hZ hl ret
  obtain ⟨hx, hb, hml, hown, hts⟩ := id S
  have hown : sx.vm.findClass RX2 = some mi.cls := hown
  have hS : va_S (wIn (mW cI cZ m0 m1 m2 m3 m4 m5 m6 th n bg tn sl ht sn o nx kp ow)) sx.heap sx.heap [] := va_S.rf
  have hl : lv_has ls 1 [(0, .ref m0)] := hl
  refine lv_aload_n hx hb dX2_openAfterTurn_0 rfl (lv_at hl 0 rfl) ?_
  refine lv_iconst (v := nI 0) hx hb dX2_openAfterTurn_1 (by decide) ?_
  refine va_put (D := (dC, dI)) (ci := 2) (v := .int (nI 0)) (ty := .int) (C := RX2) (T := TX2) (N := 11) hx hb hts inX2 tyX2 tyX2_ok nmX2 hown hK hP hD hS 0 rfl rfl 0 (by decide) (hts _ q_fl_X2_29) (fun _ h9 => h9) rfl (by decide +kernel) rfl rfl (Nat.le_of_ble_eq_true rfl) dX2_openAfterTurn_2 (fun H locs hP hD hS => ?_)
  have hP : va_P (dC, dI) vwCl (mW cI cZ m0 m1 m2 m3 m4 m5 m6 0 n bg tn sl ht sn o nx kp ow) H := hP
  have hD : va_D (wIn (mW cI cZ m0 m1 m2 m3 m4 m5 m6 th n bg tn sl ht sn o nx kp ow)) (mW cI cZ m0 m1 m2 m3 m4 m5 m6 0 n bg tn sl ht sn o nx kp ow) := hD
  refine lv_aload_n hx hb dX2_openAfterTurn_5 rfl (lv_at hl 0 rfl) ?_
  refine va_get (D := (dC, dI)) (ci := 2) (v := .int (nI n)) (C := RX2) (T := TX2) (N := 11) hx hb hts inX2 hown hK hP 0 rfl rfl 1 (by decide) (hts _ q_fl_X2_33) (fun _ h9 => h9) rfl dX2_openAfterTurn_6 ?_
  refine ifN_ne (tgt := 20) hx hb dX2_openAfterTurn_9 (by decide) (by omega) (fun c_9 => ?_) (fun c_9 => absurd c_9 (by omega))
  refine lv_aload_n hx hb dX2_openAfterTurn_20 rfl (lv_at hl 0 rfl) ?_
  refine call_Vi (As := []) (wr := []) (rest := []) S (m_X2_after_p m0 m1 m2 m3 m4 m5 m6 0 n bg tn sl ht sn o nx kp ow hn hsn hht htn (by omega)) g_X2_X2_after hd_X2_after ⟨Nat.le_of_ble_eq_true rfl, Nat.le_of_ble_eq_true rfl⟩ ⟨Nat.zero_le _, Nat.zero_le _⟩ hP hD hK hS hZ [0, 1, 2, 3, 4, 5, 6] [] rfl rfl (by decide) 0 rfl rfl hl.1 rfl (Nat.le_of_ble_eq_true rfl) dX2_openAfterTurn_21 (fun r u H locs hq hP hD hS => ?_)
  obtain ⟨rfl, nx3, ow3, rfl⟩ := hq
  have hP : va_P (dC, dI) vwCl (mW cI cZ m0 m1 m2 m4 m3 m5 m6 0 n bg tn sl ht sn o nx3 o ow3) H := hP
  have hD : va_D (wIn (mW cI cZ m0 m1 m2 m3 m4 m5 m6 th n bg tn sl ht sn o nx kp ow)) (mW cI cZ m0 m1 m2 m4 m3 m5 m6 0 n bg tn sl ht sn o nx3 o ow3) := hD
  exact ret _ (mW cI cZ m0 m1 m2 m4 m3 m5 m6 0 n bg tn sl ht sn o nx3 o ow3) _ _ _ _ dX2_openAfterTurn_24 rfl ⟨rfl, _, _, rfl⟩ (mW_swap _ _ _ _ _ _ _) hP hS

set_option maxHeartbeats 4000000 in
set_option maxRecDepth 100000 in
theorem mf_X2_openAfterTurn_a (m0 m1 m2 m3 m4 m5 m6 th n : Nat) (bg : Bool) (tn sl : Nat) (ht sn : Nat → Nat) (o nx kp : Nat → Bool) (ow : Nat → Nat) (h0n : n = 0) : Mi l yX2_openAfterTurn ws_X2_openAfterTurn 1 21 (dC, dI) (tyL cI cZ cJ) [.ref m0] (mW cI cZ m0 m1 m2 m3 m4 m5 m6 th n bg tn sl ht sn o nx kp ow) (fun r u => u = mW cI cZ m0 m1 m2 m3 m4 m5 m6 1 n bg tn sl ht sn o nx kp ow) := by
  refine Mi_of (by decide +kernel) (Nat.le_of_ble_eq_true rfl) ?_
  intro pr ev sx mi ag bl me cd Q ls S hP hK hD hZ hl ret
  obtain ⟨hx, hb, hml, hown, hts⟩ := id S
  have hown : sx.vm.findClass RX2 = some mi.cls := hown
  have hS : va_S (wIn (mW cI cZ m0 m1 m2 m3 m4 m5 m6 th n bg tn sl ht sn o nx kp ow)) sx.heap sx.heap [] := va_S.rf
  have hl : lv_has ls 1 [(0, .ref m0)] := hl
  refine lv_aload_n hx hb dX2_openAfterTurn_0 rfl (lv_at hl 0 rfl) ?_
  refine lv_iconst (v := nI 0) hx hb dX2_openAfterTurn_1 (by decide) ?_
  refine va_put (D := (dC, dI)) (ci := 2) (v := .int (nI 0)) (ty := .int) (C := RX2) (T := TX2) (N := 11) hx hb hts inX2 tyX2 tyX2_ok nmX2 hown hK hP hD hS 0 rfl rfl 0 (by decide) (hts _ q_fl_X2_29) (fun _ h9 => h9) rfl (by decide +kernel) rfl rfl (Nat.le_of_ble_eq_true rfl) dX2_openAfterTurn_2 (fun H locs hP hD hS => ?_)
  have hP : va_P (dC, dI) vwCl (mW cI cZ m0 m1 m2 m3 m4 m5 m6 0 n bg tn sl ht sn o nx kp ow) H := hP
  have hD : va_D (wIn (mW cI cZ m0 m1 m2 m3 m4 m5 m6 th n bg tn sl ht sn o nx kp ow)) (mW cI cZ m0 m1 m2 m3 m4 m5 m6 0 n bg tn sl ht sn o nx kp ow) := hD
  refine lv_aload_n hx hb dX2_openAfterTurn_5 rfl (lv_at hl 0 rfl) ?_
  refine va_get (D := (dC, dI)) (ci := 2) (v := .int (nI n)) (C := RX2) (T := TX2) (N := 11) hx hb hts inX2 hown hK hP 0 rfl rfl 1 (by decide) (hts _ q_fl_X2_33) (fun _ h9 => h9) rfl dX2_openAfterTurn_6 ?_
  refine ifN_ne (tgt := 20) hx hb dX2_openAfterTurn_9 (by decide) (by omega) (fun c_9 => absurd c_9 (fun q => q h0n)) (fun c_9 => ?_)
  refine lv_aload_n hx hb dX2_openAfterTurn_12 rfl (lv_at hl 0 rfl) ?_
  refine lv_iconst (v := nI 1) hx hb dX2_openAfterTurn_13 (by decide) ?_
  refine call_Vi (As := [.int (nI 1)]) (wr := []) (rest := []) S (m_X2_fail m0 m1 m2 m3 m4 m5 m6 0 n bg tn sl ht sn o nx kp ow 1 ) g_X2_X2_fail hd_X2_fail ⟨Nat.le_of_ble_eq_true rfl, Nat.le_of_ble_eq_true rfl⟩ ⟨Nat.zero_le _, Nat.zero_le _⟩ hP hD hK hS hZ [0, 1, 2, 3, 4, 5, 6] [] rfl rfl (by decide) 0 rfl rfl hl.1 rfl (Nat.le_of_ble_eq_true rfl) dX2_openAfterTurn_14 (fun r u H locs hq hP hD hS => ?_)
  obtain ⟨rfl, rfl⟩ := hq
  have hP : va_P (dC, dI) vwCl (mW cI cZ m0 m1 m2 m3 m4 m5 m6 1 n bg tn sl ht sn o nx kp ow) H := hP
  have hD : va_D (wIn (mW cI cZ m0 m1 m2 m3 m4 m5 m6 th n bg tn sl ht sn o nx kp ow)) (mW cI cZ m0 m1 m2 m3 m4 m5 m6 1 n bg tn sl ht sn o nx kp ow) := hD
  refine lv_goto (tgt := 24) hx hb dX2_openAfterTurn_17 (by decide) ?_
  exact ret _ (mW cI cZ m0 m1 m2 m3 m4 m5 m6 1 n bg tn sl ht sn o nx kp ow) _ _ _ _ dX2_openAfterTurn_24 rfl rfl (List.Perm.refl _) hP hS

set_option maxHeartbeats 4000000 in
set_option maxRecDepth 100000 in
theorem m_X2_turnsUntilCertain (m0 m1 m2 m3 m4 m5 m6 th n : Nat) (bg : Bool) (tn sl : Nat) (ht sn : Nat → Nat) (o nx kp : Nat → Bool) (ow : Nat → Nat) (j : Nat) (hn : n ≤ 5) (hsn : ∀ p, p < 5 → sn p < 32) (hht : ∀ p, p < 5 → ht p < 3) (htn : tn < 2 ^ 20) (hj : j < n) : Mi l yX2_turnsUntilCertain ws_X2_turnsUntilCertain 5 117 (dC, dI) (tyL cI cZ cJ) [.ref m0, .int (nI j)] (mW cI cZ m0 m1 m2 m3 m4 m5 m6 th n bg tn sl ht sn o nx kp ow) (fun r u => r = oI (findF (fun i => certM sn ht (seqM sn n (realN ht n) tn o nx i).1 n j) 41 0) ∧ ∃ (a b : Nat) (nx2 : Nat → Bool) (ow2 : Nat → Nat), ((a = m3 ∧ b = m4) ∨ (a = m4 ∧ b = m3)) ∧ u = mW cI cZ m0 m1 m2 a b m5 m6 0 n bg tn sl ht sn o nx2 o ow2) := by
  refine Mi_of (by decide +kernel) (Nat.le_of_ble_eq_true rfl) ?_
  intro pr ev sx mi ag bl me cd Q ls S hP hK hD hZ hl ret
  obtain ⟨hx, hb, hml, hown, hts⟩ := id S
  have hown : sx.vm.findClass RX2 = some mi.cls := hown
  have hS : va_S (wIn (mW cI cZ m0 m1 m2 m3 m4 m5 m6 th n bg tn sl ht sn o nx kp ow)) sx.heap sx.heap [] := va_S.rf
  have hl : lv_has ls 2 [(0, .ref m0), (1, .int (nI j))] := hl
  refine lv_aload_n hx hb dX2_turnsUntilCertain_0 rfl (lv_at hl 0 rfl) ?_
  refine lv_iconst (v := nI 0) hx hb dX2_turnsUntilCertain_1 (by decide) ?_
  refine va_put (D := (dC, dI)) (ci := 2) (v := .int (nI 0)) (ty := .int) (C := RX2) (T := TX2) (N := 11) hx hb hts inX2 tyX2 tyX2_ok nmX2 hown hK hP hD hS 0 rfl rfl 0 (by decide) (hts _ q_fl_X2_29) (fun _ h9 => h9) rfl (by decide +kernel) rfl rfl (Nat.le_of_ble_eq_true rfl) dX2_turnsUntilCertain_2 (fun H locs hP hD hS => ?_)
  have hP : va_P (dC, dI) vwCl (mW cI cZ m0 m1 m2 m3 m4 m5 m6 0 n bg tn sl ht sn o nx kp ow) H := hP
  have hD : va_D (wIn (mW cI cZ m0 m1 m2 m3 m4 m5 m6 th n bg tn sl ht sn o nx kp ow)) (mW cI cZ m0 m1 m2 m3 m4 m5 m6 0 n bg tn sl ht sn o nx kp ow) := hD
  refine lv_aload_n hx hb dX2_turnsUntilCertain_5 rfl (lv_at hl 0 rfl) ?_
  refine lv_iload_n hx hb dX2_turnsUntilCertain_6 rfl (lv_at hl 1 rfl) ?_
  refine call_Vp (As := [.int (nI j)]) (rest := []) S (m_X2_isPlayer_t m0 m1 m2 m3 m4 m5 m6 0 n bg tn sl ht sn o nx kp ow j hn (by omega)) g_X2_X2_isPlayer hd_X2_isPlayer ⟨Nat.le_of_ble_eq_true rfl, Nat.le_of_ble_eq_true rfl⟩ ⟨Nat.zero_le _, Nat.zero_le _⟩ hP hD hK hS hZ [0, 1, 2, 3, 4, 5, 6] rfl (by decide) 0 rfl rfl hl.1 rfl (Nat.le_of_ble_eq_true rfl) dX2_turnsUntilCertain_7 (fun r H locs hq hP hS => ?_)
  obtain rfl := hq
  refine ifB_eq (tgt := 21) hx hb dX2_turnsUntilCertain_10 (by decide) (fun c_10 => absurd c_10 (by decide)) (fun c_10 => ?_)
  refine lv_aload_n hx hb dX2_turnsUntilCertain_13 rfl (lv_at hl 0 rfl) ?_
  refine lv_iload_n hx hb dX2_turnsUntilCertain_14 rfl (lv_at hl 1 rfl) ?_
  refine call_Vi (As := [.int (nI j)]) (wr := []) (rest := []) S (m_X2_until_1 m0 m1 m2 m3 m4 m5 m6 0 n bg tn sl ht sn o nx kp ow j hj hn hsn hht htn) g_X2_X2_until hd_X2_until ⟨Nat.le_of_ble_eq_true rfl, Nat.le_of_ble_eq_true rfl⟩ ⟨Nat.zero_le _, Nat.zero_le _⟩ hP hD hK hS hZ [0, 1, 2, 3, 4, 5, 6] [] rfl rfl (by decide) 0 rfl rfl hl.1 rfl (Nat.le_of_ble_eq_true rfl) dX2_turnsUntilCertain_15 (fun r u H locs hq hP hD hS => ?_)
  obtain ⟨rfl, a5, b5, nx5, ow5, hab5, rfl⟩ := hq
  have hP : va_P (dC, dI) vwCl (mW cI cZ m0 m1 m2 a5 b5 m5 m6 0 n bg tn sl ht sn o nx5 o ow5) H := hP
  have hD : va_D (wIn (mW cI cZ m0 m1 m2 m3 m4 m5 m6 th n bg tn sl ht sn o nx kp ow)) (mW cI cZ m0 m1 m2 a5 b5 m5 m6 0 n bg tn sl ht sn o nx5 o ow5) := hD
  refine lv_goto (tgt := 26) hx hb dX2_turnsUntilCertain_18 (by decide) ?_
  exact ret _ (mW cI cZ m0 m1 m2 a5 b5 m5 m6 0 n bg tn sl ht sn o nx5 o ow5) _ _ _ _ dX2_turnsUntilCertain_26 rfl ⟨rfl, a5, b5, _, _, hab5, rfl⟩ (ab_perm hab5) hP hS

set_option maxHeartbeats 4000000 in
set_option maxRecDepth 100000 in
theorem mf_X2_turnsUntilCertain_a (m0 m1 m2 m3 m4 m5 m6 th n : Nat) (bg : Bool) (tn sl : Nat) (ht sn : Nat → Nat) (o nx kp : Nat → Bool) (ow : Nat → Nat) (a0 : Int32) (hn : n ≤ 5) (ha0 : ∀ j, j < n → a0 ≠ nI j) : Mi l yX2_turnsUntilCertain ws_X2_turnsUntilCertain 2 43 (dC, dI) (tyL cI cZ cJ) [.ref m0, .int a0] (mW cI cZ m0 m1 m2 m3 m4 m5 m6 th n bg tn sl ht sn o nx kp ow) (fun r u => u = mW cI cZ m0 m1 m2 m3 m4 m5 m6 1 n bg tn sl ht sn o nx kp ow) := by
  refine Mi_of (by decide +kernel) (Nat.le_of_ble_eq_true rfl) ?_
  intro pr ev sx mi ag bl me cd Q ls S hP hK hD hZ hl ret
  obtain ⟨hx, hb, hml, hown, hts⟩ := id S
  have hown : sx.vm.findClass RX2 = some mi.cls := hown
  have hS : va_S (wIn (mW cI cZ m0 m1 m2 m3 m4 m5 m6 th n bg tn sl ht sn o nx kp ow)) sx.heap sx.heap [] := va_S.rf
  have hl : lv_has ls 2 [(0, .ref m0), (1, .int a0)] := hl
  refine lv_aload_n hx hb dX2_turnsUntilCertain_0 rfl (lv_at hl 0 rfl) ?_
  refine lv_iconst (v := nI 0) hx hb dX2_turnsUntilCertain_1 (by decide) ?_
  refine va_put (D := (dC, dI)) (ci := 2) (v := .int (nI 0)) (ty := .int) (C := RX2) (T := TX2) (N := 11) hx hb hts inX2 tyX2 tyX2_ok nmX2 hown hK hP hD hS 0 rfl rfl 0 (by decide) (hts _ q_fl_X2_29) (fun _ h9 => h9) rfl (by decide +kernel) rfl rfl (Nat.le_of_ble_eq_true rfl) dX2_turnsUntilCertain_2 (fun H locs hP hD hS => ?_)
  have hP : va_P (dC, dI) vwCl (mW cI cZ m0 m1 m2 m3 m4 m5 m6 0 n bg tn sl ht sn o nx kp ow) H := hP
  have hD : va_D (wIn (mW cI cZ m0 m1 m2 m3 m4 m5 m6 th n bg tn sl ht sn o nx kp ow)) (mW cI cZ m0 m1 m2 m3 m4 m5 m6 0 n bg tn sl ht sn o nx kp ow) := hD
  refine lv_aload_n hx hb dX2_turnsUntilCertain_5 rfl (lv_at hl 0 rfl) ?_
  refine lv_iload_n hx hb dX2_turnsUntilCertain_6 rfl (lv_at hl 1 rfl) ?_
  refine call_Vp (As := [.int a0]) (rest := []) S (m_X2_isPlayer_f m0 m1 m2 m3 m4 m5 m6 0 n bg tn sl ht sn o nx kp ow a0 hn ha0) g_X2_X2_isPlayer hd_X2_isPlayer ⟨Nat.le_of_ble_eq_true rfl, Nat.le_of_ble_eq_true rfl⟩ ⟨Nat.zero_le _, Nat.zero_le _⟩ hP hD hK hS hZ [0, 1, 2, 3, 4, 5, 6] rfl (by decide) 0 rfl rfl hl.1 rfl (Nat.le_of_ble_eq_true rfl) dX2_turnsUntilCertain_7 (fun r H locs hq hP hS => ?_)
  obtain rfl := hq
  refine ifB_eq (tgt := 21) hx hb dX2_turnsUntilCertain_10 (by decide) (fun c_10 => ?_) (fun c_10 => absurd c_10 (by decide))
  refine lv_aload_n hx hb dX2_turnsUntilCertain_21 rfl (lv_at hl 0 rfl) ?_
  refine lv_iconst (v := nI 1) hx hb dX2_turnsUntilCertain_22 (by decide) ?_
  refine call_Vi (As := [.int (nI 1)]) (wr := []) (rest := []) S (m_X2_fail m0 m1 m2 m3 m4 m5 m6 0 n bg tn sl ht sn o nx kp ow 1 ) g_X2_X2_fail hd_X2_fail ⟨Nat.le_of_ble_eq_true rfl, Nat.le_of_ble_eq_true rfl⟩ ⟨Nat.zero_le _, Nat.zero_le _⟩ hP hD hK hS hZ [0, 1, 2, 3, 4, 5, 6] [] rfl rfl (by decide) 0 rfl rfl hl.1 rfl (Nat.le_of_ble_eq_true rfl) dX2_turnsUntilCertain_23 (fun r u H locs hq hP hD hS => ?_)
  obtain ⟨rfl, rfl⟩ := hq
  have hP : va_P (dC, dI) vwCl (mW cI cZ m0 m1 m2 m3 m4 m5 m6 1 n bg tn sl ht sn o nx kp ow) H := hP
  have hD : va_D (wIn (mW cI cZ m0 m1 m2 m3 m4 m5 m6 th n bg tn sl ht sn o nx kp ow)) (mW cI cZ m0 m1 m2 m3 m4 m5 m6 1 n bg tn sl ht sn o nx kp ow) := hD
  exact ret _ (mW cI cZ m0 m1 m2 m3 m4 m5 m6 1 n bg tn sl ht sn o nx kp ow) _ _ _ _ dX2_turnsUntilCertain_26 rfl rfl (List.Perm.refl _) hP hS

set_option maxHeartbeats 4000000 in
set_option maxRecDepth 100000 in
theorem m_X2_turnsUntilAllCertain (m0 m1 m2 m3 m4 m5 m6 th n : Nat) (bg : Bool) (tn sl : Nat) (ht sn : Nat → Nat) (o nx kp : Nat → Bool) (ow : Nat → Nat) (hn : n ≤ 5) (hsn : ∀ p, p < 5 → sn p < 32) (hht : ∀ p, p < 5 → ht p < 3) (htn : tn < 2 ^ 20) : Mi l yX2_turnsUntilAllCertain ws_X2_turnsUntilAllCertain 6 139 (dC, dI) (tyL cI cZ cJ) [.ref m0] (mW cI cZ m0 m1 m2 m3 m4 m5 m6 th n bg tn sl ht sn o nx kp ow) (fun r u => r = oI (findF (fun i => (manyM sn ht (seqM sn n (realN ht n) tn o nx i).1 n n == n)) 41 0) ∧ ∃ (a b : Nat) (nx2 : Nat → Bool) (ow2 : Nat → Nat), ((a = m3 ∧ b = m4) ∨ (a = m4 ∧ b = m3)) ∧ u = mW cI cZ m0 m1 m2 a b m5 m6 0 n bg tn sl ht sn o nx2 o ow2) := by
  refine Mi_of (by decide +kernel) (Nat.le_of_ble_eq_true rfl) ?_
  intro pr ev sx mi ag bl me cd Q ls S hP hK hD hZ hl ret
  obtain ⟨hx, hb, hml, hown, hts⟩ := id S
  have hown : sx.vm.findClass RX2 = some mi.cls := hown
  have hS : va_S (wIn (mW cI cZ m0 m1 m2 m3 m4 m5 m6 th n bg tn sl ht sn o nx kp ow)) sx.heap sx.heap [] := va_S.rf
  have hl : lv_has ls 1 [(0, .ref m0)] := hl
  refine lv_aload_n hx hb dX2_turnsUntilAllCertain_0 rfl (lv_at hl 0 rfl) ?_
  refine lv_aload_n hx hb dX2_turnsUntilAllCertain_1 rfl (lv_at hl 0 rfl) ?_
  refine lv_iconst (v := (-1)) hx hb dX2_turnsUntilAllCertain_2 (by decide) ?_
  refine call_Vi (As := [.int (-1)]) (wr := []) (rest := [.ref m0]) S (m_X2_until_a m0 m1 m2 m3 m4 m5 m6 th n bg tn sl ht sn o nx kp ow hn hsn hht htn) g_X2_X2_until hd_X2_until ⟨Nat.le_of_ble_eq_true rfl, Nat.le_of_ble_eq_true rfl⟩ ⟨Nat.zero_le _, Nat.zero_le _⟩ hP hD hK hS hZ [0, 1, 2, 3, 4, 5, 6] [] rfl rfl (by decide) 0 rfl rfl hl.1 rfl (Nat.le_of_ble_eq_true rfl) dX2_turnsUntilAllCertain_3 (fun r u H locs hq hP hD hS => ?_)
  obtain ⟨rfl, a5, b5, nx5, ow5, hab5, rfl⟩ := hq
  have hP : va_P (dC, dI) vwCl (mW cI cZ m0 m1 m2 a5 b5 m5 m6 th n bg tn sl ht sn o nx5 o ow5) H := hP
  have hD : va_D (wIn (mW cI cZ m0 m1 m2 m3 m4 m5 m6 th n bg tn sl ht sn o nx kp ow)) (mW cI cZ m0 m1 m2 a5 b5 m5 m6 th n bg tn sl ht sn o nx5 o ow5) := hD
  refine call_Vi (As := [.int (oI (findF (fun i => (manyM sn ht (seqM sn n (realN ht n) tn o nx i).1 n n == n)) 41 0))]) (wr := []) (rest := []) S (m_X2_told m0 m1 m2 a5 b5 m5 m6 th n bg tn sl ht sn o nx5 o ow5 (oI (findF (fun i => (manyM sn ht (seqM sn n (realN ht n) tn o nx i).1 n n == n)) 41 0))) g_X2_X2_told hd_X2_told ⟨Nat.le_of_ble_eq_true rfl, Nat.le_of_ble_eq_true rfl⟩ ⟨Nat.zero_le _, Nat.zero_le _⟩ hP hD hK hS hZ [0, 1, 2, 3, 4, 5, 6] [] rfl rfl (by decide) 0 rfl rfl hl.1 rfl (Nat.le_of_ble_eq_true rfl) dX2_turnsUntilAllCertain_6 (fun r u H locs hq hP hD hS => ?_)
  obtain ⟨rfl, rfl⟩ := hq
  have hP : va_P (dC, dI) vwCl (mW cI cZ m0 m1 m2 a5 b5 m5 m6 0 n bg tn sl ht sn o nx5 o ow5) H := hP
  have hD : va_D (wIn (mW cI cZ m0 m1 m2 m3 m4 m5 m6 th n bg tn sl ht sn o nx kp ow)) (mW cI cZ m0 m1 m2 a5 b5 m5 m6 0 n bg tn sl ht sn o nx5 o ow5) := hD
  exact ret _ (mW cI cZ m0 m1 m2 a5 b5 m5 m6 0 n bg tn sl ht sn o nx5 o ow5) _ _ _ _ dX2_turnsUntilAllCertain_9 rfl ⟨rfl, a5, b5, _, _, hab5, rfl⟩ (ab_perm hab5) hP hS

set_option maxHeartbeats 4000000 in
set_option maxRecDepth 100000 in
theorem m_X2_bestToName (m0 m1 m2 m3 m4 m5 m6 th n : Nat) (bg : Bool) (tn sl : Nat) (ht sn : Nat → Nat) (o nx kp : Nat → Bool) (ow : Nat → Nat) (hn : n ≤ 5) (hsn : ∀ p, p < 5 → sn p < 32) (hht : ∀ p, p < 5 → ht p < 3) : Mi l yX2_bestToName ws_X2_bestToName 3 70 (dC, dI) (tyL cI cZ cJ) [.ref m0] (mW cI cZ m0 m1 m2 m3 m4 m5 m6 th n bg tn sl ht sn o nx kp ow) (fun r u => r = oI (bstM ht o n 3).1 ∧ u = mW cI cZ m0 m1 m2 m3 m4 m5 m6 0 n bg tn sl ht sn o nx kp ow) := by
  refine Mi_of (by decide +kernel) (Nat.le_of_ble_eq_true rfl) ?_
  intro pr ev sx mi ag bl me cd Q ls S hP hK hD hZ hl ret
  obtain ⟨hx, hb, hml, hown, hts⟩ := id S
  have hown : sx.vm.findClass RX2 = some mi.cls := hown
  have hS : va_S (wIn (mW cI cZ m0 m1 m2 m3 m4 m5 m6 th n bg tn sl ht sn o nx kp ow)) sx.heap sx.heap [] := va_S.rf
  have hl : lv_has ls 1 [(0, .ref m0)] := hl
  refine lv_aload_n hx hb dX2_bestToName_0 rfl (lv_at hl 0 rfl) ?_
  refine lv_aload_n hx hb dX2_bestToName_1 rfl (lv_at hl 0 rfl) ?_
  refine call_Vp (As := []) (rest := [.ref m0]) S (m_X2_best m0 m1 m2 m3 m4 m5 m6 th n bg tn sl ht sn o nx kp ow  hn hsn hht) g_X2_X2_best hd_X2_best ⟨Nat.le_of_ble_eq_true rfl, Nat.le_of_ble_eq_true rfl⟩ ⟨Nat.zero_le _, Nat.zero_le _⟩ hP hD hK hS hZ [0, 1, 2, 3, 4, 5, 6] rfl (by decide) 0 rfl rfl hl.1 rfl (Nat.le_of_ble_eq_true rfl) dX2_bestToName_2 (fun r H locs hq hP hS => ?_)
  obtain rfl := hq
  refine call_Vi (As := [.int (oI (bstM ht o n 3).1)]) (wr := []) (rest := []) S (m_X2_told m0 m1 m2 m3 m4 m5 m6 th n bg tn sl ht sn o nx kp ow (oI (bstM ht o n 3).1)) g_X2_X2_told hd_X2_told ⟨Nat.le_of_ble_eq_true rfl, Nat.le_of_ble_eq_true rfl⟩ ⟨Nat.zero_le _, Nat.zero_le _⟩ hP hD hK hS hZ [0, 1, 2, 3, 4, 5, 6] [] rfl rfl (by decide) 0 rfl rfl hl.1 rfl (Nat.le_of_ble_eq_true rfl) dX2_bestToName_5 (fun r u H locs hq hP hD hS => ?_)
  obtain ⟨rfl, rfl⟩ := hq
  have hP : va_P (dC, dI) vwCl (mW cI cZ m0 m1 m2 m3 m4 m5 m6 0 n bg tn sl ht sn o nx kp ow) H := hP
  have hD : va_D (wIn (mW cI cZ m0 m1 m2 m3 m4 m5 m6 th n bg tn sl ht sn o nx kp ow)) (mW cI cZ m0 m1 m2 m3 m4 m5 m6 0 n bg tn sl ht sn o nx kp ow) := hD
  exact ret _ (mW cI cZ m0 m1 m2 m3 m4 m5 m6 0 n bg tn sl ht sn o nx kp ow) _ _ _ _ dX2_bestToName_8 rfl ⟨rfl, rfl⟩ (List.Perm.refl _) hP hS

set_option maxHeartbeats 4000000 in
set_option maxRecDepth 100000 in
theorem m_X2_certainIfTold (m0 m1 m2 m3 m4 m5 m6 th n : Nat) (bg : Bool) (tn sl : Nat) (ht sn : Nat → Nat) (o nx kp : Nat → Bool) (ow : Nat → Nat) (j : Nat) (hn : n ≤ 5) (hsn : ∀ p, p < 5 → sn p < 32) (hht : ∀ p, p < 5 → ht p < 3) (hj : j < n) : Mi l yX2_certainIfTold ws_X2_certainIfTold 6 138 (dC, dI) (tyL cI cZ cJ) [.ref m0, .int (nI j)] (mW cI cZ m0 m1 m2 m3 m4 m5 m6 th n bg tn sl ht sn o nx kp ow) (fun r u => r = nI (manyM sn ht (mix (toldF ht o j) o (3 ^ n)) n n) ∧ u = mW cI cZ m0 m1 m2 m3 m4 m5 m6 0 n bg tn sl ht sn o nx o ow) := by
  refine Mi_of (by decide +kernel) (Nat.le_of_ble_eq_true rfl) ?_
  intro pr ev sx mi ag bl me cd Q ls S hP hK hD hZ hl ret
  obtain ⟨hx, hb, hml, hown, hts⟩ := id S
  have hown : sx.vm.findClass RX2 = some mi.cls := hown
  have hS : va_S (wIn (mW cI cZ m0 m1 m2 m3 m4 m5 m6 th n bg tn sl ht sn o nx kp ow)) sx.heap sx.heap [] := va_S.rf
  have hl : lv_has ls 2 [(0, .ref m0), (1, .int (nI j))] := hl
  refine lv_aload_n hx hb dX2_certainIfTold_0 rfl (lv_at hl 0 rfl) ?_
  refine lv_iconst (v := nI 0) hx hb dX2_certainIfTold_1 (by decide) ?_
  refine va_put (D := (dC, dI)) (ci := 2) (v := .int (nI 0)) (ty := .int) (C := RX2) (T := TX2) (N := 11) hx hb hts inX2 tyX2 tyX2_ok nmX2 hown hK hP hD hS 0 rfl rfl 0 (by decide) (hts _ q_fl_X2_29) (fun _ h9 => h9) rfl (by decide +kernel) rfl rfl (Nat.le_of_ble_eq_true rfl) dX2_certainIfTold_2 (fun H locs hP hD hS => ?_)
  have hP : va_P (dC, dI) vwCl (mW cI cZ m0 m1 m2 m3 m4 m5 m6 0 n bg tn sl ht sn o nx kp ow) H := hP
  have hD : va_D (wIn (mW cI cZ m0 m1 m2 m3 m4 m5 m6 th n bg tn sl ht sn o nx kp ow)) (mW cI cZ m0 m1 m2 m3 m4 m5 m6 0 n bg tn sl ht sn o nx kp ow) := hD
  refine lv_aload_n hx hb dX2_certainIfTold_5 rfl (lv_at hl 0 rfl) ?_
  refine lv_iload_n hx hb dX2_certainIfTold_6 rfl (lv_at hl 1 rfl) ?_
  refine call_Vp (As := [.int (nI j)]) (rest := []) S (m_X2_isPlayer_t m0 m1 m2 m3 m4 m5 m6 0 n bg tn sl ht sn o nx kp ow j hn (by omega)) g_X2_X2_isPlayer hd_X2_isPlayer ⟨Nat.le_of_ble_eq_true rfl, Nat.le_of_ble_eq_true rfl⟩ ⟨Nat.zero_le _, Nat.zero_le _⟩ hP hD hK hS hZ [0, 1, 2, 3, 4, 5, 6] rfl (by decide) 0 rfl rfl hl.1 rfl (Nat.le_of_ble_eq_true rfl) dX2_certainIfTold_7 (fun r H locs hq hP hS => ?_)
  obtain rfl := hq
  refine ifB_eq (tgt := 21) hx hb dX2_certainIfTold_10 (by decide) (fun c_10 => absurd c_10 (by decide)) (fun c_10 => ?_)
  refine lv_aload_n hx hb dX2_certainIfTold_13 rfl (lv_at hl 0 rfl) ?_
  refine lv_iload_n hx hb dX2_certainIfTold_14 rfl (lv_at hl 1 rfl) ?_
  refine call_Vi (As := [.int (nI j)]) (wr := []) (rest := []) S (m_X2_ifTold m0 m1 m2 m3 m4 m5 m6 0 n bg tn sl ht sn o nx kp ow j hn hsn hht (by omega)) g_X2_X2_ifTold hd_X2_ifTold ⟨Nat.le_of_ble_eq_true rfl, Nat.le_of_ble_eq_true rfl⟩ ⟨Nat.zero_le _, Nat.zero_le _⟩ hP hD hK hS hZ [0, 1, 2, 3, 4, 5, 6] [] rfl rfl (by decide) 0 rfl rfl hl.1 rfl (Nat.le_of_ble_eq_true rfl) dX2_certainIfTold_15 (fun r u H locs hq hP hD hS => ?_)
  obtain ⟨rfl, rfl⟩ := hq
  have hP : va_P (dC, dI) vwCl (mW cI cZ m0 m1 m2 m3 m4 m5 m6 0 n bg tn sl ht sn o nx o ow) H := hP
  have hD : va_D (wIn (mW cI cZ m0 m1 m2 m3 m4 m5 m6 th n bg tn sl ht sn o nx kp ow)) (mW cI cZ m0 m1 m2 m3 m4 m5 m6 0 n bg tn sl ht sn o nx o ow) := hD
  refine lv_goto (tgt := 26) hx hb dX2_certainIfTold_18 (by decide) ?_
  exact ret _ (mW cI cZ m0 m1 m2 m3 m4 m5 m6 0 n bg tn sl ht sn o nx o ow) _ _ _ _ dX2_certainIfTold_26 rfl ⟨rfl, rfl⟩ (List.Perm.refl _) hP hS

set_option maxHeartbeats 4000000 in
set_option maxRecDepth 100000 in
theorem mf_X2_certainIfTold_a (m0 m1 m2 m3 m4 m5 m6 th n : Nat) (bg : Bool) (tn sl : Nat) (ht sn : Nat → Nat) (o nx kp : Nat → Bool) (ow : Nat → Nat) (a0 : Int32) (hn : n ≤ 5) (ha0 : ∀ j, j < n → a0 ≠ nI j) : Mi l yX2_certainIfTold ws_X2_certainIfTold 2 43 (dC, dI) (tyL cI cZ cJ) [.ref m0, .int a0] (mW cI cZ m0 m1 m2 m3 m4 m5 m6 th n bg tn sl ht sn o nx kp ow) (fun r u => u = mW cI cZ m0 m1 m2 m3 m4 m5 m6 1 n bg tn sl ht sn o nx kp ow) := by
  refine Mi_of (by decide +kernel) (Nat.le_of_ble_eq_true rfl) ?_
  intro pr ev sx mi ag bl me cd Q ls S hP hK hD hZ hl ret
  obtain ⟨hx, hb, hml, hown, hts⟩ := id S
  have hown : sx.vm.findClass RX2 = some mi.cls := hown
  have hS : va_S (wIn (mW cI cZ m0 m1 m2 m3 m4 m5 m6 th n bg tn sl ht sn o nx kp ow)) sx.heap sx.heap [] := va_S.rf
  have hl : lv_has ls 2 [(0, .ref m0), (1, .int a0)] := hl
  refine lv_aload_n hx hb dX2_certainIfTold_0 rfl (lv_at hl 0 rfl) ?_
  refine lv_iconst (v := nI 0) hx hb dX2_certainIfTold_1 (by decide) ?_
  refine va_put (D := (dC, dI)) (ci := 2) (v := .int (nI 0)) (ty := .int) (C := RX2) (T := TX2) (N := 11) hx hb hts inX2 tyX2 tyX2_ok nmX2 hown hK hP hD hS 0 rfl rfl 0 (by decide) (hts _ q_fl_X2_29) (fun _ h9 => h9) rfl (by decide +kernel) rfl rfl (Nat.le_of_ble_eq_true rfl) dX2_certainIfTold_2 (fun H locs hP hD hS => ?_)
  have hP : va_P (dC, dI) vwCl (mW cI cZ m0 m1 m2 m3 m4 m5 m6 0 n bg tn sl ht sn o nx kp ow) H := hP
  have hD : va_D (wIn (mW cI cZ m0 m1 m2 m3 m4 m5 m6 th n bg tn sl ht sn o nx kp ow)) (mW cI cZ m0 m1 m2 m3 m4 m5 m6 0 n bg tn sl ht sn o nx kp ow) := hD
  refine lv_aload_n hx hb dX2_certainIfTold_5 rfl (lv_at hl 0 rfl) ?_
  refine lv_iload_n hx hb dX2_certainIfTold_6 rfl (lv_at hl 1 rfl) ?_
  refine call_Vp (As := [.int a0]) (rest := []) S (m_X2_isPlayer_f m0 m1 m2 m3 m4 m5 m6 0 n bg tn sl ht sn o nx kp ow a0 hn ha0) g_X2_X2_isPlayer hd_X2_isPlayer ⟨Nat.le_of_ble_eq_true rfl, Nat.le_of_ble_eq_true rfl⟩ ⟨Nat.zero_le _, Nat.zero_le _⟩ hP hD hK hS hZ [0, 1, 2, 3, 4, 5, 6] rfl (by decide) 0 rfl rfl hl.1 rfl (Nat.le_of_ble_eq_true rfl) dX2_certainIfTold_7 (fun r H locs hq hP hS => ?_)
  obtain rfl := hq
  refine ifB_eq (tgt := 21) hx hb dX2_certainIfTold_10 (by decide) (fun c_10 => ?_) (fun c_10 => absurd c_10 (by decide))
  refine lv_aload_n hx hb dX2_certainIfTold_21 rfl (lv_at hl 0 rfl) ?_
  refine lv_iconst (v := nI 1) hx hb dX2_certainIfTold_22 (by decide) ?_
  refine call_Vi (As := [.int (nI 1)]) (wr := []) (rest := []) S (m_X2_fail m0 m1 m2 m3 m4 m5 m6 0 n bg tn sl ht sn o nx kp ow 1 ) g_X2_X2_fail hd_X2_fail ⟨Nat.le_of_ble_eq_true rfl, Nat.le_of_ble_eq_true rfl⟩ ⟨Nat.zero_le _, Nat.zero_le _⟩ hP hD hK hS hZ [0, 1, 2, 3, 4, 5, 6] [] rfl rfl (by decide) 0 rfl rfl hl.1 rfl (Nat.le_of_ble_eq_true rfl) dX2_certainIfTold_23 (fun r u H locs hq hP hD hS => ?_)
  obtain ⟨rfl, rfl⟩ := hq
  have hP : va_P (dC, dI) vwCl (mW cI cZ m0 m1 m2 m3 m4 m5 m6 1 n bg tn sl ht sn o nx kp ow) H := hP
  have hD : va_D (wIn (mW cI cZ m0 m1 m2 m3 m4 m5 m6 th n bg tn sl ht sn o nx kp ow)) (mW cI cZ m0 m1 m2 m3 m4 m5 m6 1 n bg tn sl ht sn o nx kp ow) := hD
  exact ret _ (mW cI cZ m0 m1 m2 m3 m4 m5 m6 1 n bg tn sl ht sn o nx kp ow) _ _ _ _ dX2_certainIfTold_26 rfl rfl (List.Perm.refl _) hP hS

def sumM (sn ht : Nat → Nat) (o : Nat → Bool) (n : Nat) : Nat → Nat
  | 0 => 0
  | p + 1 => sumM sn ht o n p + possM sn ht o n p
theorem sumM_le (sn ht : Nat → Nat) (o : Nat → Bool) (n : Nat) (hn : n ≤ 5) : ∀ p, sumM sn ht o n p ≤ p * 243
  | 0 => by simp [sumM]
  | p + 1 => by
    have h1 := sumM_le sn ht o n hn p
    have h2 := cntP_le (fun w => o w && viewN sn p w n == viewN sn p (realN ht n) n) (3 ^ n)
    have h3 := p3_243 n hn
    simp only [sumM, possM, Nat.succ_mul]; omega
set_option maxHeartbeats 4000000 in
set_option maxRecDepth 100000 in
theorem m_X2_meanPossible (m0 m1 m2 m3 m4 m5 m6 th n : Nat) (bg : Bool) (tn sl : Nat) (ht sn : Nat → Nat) (o nx kp : Nat → Bool) (ow : Nat → Nat) (hn : n ≤ 5) (hsn : ∀ p, p < 5 → sn p < 32) (hht : ∀ p, p < 5 → ht p < 3) : Md l yX2_meanPossible ws_X2_meanPossible 3 71 (dC, dI) (tyL cI cZ cJ) [.ref m0] (mW cI cZ m0 m1 m2 m3 m4 m5 m6 th n bg tn sl ht sn o nx kp ow) (fun r u => r = meanN n (sumM sn ht o n n) ∧ u = mW cI cZ m0 m1 m2 m3 m4 m5 m6 0 n bg tn sl ht sn o nx kp ow) := by
  refine Md_of (by decide +kernel) (Nat.le_of_ble_eq_true rfl) ?_
  intro pr ev sx mi ag bl me cd Q ls S hP hK hD hZ hl ret
  obtain ⟨hx, hb, hml, hown, hts⟩ := id S
  have hown : sx.vm.findClass RX2 = some mi.cls := hown
  have hS : va_S (wIn (mW cI cZ m0 m1 m2 m3 m4 m5 m6 th n bg tn sl ht sn o nx kp ow)) sx.heap sx.heap [] := va_S.rf
  have hl : lv_has ls 3 [(0, .ref m0)] := hl
  refine lv_aload_n hx hb dX2_meanPossible_0 rfl (lv_at hl 0 rfl) ?_
  refine lv_iconst (v := nI 0) hx hb dX2_meanPossible_1 (by decide) ?_
  refine va_put (D := (dC, dI)) (ci := 2) (v := .int (nI 0)) (ty := .int) (C := RX2) (T := TX2) (N := 11) hx hb hts inX2 tyX2 tyX2_ok nmX2 hown hK hP hD hS 0 rfl rfl 0 (by decide) (hts _ q_fl_X2_29) (fun _ h9 => h9) rfl (by decide +kernel) rfl rfl (Nat.le_of_ble_eq_true rfl) dX2_meanPossible_2 (fun H locs hP hD hS => ?_)
  have hP : va_P (dC, dI) vwCl (mW cI cZ m0 m1 m2 m3 m4 m5 m6 0 n bg tn sl ht sn o nx kp ow) H := hP
  have hD : va_D (wIn (mW cI cZ m0 m1 m2 m3 m4 m5 m6 th n bg tn sl ht sn o nx kp ow)) (mW cI cZ m0 m1 m2 m3 m4 m5 m6 0 n bg tn sl ht sn o nx kp ow) := hD
  refine lv_iconst (v := nI 0) hx hb dX2_meanPossible_5 (by decide) ?_
  refine lv_istore_n (lv' := [(1, .int (nI 0)), (0, .ref m0)]) hx hb dX2_meanPossible_6 rfl hl (by decide) rfl (fun ls hl => ?_)
  refine lv_iconst (v := nI 0) hx hb dX2_meanPossible_7 (by decide) ?_
  refine lv_istore_n (lv' := [(2, .int (nI 0)), (1, .int (nI 0)), (0, .ref m0)]) hx hb dX2_meanPossible_8 rfl hl (by decide) rfl (fun ls hl => ?_)
  have lp9 : ∀ (kf : Nat) (i : Nat) (a : Nat), n < i + kf → (i ≤ n) → (a = sumM sn ht o n i) → ∀ (H : Heap) (locs : List Loc), va_P (dC, dI) vwCl (mW cI cZ m0 m1 m2 m3 m4 m5 m6 0 n bg tn sl ht sn o nx kp ow) H → va_D (wIn (mW cI cZ m0 m1 m2 m3 m4 m5 m6 th n bg tn sl ht sn o nx kp ow)) (mW cI cZ m0 m1 m2 m3 m4 m5 m6 0 n bg tn sl ht sn o nx kp ow) → va_S (wIn (mW cI cZ m0 m1 m2 m3 m4 m5 m6 th n bg tn sl ht sn o nx kp ow)) sx.heap H locs → ∀ ls : Array Slot, lv_has ls 3 [(2, .int (nI i)), (1, .int (nI a)), (0, .ref m0)] → W pr l ev (rmB 3 71) sx mi ag bl me cd H locs 0 0 Q (F0 mi 9 ls []) := by
    intro kf
    induction kf with
    | zero => intro i a hkf hi ha; exact absurd hkf (by omega)
    | succ kf ih9 =>
      intro i a hkf hi ha H locs hP hD hS ls hl
      refine lv_iload_n hx hb dX2_meanPossible_9 rfl (lv_at hl 0 rfl) ?_
      refine lv_aload_n hx hb dX2_meanPossible_10 rfl (lv_at hl 2 rfl) ?_
      refine va_get (D := (dC, dI)) (ci := 2) (v := .int (nI n)) (C := RX2) (T := TX2) (N := 11) hx hb hts inX2 hown hK hP 0 rfl rfl 1 (by decide) (hts _ q_fl_X2_33) (fun _ h9 => h9) rfl dX2_meanPossible_11 ?_
      refine icN_ge (tgt := 31) hx hb dX2_meanPossible_14 (by decide) (by omega) (by omega) (fun c_14 => ?_) (fun c_14 => ?_)
      · refine lv_aload_n hx hb dX2_meanPossible_31 rfl (lv_at hl 2 rfl) ?_
        refine va_get (D := (dC, dI)) (ci := 2) (v := .int (nI n)) (C := RX2) (T := TX2) (N := 11) hx hb hts inX2 hown hK hP 0 rfl rfl 1 (by decide) (hts _ q_fl_X2_33) (fun _ h9 => h9) rfl dX2_meanPossible_32 ?_
        refine ifN_ne (tgt := 42) hx hb dX2_meanPossible_35 (by decide) (by omega) (fun c_35 => ?_) (fun c_35 => ?_)
        · refine lv_iload_n hx hb dX2_meanPossible_42 rfl (lv_at hl 1 rfl) ?_
          refine lv_i2d hx hb dX2_meanPossible_43 ?_
          refine lv_aload_n hx hb dX2_meanPossible_44 rfl (lv_at hl 2 rfl) ?_
          refine va_get (D := (dC, dI)) (ci := 2) (v := .int (nI n)) (C := RX2) (T := TX2) (N := 11) hx hb hts inX2 hown hK hP 0 rfl rfl 1 (by decide) (hts _ q_fl_X2_33) (fun _ h9 => h9) rfl dX2_meanPossible_45 ?_
          refine lv_i2d hx hb dX2_meanPossible_48 ?_
          refine lv_ddiv hx hb dX2_meanPossible_49 (ddiv_ok (by omega) hn (by rw [ha, show i = n by omega]; exact sumM_le sn ht o n hn n)) ?_
          exact ret _ (mW cI cZ m0 m1 m2 m3 m4 m5 m6 0 n bg tn sl ht sn o nx kp ow) _ _ _ _ dX2_meanPossible_50 ⟨by rw [meanN, if_neg c_35, ha, show i = n by omega], rfl⟩ (List.Perm.refl _) hP hS
        · refine lv_dconst0 hx hb dX2_meanPossible_38 ?_
          refine lv_goto (tgt := 50) hx hb dX2_meanPossible_39 (by decide) ?_
          exact ret _ (mW cI cZ m0 m1 m2 m3 m4 m5 m6 0 n bg tn sl ht sn o nx kp ow) _ _ _ _ dX2_meanPossible_50 ⟨by rw [meanN, if_pos c_35], rfl⟩ (List.Perm.refl _) hP hS
      · refine lv_iload_n hx hb dX2_meanPossible_17 rfl (lv_at hl 1 rfl) ?_
        refine lv_aload_n hx hb dX2_meanPossible_18 rfl (lv_at hl 2 rfl) ?_
        refine lv_iload_n hx hb dX2_meanPossible_19 rfl (lv_at hl 0 rfl) ?_
        refine call_Vp (As := [.int (nI i)]) (rest := [.int (nI a)]) S (m_X2_possible m0 m1 m2 m3 m4 m5 m6 0 n bg tn sl ht sn o nx kp ow i hn hsn hht (by omega)) g_X2_X2_possible hd_X2_possible ⟨Nat.le_of_ble_eq_true rfl, Nat.le_of_ble_eq_true rfl⟩ ⟨Nat.zero_le _, Nat.zero_le _⟩ hP hD hK hS hZ [0, 1, 2, 3, 4, 5, 6] rfl (by decide) 0 rfl rfl hl.1 rfl (Nat.le_of_ble_eq_true rfl) dX2_meanPossible_20 (fun r H locs hq hP hS => ?_)
        obtain rfl := hq
        refine lv_iadd hx hb dX2_meanPossible_23 ?_
        refine W_i (y := nI (a + (possM sn ht o n i))) (nI_add _ _) ?_
        refine lv_istore_n (lv' := [(1, .int (nI (a + (possM sn ht o n i)))), (2, .int (nI i)), (0, .ref m0)]) hx hb dX2_meanPossible_24 rfl hl (by decide) rfl (fun ls hl => ?_)
        refine lv_iinc (v := nI (i + 1)) (lv' := [(2, .int (nI (i + 1))), (1, .int (nI (a + (possM sn ht o n i)))), (0, .ref m0)]) hx hb dX2_meanPossible_25 hl (k := 1) rfl (nI_add _ _) (by decide) rfl (fun ls hl => ?_)
        refine lv_goto (tgt := 9) hx hb dX2_meanPossible_28 (by decide) ?_
        exact ih9 (i + 1) _ (by omega) (by omega) (by rw [ha]; rfl) _ _ hP hD hS _ (lv_sub hl [0, 1, 2] rfl)
  exact lp9 (n + 1) 0 0 (by omega) (by omega) rfl _ _ hP hD hS _ (lv_sub hl [0, 1, 2] rfl)

end
