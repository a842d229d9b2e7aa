section
-- ===== PART A: goes FIRST, ahead of the names: the tables' words, and 'selects' of the private methods out of them =====
/-- a private method of a class that the tables say can be made, by its rows of tables_1 -/
def lw_okq (q : MethodName × Nat) : Prop := (q.1.cls ≠ "java/lang/invoke/MethodHandle" ∧ q.1.cls ≠ "java/lang/invoke/VarHandle") ∧ Cond.instantiable q.1.cls q.2 ∈ tables_1 ∧ Cond.privateMethod q.1 ∈ tables_1 ∧ Cond.instanceMethod q.1 ∈ tables_1
theorem lw_p0 : lw_okq (⟨"BorrowedHats", "requireSomePlayer", "()V"⟩, 10) := ⟨⟨by decide +kernel, by decide +kernel⟩, List.mem_of_getElem? (i := 13) (by decide +kernel), List.mem_of_getElem? (i := 74) (by decide +kernel), List.mem_of_getElem? (i := 75) (by decide +kernel)⟩
theorem lw_p1 : lw_okq (⟨"java/lang/Throwable", "fillInStackTrace", "(I)Ljava/lang/Throwable;"⟩, 6) := ⟨⟨by decide +kernel, by decide +kernel⟩, List.mem_of_getElem? (i := 116) (by decide +kernel), List.mem_of_getElem? (i := 114) (by decide +kernel), List.mem_of_getElem? (i := 115) (by decide +kernel)⟩
theorem lw_p2 : lw_okq (⟨"BorrowedHats", "passTurn", "(LBorrowedHats$Ways;I)Z"⟩, 10) := ⟨⟨by decide +kernel, by decide +kernel⟩, List.mem_of_getElem? (i := 13) (by decide +kernel), List.mem_of_getElem? (i := 146) (by decide +kernel), List.mem_of_getElem? (i := 147) (by decide +kernel)⟩
theorem lw_p3 : lw_okq (⟨"BorrowedHats", "isCertainBy", "(LBorrowedHats$Ways;I)Z"⟩, 10) := ⟨⟨by decide +kernel, by decide +kernel⟩, List.mem_of_getElem? (i := 13) (by decide +kernel), List.mem_of_getElem? (i := 150) (by decide +kernel), List.mem_of_getElem? (i := 151) (by decide +kernel)⟩
theorem lw_p4 : lw_okq (⟨"BorrowedHats", "possibleColours", "(LBorrowedHats$Ways;II)I"⟩, 10) := ⟨⟨by decide +kernel, by decide +kernel⟩, List.mem_of_getElem? (i := 13) (by decide +kernel), List.mem_of_getElem? (i := 154) (by decide +kernel), List.mem_of_getElem? (i := 155) (by decide +kernel)⟩
theorem lw_p5 : lw_okq (⟨"BorrowedHats", "seenHatsOf", "(I)I"⟩, 10) := ⟨⟨by decide +kernel, by decide +kernel⟩, List.mem_of_getElem? (i := 13) (by decide +kernel), List.mem_of_getElem? (i := 158) (by decide +kernel), List.mem_of_getElem? (i := 159) (by decide +kernel)⟩
theorem lw_p6 : lw_okq (⟨"BorrowedHats", "agreesWithNow", "(II)Z"⟩, 10) := ⟨⟨by decide +kernel, by decide +kernel⟩, List.mem_of_getElem? (i := 13) (by decide +kernel), List.mem_of_getElem? (i := 170) (by decide +kernel), List.mem_of_getElem? (i := 171) (by decide +kernel)⟩
theorem lw_p7 : lw_okq (⟨"BorrowedHats", "keepByCertainty", "(LBorrowedHats$Ways;IZ)V"⟩, 10) := ⟨⟨by decide +kernel, by decide +kernel⟩, List.mem_of_getElem? (i := 13) (by decide +kernel), List.mem_of_getElem? (i := 186) (by decide +kernel), List.mem_of_getElem? (i := 187) (by decide +kernel)⟩
theorem lw_p8 : lw_okq (⟨"BorrowedHats", "noteOwnColours", "(LBorrowedHats$Ways;I)V"⟩, 10) := ⟨⟨by decide +kernel, by decide +kernel⟩, List.mem_of_getElem? (i := 13) (by decide +kernel), List.mem_of_getElem? (i := 190) (by decide +kernel), List.mem_of_getElem? (i := 191) (by decide +kernel)⟩
theorem lw_p9 : lw_okq (⟨"BorrowedHats", "viewOf", "(II)I"⟩, 10) := ⟨⟨by decide +kernel, by decide +kernel⟩, List.mem_of_getElem? (i := 13) (by decide +kernel), List.mem_of_getElem? (i := 194) (by decide +kernel), List.mem_of_getElem? (i := 195) (by decide +kernel)⟩
theorem lw_p10 : lw_okq (⟨"BorrowedHats", "setOwnColours", "(II)V"⟩, 10) := ⟨⟨by decide +kernel, by decide +kernel⟩, List.mem_of_getElem? (i := 13) (by decide +kernel), List.mem_of_getElem? (i := 198) (by decide +kernel), List.mem_of_getElem? (i := 199) (by decide +kernel)⟩
theorem lw_p11 : lw_okq (⟨"BorrowedHats", "ownColours", "(I)I"⟩, 10) := ⟨⟨by decide +kernel, by decide +kernel⟩, List.mem_of_getElem? (i := 13) (by decide +kernel), List.mem_of_getElem? (i := 202) (by decide +kernel), List.mem_of_getElem? (i := 203) (by decide +kernel)⟩
theorem lw_p12 : lw_okq (⟨"BorrowedHats", "wouldBeCertain", "(II)Z"⟩, 10) := ⟨⟨by decide +kernel, by decide +kernel⟩, List.mem_of_getElem? (i := 13) (by decide +kernel), List.mem_of_getElem? (i := 210) (by decide +kernel), List.mem_of_getElem? (i := 211) (by decide +kernel)⟩
theorem lw_p13 : lw_okq (⟨"BorrowedHats", "playerAfter", "(I)I"⟩, 10) := ⟨⟨by decide +kernel, by decide +kernel⟩, List.mem_of_getElem? (i := 13) (by decide +kernel), List.mem_of_getElem? (i := 217) (by decide +kernel), List.mem_of_getElem? (i := 218) (by decide +kernel)⟩
theorem lw_p14 : lw_okq (⟨"BorrowedHats", "requirePlayer", "(I)V"⟩, 10) := ⟨⟨by decide +kernel, by decide +kernel⟩, List.mem_of_getElem? (i := 13) (by decide +kernel), List.mem_of_getElem? (i := 241) (by decide +kernel), List.mem_of_getElem? (i := 242) (by decide +kernel)⟩
theorem lw_p15 : lw_okq (⟨"BorrowedHats", "seesHat", "(II)Z"⟩, 10) := ⟨⟨by decide +kernel, by decide +kernel⟩, List.mem_of_getElem? (i := 13) (by decide +kernel), List.mem_of_getElem? (i := 265) (by decide +kernel), List.mem_of_getElem? (i := 266) (by decide +kernel)⟩
def lw_privs_1 : List (MethodName × Nat) := [(⟨"BorrowedHats", "requireSomePlayer", "()V"⟩, 10), (⟨"java/lang/Throwable", "fillInStackTrace", "(I)Ljava/lang/Throwable;"⟩, 6), (⟨"BorrowedHats", "passTurn", "(LBorrowedHats$Ways;I)Z"⟩, 10), (⟨"BorrowedHats", "isCertainBy", "(LBorrowedHats$Ways;I)Z"⟩, 10), (⟨"BorrowedHats", "possibleColours", "(LBorrowedHats$Ways;II)I"⟩, 10), (⟨"BorrowedHats", "seenHatsOf", "(I)I"⟩, 10), (⟨"BorrowedHats", "agreesWithNow", "(II)Z"⟩, 10), (⟨"BorrowedHats", "keepByCertainty", "(LBorrowedHats$Ways;IZ)V"⟩, 10), (⟨"BorrowedHats", "noteOwnColours", "(LBorrowedHats$Ways;I)V"⟩, 10), (⟨"BorrowedHats", "viewOf", "(II)I"⟩, 10), (⟨"BorrowedHats", "setOwnColours", "(II)V"⟩, 10), (⟨"BorrowedHats", "ownColours", "(I)I"⟩, 10), (⟨"BorrowedHats", "wouldBeCertain", "(II)Z"⟩, 10), (⟨"BorrowedHats", "playerAfter", "(I)I"⟩, 10), (⟨"BorrowedHats", "requirePlayer", "(I)V"⟩, 10), (⟨"BorrowedHats", "seesHat", "(II)Z"⟩, 10)]
theorem lw_r1 : ∀ q ∈ lw_privs_1, lw_okq q := List.forall_mem_cons.mpr ⟨lw_p0, List.forall_mem_cons.mpr ⟨lw_p1, List.forall_mem_cons.mpr ⟨lw_p2, List.forall_mem_cons.mpr ⟨lw_p3, List.forall_mem_cons.mpr ⟨lw_p4, List.forall_mem_cons.mpr ⟨lw_p5, List.forall_mem_cons.mpr ⟨lw_p6, List.forall_mem_cons.mpr ⟨lw_p7, List.forall_mem_cons.mpr ⟨lw_p8, List.forall_mem_cons.mpr ⟨lw_p9, List.forall_mem_cons.mpr ⟨lw_p10, List.forall_mem_cons.mpr ⟨lw_p11, List.forall_mem_cons.mpr ⟨lw_p12, List.forall_mem_cons.mpr ⟨lw_p13, List.forall_mem_cons.mpr ⟨lw_p14, List.forall_mem_cons.mpr ⟨lw_p15, fun _ h => absurd h List.not_mem_nil⟩⟩⟩⟩⟩⟩⟩⟩⟩⟩⟩⟩⟩⟩⟩⟩
theorem lw_p16 : lw_okq (⟨"BorrowedHats", "hatsIn", "(II)I"⟩, 10) := ⟨⟨by decide +kernel, by decide +kernel⟩, List.mem_of_getElem? (i := 13) (by decide +kernel), List.mem_of_getElem? (i := 283) (by decide +kernel), List.mem_of_getElem? (i := 284) (by decide +kernel)⟩
theorem lw_p17 : lw_okq (⟨"BorrowedHats", "countWithHat", "(II)I"⟩, 10) := ⟨⟨by decide +kernel, by decide +kernel⟩, List.mem_of_getElem? (i := 13) (by decide +kernel), List.mem_of_getElem? (i := 295) (by decide +kernel), List.mem_of_getElem? (i := 296) (by decide +kernel)⟩
theorem lw_p18 : lw_okq (⟨"BorrowedHats", "countPossible", "(I)I"⟩, 10) := ⟨⟨by decide +kernel, by decide +kernel⟩, List.mem_of_getElem? (i := 13) (by decide +kernel), List.mem_of_getElem? (i := 307) (by decide +kernel), List.mem_of_getElem? (i := 308) (by decide +kernel)⟩
theorem lw_p19 : lw_okq (⟨"BorrowedHats", "countCertain", "(LBorrowedHats$Ways;)I"⟩, 10) := ⟨⟨by decide +kernel, by decide +kernel⟩, List.mem_of_getElem? (i := 13) (by decide +kernel), List.mem_of_getElem? (i := 331) (by decide +kernel), List.mem_of_getElem? (i := 332) (by decide +kernel)⟩
theorem lw_p20 : lw_okq (⟨"BorrowedHats", "lookAtEachOther", "(I)V"⟩, 10) := ⟨⟨by decide +kernel, by decide +kernel⟩, List.mem_of_getElem? (i := 13) (by decide +kernel), List.mem_of_getElem? (i := 423) (by decide +kernel), List.mem_of_getElem? (i := 424) (by decide +kernel)⟩
theorem lw_p21 : lw_okq (⟨"BorrowedHats", "setSeenHatsOf", "(II)V"⟩, 10) := ⟨⟨by decide +kernel, by decide +kernel⟩, List.mem_of_getElem? (i := 13) (by decide +kernel), List.mem_of_getElem? (i := 427) (by decide +kernel), List.mem_of_getElem? (i := 428) (by decide +kernel)⟩
theorem lw_p22 : lw_okq (⟨"BorrowedHats", "openColoursOf", "(I)V"⟩, 10) := ⟨⟨by decide +kernel, by decide +kernel⟩, List.mem_of_getElem? (i := 13) (by decide +kernel), List.mem_of_getElem? (i := 431) (by decide +kernel), List.mem_of_getElem? (i := 432) (by decide +kernel)⟩
theorem lw_p23 : lw_okq (⟨"BorrowedHats", "requireTwoPlayers", "(II)V"⟩, 10) := ⟨⟨by decide +kernel, by decide +kernel⟩, List.mem_of_getElem? (i := 13) (by decide +kernel), List.mem_of_getElem? (i := 442) (by decide +kernel), List.mem_of_getElem? (i := 443) (by decide +kernel)⟩
theorem lw_p24 : lw_okq (⟨"BorrowedHats", "sayBetween", "(III)I"⟩, 10) := ⟨⟨by decide +kernel, by decide +kernel⟩, List.mem_of_getElem? (i := 13) (by decide +kernel), List.mem_of_getElem? (i := 486) (by decide +kernel), List.mem_of_getElem? (i := 487) (by decide +kernel)⟩
theorem lw_p25 : lw_okq (⟨"BorrowedHats", "keepWithHats", "(LBorrowedHats$Ways;III)V"⟩, 10) := ⟨⟨by decide +kernel, by decide +kernel⟩, List.mem_of_getElem? (i := 13) (by decide +kernel), List.mem_of_getElem? (i := 491) (by decide +kernel), List.mem_of_getElem? (i := 492) (by decide +kernel)⟩
def lw_privs_2 : List (MethodName × Nat) := [(⟨"BorrowedHats", "hatsIn", "(II)I"⟩, 10), (⟨"BorrowedHats", "countWithHat", "(II)I"⟩, 10), (⟨"BorrowedHats", "countPossible", "(I)I"⟩, 10), (⟨"BorrowedHats", "countCertain", "(LBorrowedHats$Ways;)I"⟩, 10), (⟨"BorrowedHats", "lookAtEachOther", "(I)V"⟩, 10), (⟨"BorrowedHats", "setSeenHatsOf", "(II)V"⟩, 10), (⟨"BorrowedHats", "openColoursOf", "(I)V"⟩, 10), (⟨"BorrowedHats", "requireTwoPlayers", "(II)V"⟩, 10), (⟨"BorrowedHats", "sayBetween", "(III)I"⟩, 10), (⟨"BorrowedHats", "keepWithHats", "(LBorrowedHats$Ways;III)V"⟩, 10)]
theorem lw_r2 : ∀ q ∈ lw_privs_2, lw_okq q := List.forall_mem_cons.mpr ⟨lw_p16, List.forall_mem_cons.mpr ⟨lw_p17, List.forall_mem_cons.mpr ⟨lw_p18, List.forall_mem_cons.mpr ⟨lw_p19, List.forall_mem_cons.mpr ⟨lw_p20, List.forall_mem_cons.mpr ⟨lw_p21, List.forall_mem_cons.mpr ⟨lw_p22, List.forall_mem_cons.mpr ⟨lw_p23, List.forall_mem_cons.mpr ⟨lw_p24, List.forall_mem_cons.mpr ⟨lw_p25, fun _ h => absurd h List.not_mem_nil⟩⟩⟩⟩⟩⟩⟩⟩⟩⟩
def lw_privs : List (MethodName × Nat) := lw_privs_1 ++ (lw_privs_2)
def lw_tbl : List Cond := k2_sels lw_privs ++ tables_1
theorem lw_privs_ok : ∀ q ∈ lw_privs, lw_okq q := by
  show ∀ q ∈ lw_privs_1 ++ (lw_privs_2), lw_okq q
  exact List.forall_mem_append.mpr ⟨lw_r1, lw_r2⟩
/-- the streams that the claim lets the run draw from -/
abbrev lw_cs : List Choice := [Jvm.Choice.named "NaN.bits"]
theorem lw_bits : nanBits ∈ lw_cs := by first | decide | exact List.mem_cons_self | simp [lw_cs, nanBits]
end
section
/-! ===== BEGIN words of one list among another's, by their places ===== -/
theorem goodIn_r {big : List Cond} (ws : List Cond) (ps : List Nat) (hp : ws = ps.filterMap (fun i => big[i]?)) (h : ws.all goodWord = true) : GoodIn big ws := by
  intro w hw
  have h1 := List.all_eq_true.mp h w hw
  rw [hp] at hw
  obtain ⟨i, -, hi⟩ := List.mem_filterMap.mp hw
  have hm : w ∈ big := by first | exact List.mem_of_getElem? hi | exact List.getElem?_mem hi
  exact ⟨hm, good_of_word h1⟩
theorem goodIn_app {big a b : List Cond} (ha : GoodIn big a) (hb : GoodIn big b) : GoodIn big (a ++ b) := fun w h => (List.mem_append.mp h).elim (ha w) (hb w)
theorem goodIn_ca {big a b : List Cond} {c : Cond} (ha : GoodIn big (c :: a)) (hb : GoodIn big b) : GoodIn big (c :: (a ++ b)) := fun w h => (List.mem_cons.mp h).elim (fun e => ha w (List.mem_cons.mpr (Or.inl e))) (fun h => (List.mem_append.mp h).elim (fun h => ha w (List.mem_cons.mpr (Or.inr h))) (hb w))
theorem goodIn_sub {big ws : List Cond} (hm : ∀ w ∈ ws, w ∈ big) (h : ws.all goodWord = true) : GoodIn big ws := fun w hw => ⟨hm w hw, good_of_word (List.all_eq_true.mp h w hw)⟩
/-! ===== END ===== -/

/-- the table's word of an array class over arrays, which the printed rows name -/
def va_AOA (ty : FieldType) (s : State) : Prop := (Cond.arrayOver (.array ty)).before #[] s = true
theorem va_AOA.use {ty : FieldType} {A : Array Value} {s : State} (h : va_AOA ty s) : (Cond.arrayOver (.array ty)).before A s = true := over_moved (Vm.Alike.refl _) h
theorem va_AOA.moved {ty : FieldType} {u U : State} (hvm : u.vm.Alike U.vm) (h : va_AOA ty u) : va_AOA ty U := over_moved hvm h
/-! ===== BEGIN new T[n][m]: the outer array a place, the inner ones among the pooled ===== -/
/-- f, but v at every address of l -/
def vr_up {α : Type} (f : Nat → α) (l : List Nat) (v : α) : Nat → α := fun a => if a ∈ l then v else f a
theorem vr_up_in {α : Type} {f : Nat → α} {l : List Nat} {v : α} {a : Nat} (h : a ∈ l) : vr_up f l v a = v := if_pos h
theorem vr_up_ne {α : Type} {f : Nat → α} {l : List Nat} {v : α} {a : Nat} (h : a ∉ l) : vr_up f l v a = f a := if_neg h
theorem vr_rows {L l : List Nat} {f : Nat → va_E} {e : va_E} (h : ∀ a, a ∈ l → a ∉ L) : va_pl L f ++ l.map (fun a => (a, e)) = va_pl (L ++ l) (vr_up f l e) := by
  unfold va_pl
  rw [List.map_append]
  congr 1
  · apply List.map_congr_left
    intro a ha
    rw [vr_up_ne (fun q => h a q ha)]
  · apply List.map_congr_left
    intro a ha
    rw [vr_up_in ha]
theorem vr_lay {X rows : va_W} {x : Nat × va_E} {pl : va_W} {D : va_G} {cl : List vw_C} {H : Heap} (hP : va_P D cl (((X ++ pl) ++ [x]) ++ rows) H) : va_P D cl ((X ++ [x]) ++ (pl ++ rows)) H := by
  rw [List.append_assoc (X ++ pl)] at hP
  have h := va_P.swap hP
  rw [← List.append_assoc X] at h
  have h2 := va_P.swap h
  rw [List.append_assoc (X ++ [x])] at h2
  exact h2
theorem vr_layD {X rows : va_W} {x : Nat × va_E} {pl : va_W} {A : Nat → Prop} (hD : va_D A (((X ++ pl) ++ [x]) ++ rows)) : va_D A ((X ++ [x]) ++ (pl ++ rows)) := by
  rw [List.append_assoc (X ++ pl)] at hD
  have h := va_D.swap hD
  rw [← List.append_assoc X] at h
  have h2 := va_D.swap h
  rw [List.append_assoc (X ++ [x])] at h2
  exact h2
theorem vr_outer (c : ClassId) (N h0 : Nat) : ∀ i : Nat, Jvm.Free.Multi.outerC c N h0 i = arrV c N (fun j => va_rf (if j < i then some (h0 + 1 + j) else none))
  | 0 => by
    show ({ cls := c, slots := Array.replicate N .null, vm := .none } : Cell) = _
    rw [arrV_new]
    refine congrArg (arrV c N) (funext fun j => ?_)
    simp [va_rf]
  | i + 1 => by
    show (Jvm.Free.Multi.outerC c N h0 i).setSlot i (.ref (h0 + 1 + i)) = _
    rw [vr_outer c N h0 i, arrV_store]
    refine congrArg (arrV c N) (funext fun j => ?_)
    by_cases e : j = i
    · subst e
      simp [updV, va_rf]
    · by_cases h : j < i
      · simp [updV, e, h, Nat.lt_succ_of_lt h]
      · simp [updV, e, h, show ¬ j < i + 1 by omega]
section VGM
variable {p : Program} {l : Launch} {e : Env} {R : Room} {s : State} {m : MethodId} {args : Array Value} {below : List Frame} {meth : Method} {c : Code} {H : Heap} {locs : List Loc} {cells slots : Nat} {Q : State → Prop}
variable {cc : ByteArray} {pc : Nat} {ls : Array Slot} {rest : List Value} {D : va_G} {cl : List vw_C} {A : Nat → Prop} {a : Nat} {tys : List (ClassId × FieldType)} {ws : va_W} {H0 : Heap}
theorem va_mna {X : va_W} {L : List Nat} {f : Nat → va_E} {cc : ByteArray} (hexec : p.tables.exec = Jvm.exec) (hb : c.code = cc) {own : String} {index : Nat} {ty : FieldType} {cy : ClassId} (hown : s.vm.findClass own = some m.cls) (hclink : (Cond.classLink own index ("[" ++ (FieldType.array ty).toString)).before args s = true) (hover : va_AOA ty s) (harr : (Cond.arrayClass ty).before args s = true) (hcy : s.vm.findClass (FieldType.array ty).toString = some cy)
    (hK : va_K D cl tys s) (hP : va_P D cl (X ++ va_pl L f) H) (hD : va_D A (X ++ va_pl L f)) (hS : va_S A H0 H locs) (hA : ∀ q, H0.size ≤ q → A q) {n k : Int32} {N' K' : Nat} {z : vp_A} (hn : ¬ n < 0) (hk : ¬ k < 0) (hN : n.toNatClampNeg = N') (hM : k.toNatClampNeg = K')
    (hb1 : N' * 4 ≤ 536870912) (hb2 : K' * componentBytes ty ≤ 536870912) (hb3 : K' ≤ 536870912) (hdf : fits ty (defaultValue ty) = true) (hdd : (defaultValue ty).isDefault = true) (hcells : cells + (1 + N') ≤ R.cells) (hslots : slots + (N' + N' * K') ≤ R.slots) (hz : ∀ c : ClassId, Jvm.Free.Multi.innerC c K' (defaultValue ty) = vp_cell c z) (hdg : decode cc pc = .ok (.multianewarray index 2, 4))
    (kk : ∀ (q : Nat) (r : Nat → Nat) (cA : ClassId) (H1 : Heap), (∀ i j : Nat, i < N' → j < N' → r i = r j → i = j) → (∀ i : Nat, i < N' → r i ∉ L) → va_K D cl (tys ++ [(cA, .array ty)]) s →
      va_P D cl ((X ++ [(q, .inl (cA, N', .inr (.inr (.inr (.inr (fun i => if i < N' then some (r i) else none))))))]) ++ va_pl (L ++ (List.range N').map r) (vr_up f ((List.range N').map r) (.inl (cy, z)))) H1 → va_D A ((X ++ [(q, .inl (cA, N', .inr (.inr (.inr (.inr (fun i => if i < N' then some (r i) else none))))))]) ++ va_pl (L ++ (List.range N').map r) (vr_up f ((List.range N').map r) (.inl (cy, z)))) → va_S A H0 H1 locs →
      W p l e R s m args below meth c H1 locs (cells + 1 + N') (slots + N' + N' * K') Q (F0 m (pc + 4) ls (.ref q :: rest))) : W p l e R s m args below meth c H locs cells slots Q (F0 m pc ls (.int k :: .int n :: rest)) := by
  subst hN
  subst hM
  intro T hT Xs
  obtain ⟨vm₁, cA, comp, -, fA, fC, hO, -, X', step⟩ := Xs.multianewarray2F hexec hown hclink (va_AOA.use hover) harr (g := F0 m pc ls (.int k :: .int n :: rest)) rfl (by rw [hb]; exact hdg) rfl hn hk hb1 hb2 hb3 hdf hdd hcells hslots
  have ec : some cy = some comp := hcy.symm.trans fC
  cases ec
  generalize hF : Jvm.Free.Multi.fill (T.setVm vm₁) cA cy n.toNatClampNeg k.toNatClampNeg (defaultValue ty) n.toNatClampNeg = F at X' step
  have hTh : (T.setVm vm₁).heap = H := hT
  obtain ⟨f1, f2, -, -⟩ := Jvm.Free.Multi.fill_facts (T.setVm vm₁) cA cy n.toNatClampNeg k.toNatClampNeg (defaultValue ty) n.toNatClampNeg
  rw [hF, hTh] at f1 f2
  have hold : ∀ x : Nat, x < H.size → F.heap[x]? = H[x]? := fun x hx => by
    have := Jvm.Free.Multi.fill_old (T.setVm vm₁) cA cy n.toNatClampNeg k.toNatClampNeg (defaultValue ty) (a := x) (by rw [hTh]; exact hx) n.toNatClampNeg
    rw [hF, hTh] at this
    exact this
  have hrow : ∀ j : Nat, j < n.toNatClampNeg → F.heap[H.size + 1 + j]? = some (vp_cell cy z) := fun j hj => by
    have := Jvm.Free.Multi.fill_inner (T.setVm vm₁) cA cy n.toNatClampNeg k.toNatClampNeg (defaultValue ty) n.toNatClampNeg j hj
    rw [hF, hTh, hz] at this
    exact this
  have hout : Jvm.Free.Multi.outerC cA n.toNatClampNeg H.size n.toNatClampNeg = vp_cell cA (n.toNatClampNeg, .inr (.inr (.inr (.inr (fun i => if i < n.toNatClampNeg then some (H.size + 1 + i) else none))))) := by
    rw [vp_cell_q]
    exact vr_outer cA n.toNatClampNeg H.size n.toNatClampNeg
  rw [hout] at f2
  have hlt : ∀ a, a ∈ L → a < H.size := fun a ha => by
    obtain ⟨k9, hk9⟩ := va_pl_get (X := X) (f := f) ha
    exact (hP k9 _ hk9).lt
  have hnl : ∀ i : Nat, i < n.toNatClampNeg → H.size + 1 + i ∉ L := fun i _ h => by
    have := hlt _ h
    omega
  have hnm : ∀ a, a ∈ (List.range n.toNatClampNeg).map (fun i => H.size + 1 + i) → a ∉ L := fun a ha h => by
    obtain ⟨i, -, rfl⟩ := List.mem_map.mp ha
    have := hlt _ h
    omega
  have hP0 : va_P D cl (X ++ va_pl L f) F.heap := hP.kept (fun k9 x hx => hold x.1 ((hP k9 x hx).lt))
  have hP1 : va_P D cl ((X ++ va_pl L f) ++ [(H.size, .inl (cA, n.toNatClampNeg, .inr (.inr (.inr (.inr (fun i => if i < n.toNatClampNeg then some (H.size + 1 + i) else none))))))]) F.heap := hP0.app (fun k9 x hx => by
    have h0 : k9 < 1 := (List.getElem?_eq_some_iff.mp hx).1
    rw [show k9 = 0 by omega] at hx
    cases hx
    exact f2)
  have hP2 : va_P D cl (((X ++ va_pl L f) ++ [(H.size, .inl (cA, n.toNatClampNeg, .inr (.inr (.inr (.inr (fun i => if i < n.toNatClampNeg then some (H.size + 1 + i) else none))))))]) ++ ((List.range n.toNatClampNeg).map (fun i => H.size + 1 + i)).map (fun a => (a, .inl (cy, z)))) F.heap := hP1.app (fun k9 x hx => by
    obtain ⟨a, ha, rfl⟩ := List.mem_map.mp (List.mem_of_getElem? hx)
    obtain ⟨i, hi, rfl⟩ := List.mem_map.mp ha
    exact hrow i (List.mem_range.mp hi))
  have hD2 : va_D A (((X ++ va_pl L f) ++ [(H.size, .inl (cA, n.toNatClampNeg, .inr (.inr (.inr (.inr (fun i => if i < n.toNatClampNeg then some (H.size + 1 + i) else none))))))]) ++ ((List.range n.toNatClampNeg).map (fun i => H.size + 1 + i)).map (fun a => (a, .inl (cy, z)))) := by
    have hD1 := hD.push (e := .inl (cA, n.toNatClampNeg, .inr (.inr (.inr (.inr (fun i => if i < n.toNatClampNeg then some (H.size + 1 + i) else none)))))) hP rfl (hA _ hS.1)
    generalize hW1 : (X ++ va_pl L f) ++ [(H.size, .inl (cA, n.toNatClampNeg, .inr (.inr (.inr (.inr (fun i => if i < n.toNatClampNeg then some (H.size + 1 + i) else none))))))] = W1 at hD1 hP1 ⊢
    have hle : ∀ (k9 : Nat) (x : Nat × va_E), W1[k9]? = some x → x.1 ≤ H.size := fun k9 x hx => by
      rw [← hW1] at hx
      by_cases hl : k9 < (X ++ va_pl L f).length
      · rw [List.getElem?_append_left hl] at hx
        exact Nat.le_of_lt ((hP k9 x hx).lt)
      · rw [List.getElem?_append_right (by omega)] at hx
        have h0 : k9 - (X ++ va_pl L f).length < 1 := (List.getElem?_eq_some_iff.mp hx).1
        rw [show k9 - (X ++ va_pl L f).length = 0 by omega] at hx
        cases hx
        exact Nat.le_refl _
    have hr : ∀ (k9 : Nat) (x : Nat × va_E), (((List.range n.toNatClampNeg).map (fun i => H.size + 1 + i)).map (fun a => ((a, .inl (cy, z)) : Nat × va_E)))[k9]? = some x → x.1 = H.size + 1 + k9 := fun k9 x hx => by
      rw [List.getElem?_map, List.getElem?_map] at hx
      by_cases h9 : k9 < n.toNatClampNeg
      · rw [List.getElem?_range h9] at hx
        cases hx
        rfl
      · have hn0 : (List.range n.toNatClampNeg)[k9]? = none := List.getElem?_eq_none (by rw [List.length_range]; omega)
        rw [hn0] at hx
        cases hx
    refine ⟨fun i j x y hi hj hxy => ?_, fun k9 x hx => ?_⟩
    · by_cases h1 : i < W1.length <;> by_cases h2 : j < W1.length
      · rw [List.getElem?_append_left h1] at hi
        rw [List.getElem?_append_left h2] at hj
        exact hD1.1 i j x y hi hj hxy
      · rw [List.getElem?_append_left h1] at hi
        rw [List.getElem?_append_right (by omega)] at hj
        have := hle _ _ hi
        have := hr _ _ hj
        omega
      · rw [List.getElem?_append_right (by omega)] at hi
        rw [List.getElem?_append_left h2] at hj
        have := hle _ _ hj
        have := hr _ _ hi
        omega
      · rw [List.getElem?_append_right (by omega)] at hi hj
        have := hr _ _ hi
        have := hr _ _ hj
        omega
    · by_cases h1 : k9 < W1.length
      · rw [List.getElem?_append_left h1] at hx
        exact hD1.2 k9 x hx
      · rw [List.getElem?_append_right (by omega)] at hx
        have := hr _ _ hx
        exact hA _ (by have := hS.1; omega)
  have hAr : ArrOfT s cA (.array ty) := fun N9 z9 => by
    obtain ⟨-, k9, hk9, cm9, hkk9⟩ := (hO 0 0 0).1
    exact ⟨(fun q hq => by cases hq), k9, hk9, cm9, hkk9⟩
  have hK2 : va_K D cl (tys ++ [(cA, .array ty)]) s := ⟨hK.1, fun k9 x hx => by
    by_cases hl : k9 < tys.length
    · rw [List.getElem?_append_left hl] at hx
      exact hK.2 k9 x hx
    · rw [List.getElem?_append_right (by omega)] at hx
      have h0 : k9 - tys.length < 1 := (List.getElem?_eq_some_iff.mp hx).1
      rw [show k9 - tys.length = 0 by omega] at hx
      cases hx
      exact ⟨hAr, fA⟩⟩
  obtain ⟨t, a1, b1⟩ := kk H.size (fun i => H.size + 1 + i) cA F.heap (fun i j _ _ h => by have h9 : H.size + 1 + i = H.size + 1 + j := h; omega) hnl hK2 (by rw [← vr_rows hnm]; exact vr_lay hP2) (by rw [← vr_rows hnm]; exact vr_layD hD2) ⟨by rw [f1]; have := hS.1; omega, fun x h1 h2 => (hold x (Nat.lt_of_lt_of_le h1 hS.1)).trans (hS.2.1 x h1 h2), hS.2.2⟩ F rfl X'
  refine ⟨t, step t ?_, b1⟩
  have e : T.heap.size = H.size := by rw [hT]
  rw [e]
  exact a1
end VGM
/-! ===== END ===== -/

/-! ===== BEGIN exceptions that leave a method, and their catching by the caller (launches without stack traces) ===== -/
section VXA
/-! The laws vx_back, vx_callV, vx_callS, vx_callSW, vx_throw0, vx_throwS follow proofs of the library, with one case more: JvmDerived/Free/Laws.lean (Back.of_free), Shelf42/LK1.lean (callV, callS), Shelf/KitTraced.lean (throwNew0V, throwNewS). -/
/-- where a method has thrown q: the class by its name, the cell, what was written, the world -/
def vx_T (XC : String → State → State → Prop) (st : State) (q : Addr) (t : State) (mc ms : Nat) (free : Addr → Prop) : Prop :=
  ∃ (E : String) (ce : Cell) (L : List Loc), XC E st t ∧ t.heap[q]? = some ce ∧ ce.vm = .none ∧ st.vm.findClass E = some ce.cls ∧ st.WarmedH t.vm ∧ st.sameButNew ({ t with vm := st.vm } : State) L mc ms ∧ ∀ z ∈ L, free z.base
def vx_Q (Qc : Array Value → State → Outcome → State → Prop) (XC : String → State → State → Prop) (mc ms : Nat) (free : Addr → Prop) : Array Value → State → Outcome → State → Prop := fun a st o t =>
  (Qc a st o t ∧ ∃ L, FrameEnd st o t L mc ms ∧ ∀ q ∈ L, free q.base) ∨ ∃ q, o = .threw q ∧ vx_T XC st q t mc ms free
/-- a callee that returns or throws -/
def vx_Met (l : Launch) (y : MethodName) (ws : List Cond) (rm : Room) (Pc : Array Value → State → Prop) (Qc : Array Value → State → Outcome → State → Prop) (XC : String → State → State → Prop) (mc ms : Nat) (free : Addr → Prop) : Prop :=
  MetFree l y (headSpec ws rm) Pc (fun _ _ _ _ _ => True) (vx_Q Qc XC mc ms free)
def vx_Post (XC : String → State → State → Prop) (mc ms : Nat) (free : Addr → Prop) : Pt → Array Value → Addr → Pt → Prop := fun A a q B =>
  ∃ (g : JFrame) (mk : MethodId) (t : State) (L : List Loc) (E : String) (ce : Cell), B.U.heap = t.heap ∧ B.U.vm = t.vm ∧ XC E (A.U.calling g mk a) t ∧ t.heap[q]? = some ce ∧ ce.vm = .none ∧ A.U.vm.findClass E = some ce.cls ∧ B.locs = A.locs ++ L ∧ (∀ z ∈ L, free z.base) ∧ B.cells = A.cells + mc ∧ B.slots = A.slots + ms
def vx_Back (l : Launch) (R : Room) (p : Program) (e : Env) (below : List Frame) (s : State) (sargs : Array Value) (y : MethodName) (len W9 : Nat)
    (Pre : Pt → Array Value → Prop) (Post : Pt → Array Value → Option Value → Pt → Prop) (PostX : Pt → Array Value → Addr → Pt → Prop) : Prop :=
  ∀ (m : MethodId) (meth : Method) (c : Code) (A : Pt) (g : JFrame) (ig : Instr) (mk : MethodId) (a : Array Value),
    Stand p l e R s m sargs below meth c A.U A.locs A.cells A.slots → g.method = m → g.locals.size = c.maxLocals → decode c.code g.pc = .ok (ig, len) →
    2 * g.monitorRoom + (g.stack.map fun v => v.category).sum ≤ W9 → A.U.methodNamed? y = some mk → Pre A a →
    (∃ (v : Option Value) (B : Pt), Stand p l e R s m sargs below meth c B.U B.locs B.cells B.slots ∧ Post A a v B ∧
      Steps p.tables e below (doInvoke e (A.U.setTop g) [] mk a).1 (B.U.setTop { g with pc := g.pc + len, stack := v.toList ++ g.stack })) ∨
    (∃ (q : Addr) (B : Pt), Stand p l e R s m sargs below meth c B.U B.locs B.cells B.slots ∧ PostX A a q B ∧
      Steps p.tables e below (doInvoke e (A.U.setTop g) [] mk a).1 ((B.U.setTop g).pushFrame (.throwing q)))
section Payer
variable {l : Launch} {R : Room} {p : Program} {e : Env} {below : List Frame} {s : State} {sargs : Array Value} {y : MethodName} {len W9 : Nat}
theorem vx_back {ws : List Cond} {rm : Room} {Pc : Array Value → State → Prop} {Qc : Array Value → State → Outcome → State → Prop} {XC : String → State → State → Prop} {mc ms : Nat} {free : Addr → Prop} {bytes : ByteArray} {maxL : Nat} {ret : Option FieldType}
    (hM : vx_Met l y ws rm Pc Qc XC mc ms free) (hblind : FrameBlind Pc) (hrc : rm.cells = mc) (hrs : rm.slots = ms)
    (hframes : rm.frames + 1 ≤ R.frames) (hlocals : W9 + (maxL + 11) + rm.locals ≤ R.locals)
    (hws : ∀ w ∈ ws, ∀ a' U, s.WarmedH U.vm → w.before a' U = true) (hcode : Cond.code y bytes maxL ret ∈ ws) (hinit : ∀ a' U, s.WarmedH U.vm → (Cond.initialized y.cls).before a' U = true) :
    vx_Back l R p e below s sargs y len W9 (PreOf R mc ms Pc) (PostOf Qc mc ms free) (vx_Post XC mc ms free) := by
  intro m meth c A g ig mk a X hg hsize hdg hW hn hp
  have h1 : (headSpec ws rm).pre.before a A.U = true := atoms_intro fun w hw => hws w hw _ _ X.warmed
  have h2 : (Cond.code y bytes maxL ret).before a A.U = true := hws _ hcode _ _ X.warmed
  have h3 : (Cond.initialized y.cls).before a A.U = true := hinit _ _ X.warmed
  have h4 : A.cells + (headSpec ws rm).room.cells ≤ R.cells := by rw [show (headSpec ws rm).room.cells = mc from hrc]; exact hp.1
  have h5 : A.slots + (headSpec ws rm).room.slots ≤ R.slots := by rw [show (headSpec ws rm).room.slots = ms from hrs]; exact hp.2.1
  have hPc : Pc a (A.U.calling g mk a) := hblind _ _ _ _ hp.2.2
  obtain ⟨U, Ls, c0, s0⟩ := A
  dsimp only [Pt.U, Pt.locs, Pt.cells, Pt.slots] at h1 h2 h3 h4 h5 X hn hPc ⊢
  obtain ⟨methY, cY, hmY, hcY, -, hlY, -, -, -, -⟩ := Cond.code_spec hn h2
  obtain ⟨kY, hkY, -⟩ := className_of_methodNamed hn
  have hinitY : kY.init = .initialized := Cond.initialized_spec (findClass_of_methodNamed hn) hkY h3
  have h : At U g.method c below := by rw [hg]; exact X.here
  have hlocals9 : W9 + (maxL + 11) + (headSpec ws rm).room.locals ≤ R.locals := hlocals
  have happ : (headSpec ws rm).appliesLoose y e.platform (U.calling g mk a) = true :=
    Spec.appliesLoose_calling (g := g) h hdg hn hkY hinitY
      (X.room_calling (g := g) (R' := (headSpec ws rm).room) hsize hmY hcY hframes (by rw [hlY]; omega) h4 h5) h1
  obtain ⟨mid, hmid⟩ := h.above
  have hfr : (U.setTop g).frames = (.java g :: mid) ++ below := by rw [State.frames_setTop' g h.top, hmid]; rfl
  obtain ⟨o, s₂, hsteps, -, hend, hq⟩ := Steps.callFree hM p X.admits X.cas X.clock (acts := []) hfr happ hPc trivial
  have hq' : vx_Q Qc XC mc ms free a (U.calling g mk a) o s₂ := hq
  rw [State.frames_setTop' g h.top] at hend
  obtain ⟨g₀, hg0⟩ := Option.isSome_iff_exists.mp h.top
  obtain ⟨r, hr⟩ := State.topJava?_eq_some.mp hg0
  have hr' : (({ U with heap := s₂.heap, slotsUsed := s₂.slotsUsed } : State).setVm s₂.vm).frames = .java g₀ :: r := hr
  rcases hq' with ⟨hqc, L, hfe, hL⟩ | ⟨q, rfl, E, ce, L, hx, hce, hcv, hcl, hW₂, hsm, hL⟩
  · obtain ⟨⟨v, rfl⟩, hW₂, e2, q2, q3, q4, q5, q6⟩ := id hfe
    have e3 : s₂ = ({ (U.calling g mk a).setFrames s₂.frames with heap := s₂.heap, slotsUsed := s₂.slotsUsed } : State).setVm s₂.vm := by
      have : s₂ = ({ s₂ with vm := (U.calling g mk a).vm } : State).setVm s₂.vm := rfl
      rw [e2] at this
      exact this
    obtain ⟨c₂, i₂, len₂, hc₂, hd₂, hf₂⟩ := hend
    have hW' : U.WarmedH s₂.vm := hW₂
    have hcc : c₂ = c := by
      have h1 : s₂.code? g.method = U.code? g.method := by
        rw [State.code?_eq, State.code?_eq, hW'.alike.method?]
      exact Option.some.inj (hc₂.symm.trans (h1.trans h.code))
    subst hcc
    have hlen : len₂ = len := by rw [hdg] at hd₂; cases hd₂; rfl
    subst hlen
    have hs₂ : s₂ = (({ U with heap := s₂.heap, slotsUsed := s₂.slotsUsed } : State).setVm s₂.vm).setTop { g with pc := g.pc + len₂, stack := v.toList ++ g.stack } := by
      refine e3.trans ?_
      rw [hf₂, State.calling_eq h.top, State.setFrames_setFrames, State.setTop_of_frames _ hr', hr]
      rfl
    have hsame : U.sameButNew ({ U with heap := s₂.heap, slotsUsed := s₂.slotsUsed } : State) L mc ms := by
      refine ⟨?_, q2, q3, q4, q5, q6⟩
      obtain ⟨t, ht, -⟩ := State.frames_cons hr
      show ({ U with heap := s₂.heap, slotsUsed := s₂.slotsUsed } : State) = { U.setFrames U.frames with heap := s₂.heap, slotsUsed := s₂.slotsUsed }
      rw [State.setFrames_self ht]
    subst hg
    refine Or.inl ⟨v, ⟨(({ U with heap := s₂.heap, slotsUsed := s₂.slotsUsed } : State).setVm s₂.vm), Ls ++ L, c0 + mc, s0 + ms⟩,
      ⟨X.admits, X.cas, X.clock, X.frames, X.room, X.hears, X.method, X.code, (X.here.setHeapUsed s₂.heap s₂.slotsUsed).setVm hW'.alike, X.tail, State.WarmedH.trans X.warmed hW', X.limits, X.bytes, X.same.trans (hsame.setVm s.vm)⟩,
      ⟨g, mk, s₂, L, rfl, rfl, hqc, rfl, hL, rfl, rfl⟩, ?_⟩
    show Steps p.tables e below _ ((({ U with heap := s₂.heap, slotsUsed := s₂.slotsUsed } : State).setVm s₂.vm).setTop { g with pc := g.pc + len₂, stack := v.toList ++ g.stack })
    rw [← hs₂]
    exact hsteps
  · obtain ⟨e2, q2, q3, q4, q5, q6⟩ := id hsm
    have e3 : s₂ = ({ (U.calling g mk a).setFrames s₂.frames with heap := s₂.heap, slotsUsed := s₂.slotsUsed } : State).setVm s₂.vm := by
      have : s₂ = ({ s₂ with vm := (U.calling g mk a).vm } : State).setVm s₂.vm := rfl
      rw [e2] at this
      exact this
    have hf₂ : s₂.frames = .throwing q :: .java g :: U.frames.tail := hend
    have hW' : U.WarmedH s₂.vm := hW₂
    have hs₂ : s₂ = ((({ U with heap := s₂.heap, slotsUsed := s₂.slotsUsed } : State).setVm s₂.vm).setTop g).pushFrame (.throwing q) := by
      refine e3.trans ?_
      rw [hf₂, State.calling_eq h.top, State.setFrames_setFrames, State.pushFrame, State.frames_setTop _ hr', State.setTop_of_frames _ hr', State.setFrames_setFrames, hr]
      rfl
    have hsame : U.sameButNew ({ U with heap := s₂.heap, slotsUsed := s₂.slotsUsed } : State) L mc ms := by
      refine ⟨?_, q2, q3, q4, q5, q6⟩
      obtain ⟨t, ht, -⟩ := State.frames_cons hr
      show ({ U with heap := s₂.heap, slotsUsed := s₂.slotsUsed } : State) = { U.setFrames U.frames with heap := s₂.heap, slotsUsed := s₂.slotsUsed }
      rw [State.setFrames_self ht]
    subst hg
    refine Or.inr ⟨q, ⟨(({ U with heap := s₂.heap, slotsUsed := s₂.slotsUsed } : State).setVm s₂.vm), Ls ++ L, c0 + mc, s0 + ms⟩,
      ⟨X.admits, X.cas, X.clock, X.frames, X.room, X.hears, X.method, X.code, (X.here.setHeapUsed s₂.heap s₂.slotsUsed).setVm hW'.alike, X.tail, State.WarmedH.trans X.warmed hW', X.limits, X.bytes, X.same.trans (hsame.setVm s.vm)⟩,
      ⟨g, mk, s₂, L, E, ce, rfl, rfl, hx, hce, hcv, hcl, rfl, hL, rfl, rfl⟩, ?_⟩
    show Steps p.tables e below _ (((({ U with heap := s₂.heap, slotsUsed := s₂.slotsUsed } : State).setVm s₂.vm).setTop g).pushFrame (.throwing q))
    rw [← hs₂]
    exact hsteps
end Payer
section Calls
variable {p : Program} {l : Launch} {e : Env} {R : Room} {s : State} {m : MethodId} {args : Array Value} {below : List Frame} {meth : Method} {c : Code} {T : State} {locs : List Loc} {cells slots : Nat}
theorem vx_callV (X : Stand p l e R s m args below meth c T locs cells slots) (hexec : p.tables.exec = Jvm.exec) {own C : String} {index : Nat} {y : MethodName} {bytes : ByteArray} {maxL : Nat} {ret : Option FieldType}
    (hown : s.vm.findClass own = some m.cls) (hlink : (Cond.methodLink own index y).before args s = true) (hinst : (Cond.instanceMethod y).before args s = true) (hsel : (Cond.selects C y y).before args s = true)
    (hcode : (Cond.code y bytes maxL ret).before args s = true) (hy : y.cls ≠ "java/lang/invoke/MethodHandle" ∧ y.cls ≠ "java/lang/invoke/VarHandle")
    {W9 : Nat} {Pre : Pt → Array Value → Prop} {Post : Pt → Array Value → Option Value → Pt → Prop} {PostX : Pt → Array Value → Addr → Pt → Prop} (hK : vx_Back l R p e below s args y 3 W9 Pre Post PostX)
    {b : Addr} {cellB : Cell} (hcell : T.heap[b]? = some cellB) (hobj : cellB.vm.isStatics = false) (hcls : s.vm.findClass C = some cellB.cls)
    {g : JFrame} (hg : g.method = m) (hsize : g.locals.size = c.maxLocals) {argsL rest : List Value} (hlen : ∀ sig, parseMethodDescriptor y.desc = some sig → argsL.length = sig.parameters.length)
    (hstack : g.stack = argsL.reverse ++ .ref b :: rest) (hW : 2 * g.monitorRoom + (rest.map fun v => v.category).sum ≤ W9) (hdg : decode c.code g.pc = .ok (.invokevirtual index, 3))
    (hpre : ∀ vm₁, s.WarmedH vm₁ → Pre ⟨T.setVm vm₁, locs, cells, slots⟩ (Value.ref b :: argsL).toArray) :
    (∃ (v : Option Value) (vm₁ : Vm) (B : Pt), s.WarmedH vm₁ ∧ Stand p l e R s m args below meth c B.U B.locs B.cells B.slots ∧ Post ⟨T.setVm vm₁, locs, cells, slots⟩ (Value.ref b :: argsL).toArray v B ∧
      ∀ target, Steps p.tables e below (B.U.setTop { g with pc := g.pc + 3, stack := v.toList ++ rest }) target → Steps p.tables e below (T.setTop g) target) ∨
    (∃ (q : Addr) (vm₁ : Vm) (B : Pt), s.WarmedH vm₁ ∧ Stand p l e R s m args below meth c B.U B.locs B.cells B.slots ∧ PostX ⟨T.setVm vm₁, locs, cells, slots⟩ (Value.ref b :: argsL).toArray q B ∧
      Steps p.tables e below (T.setTop g) ((B.U.setTop { g with stack := rest }).pushFrame (.throwing q))) := by
  obtain ⟨mk, methM, hnamed, hmethM, hstM, habM⟩ := Cond.instanceMethod_spec hinst
  obtain ⟨methM', cM, hmethM', -, -, -, -, -, -, hsigM⟩ := Cond.code_spec hnamed hcode
  cases hmethM.symm.trans hmethM'
  obtain ⟨c2, r2, m2, q1, q2, q3, q4, kP, hkP, hkPi⟩ := Cond.selects_spec hsel
  cases hcls.symm.trans q1
  cases (State.methodFound?_of_named hnamed hy).symm.trans q2
  cases hnamed.symm.trans q3
  have hselP : selectMethod e.platform s.vm cellB.cls mk = .method mk := by rw [Launch.admits_selectMethod X.admits]; exact q4
  obtain ⟨vm₁, X₁, hstep₁⟩ := X.invokevirtual hexec hown hlink hnamed hmethM hstM hkP hkPi hy (a := b) (cell := cellB) hcell
    (fun z h => by rw [h] at hobj; cases hobj) hselP hmethM habM hkP hkPi (g := g) hg (argsL := argsL) (rest := rest) (hlen _ hsigM) hstack hdg
  rcases hK m meth c ⟨T.setVm vm₁, locs, cells, slots⟩ { g with stack := rest } (.invokevirtual index) mk (Value.ref b :: argsL).toArray X₁ hg hsize hdg hW (X₁.named hnamed) (hpre vm₁ X₁.warmed) with ⟨v, B, X', hpost, hsteps⟩ | ⟨q, B, X', hpost, hsteps⟩
  · exact Or.inl ⟨v, vm₁, B, X₁.warmed, X', hpost, fun target h => hstep₁ _ fun acts => by rw [doInvoke_state]; exact hsteps.trans h⟩
  · exact Or.inr ⟨q, vm₁, B, X₁.warmed, X', hpost, hstep₁ _ fun acts => by rw [doInvoke_state]; exact hsteps⟩
theorem vx_callS (X : Stand p l e R s m args below meth c T locs cells slots) (hexec : p.tables.exec = Jvm.exec) {own : String} {index : Nat} {y : MethodName} {bytes : ByteArray} {maxL : Nat} {ret : Option FieldType}
    (hown : s.vm.findClass own = some m.cls) (hlink : (Cond.methodLink own index y).before args s = true) (hstat : (Cond.static y).before args s = true) (hinit : (Cond.initialized y.cls).before args s = true)
    (hcode : (Cond.code y bytes maxL ret).before args s = true) (hy : y.cls ≠ "java/lang/invoke/MethodHandle" ∧ y.cls ≠ "java/lang/invoke/VarHandle")
    {W9 : Nat} {Pre : Pt → Array Value → Prop} {Post : Pt → Array Value → Option Value → Pt → Prop} {PostX : Pt → Array Value → Addr → Pt → Prop} (hK : vx_Back l R p e below s args y 3 W9 Pre Post PostX)
    {g : JFrame} (hg : g.method = m) (hsize : g.locals.size = c.maxLocals) {argsL rest : List Value} (hlen : ∀ sig, parseMethodDescriptor y.desc = some sig → argsL.length = sig.parameters.length)
    (hstack : g.stack = argsL.reverse ++ rest) (hW : 2 * g.monitorRoom + (rest.map fun v => v.category).sum ≤ W9) (hdg : decode c.code g.pc = .ok (.invokestatic index, 3))
    (hpre : ∀ vm₁, s.WarmedH vm₁ → Pre ⟨T.setVm vm₁, locs, cells, slots⟩ argsL.toArray) :
    (∃ (v : Option Value) (vm₁ : Vm) (B : Pt), s.WarmedH vm₁ ∧ Stand p l e R s m args below meth c B.U B.locs B.cells B.slots ∧ Post ⟨T.setVm vm₁, locs, cells, slots⟩ argsL.toArray v B ∧
      ∀ target, Steps p.tables e below (B.U.setTop { g with pc := g.pc + 3, stack := v.toList ++ rest }) target → Steps p.tables e below (T.setTop g) target) ∨
    (∃ (q : Addr) (vm₁ : Vm) (B : Pt), s.WarmedH vm₁ ∧ Stand p l e R s m args below meth c B.U B.locs B.cells B.slots ∧ PostX ⟨T.setVm vm₁, locs, cells, slots⟩ argsL.toArray q B ∧
      Steps p.tables e below (T.setTop g) ((B.U.setTop { g with stack := rest }).pushFrame (.throwing q))) := by
  obtain ⟨mk, hnamed⟩ := Cond.code_named hcode
  obtain ⟨methM, cM, hmethM, -, -, -, -, -, -, hsigM⟩ := Cond.code_spec hnamed hcode
  have hstatic : methM.isStatic = true := Cond.static_spec hnamed hmethM hstat
  obtain ⟨kP, hkP, -⟩ := className_of_methodNamed hnamed
  have hinitP : kP.init = .initialized := Cond.initialized_spec (findClass_of_methodNamed hnamed) hkP hinit
  obtain ⟨vm₁, X₁, hstep₁⟩ := X.invokestatic hexec hown hlink hnamed hmethM hstatic hkP hinitP hy (g := g) hg (argsL := argsL) (rest := rest) (hlen _ hsigM) hstack hdg
  rcases hK m meth c ⟨T.setVm vm₁, locs, cells, slots⟩ { g with stack := rest } (.invokestatic index) mk argsL.toArray X₁ hg hsize hdg hW (X₁.named hnamed) (hpre vm₁ X₁.warmed) with ⟨v, B, X', hpost, hsteps⟩ | ⟨q, B, X', hpost, hsteps⟩
  · exact Or.inl ⟨v, vm₁, B, X₁.warmed, X', hpost, fun target h => hstep₁ _ fun acts => by rw [doInvoke_state]; exact hsteps.trans h⟩
  · exact Or.inr ⟨q, vm₁, B, X₁.warmed, X', hpost, hstep₁ _ fun acts => by rw [doInvoke_state]; exact hsteps⟩
end Calls
theorem vx_cls {s : State} {T : State} {vm₁ : Vm} {E : String} {k : ClassId} (hW : s.WarmedH vm₁) (h : (T.setVm vm₁).vm.findClass E = some k) : s.vm.findClass E = some k := by
  have h1 : vm₁.findClass E = some k := h
  rw [hW.alike.findClass] at h1
  exact h1
/-- the method's frame g, with q thrown over it -/
def vx_W (p : Program) (l : Launch) (e : Env) (R : Room) (s : State) (m : MethodId) (args : Array Value) (below : List Frame) (meth : Method) (c : Code) (H : Heap) (locs : List Loc) (cells slots : Nat) (Q : State → Prop) (g : JFrame) (q : Addr) : Prop :=
  ∀ T : State, T.heap = H → Stand p l e R s m args below meth c T locs cells slots → ∃ t, Steps p.tables e below ((T.setTop g).pushFrame (.throwing q)) t ∧ Q t
def vx_Run (p : Program) (l : Launch) (e : Env) (R : Room) (s : State) (m : MethodId) (args : Array Value) (below : List Frame) (meth : Method) (c : Code) (H : Heap) (locs : List Loc) (cells slots mc ms : Nat) (g : JFrame) (rest : List Value) (Qa : State → Outcome → State → Prop) (XC : String → State → State → Prop) (free : Addr → Prop) : Prop :=
  ∀ T : State, T.heap = H → Stand p l e R s m args below meth c T locs cells slots →
    (∃ (v : Option Value) (st₀ t T' : State) (L : List Loc), st₀.heap = H ∧ Stand p l e R s m args below meth c T' (locs ++ L) (cells + mc) (slots + ms) ∧ (∀ q ∈ L, free q.base) ∧ T'.heap = t.heap ∧ T'.vm = t.vm ∧ Qa st₀ (.returned v) t ∧
      Goes p e below T g T' { g with pc := g.pc + 3, stack := v.toList ++ rest }) ∨
    (∃ (q : Addr) (st₀ t T' : State) (L : List Loc) (E : String) (ce : Cell), st₀.heap = H ∧ Stand p l e R s m args below meth c T' (locs ++ L) (cells + mc) (slots + ms) ∧ (∀ z ∈ L, free z.base) ∧ T'.heap = t.heap ∧ T'.vm = t.vm ∧ XC E st₀ t ∧ t.heap[q]? = some ce ∧ ce.vm = .none ∧ s.vm.findClass E = some ce.cls ∧
      Steps p.tables e below (T.setTop g) ((T'.setTop { g with stack := rest }).pushFrame (.throwing q)))
def vx_X {S : Type} (px : S → Prop) (B : String → S → State → Prop) (A : Nat → Prop) : String → State → State → Prop := fun E st t => ∃ u : S, px u ∧ B E u t ∧ va_F A st t
section Runs
variable {p : Program} {l : Launch} {e : Env} {R : Room} {s : State} {m : MethodId} {args : Array Value} {below : List Frame} {meth : Method} {c : Code} {H : Heap} {locs : List Loc} {cells slots : Nat}
variable {y : MethodName} {bytes cc : ByteArray} {maxL nL mc ms n index : Nat} {ret : Option FieldType} {ws : List Cond} {rm : Room} {Pc : Array Value → State → Prop} {Qc : Array Value → State → Outcome → State → Prop} {XC : String → State → State → Prop} {free : Addr → Prop} {Ts : List Cond} {own C : String} {b : Addr} {As rest : List Value} {g : JFrame}
theorem vx_callBack (cb : CallB R s args own index y bytes maxL ret ws rm mc ms n) (hM : vx_Met l y ws rm Pc Qc XC mc ms free) (hbl : FrameBlind Pc) : vx_Back l R p e below s args y 3 8 (PreOf R mc ms Pc) (PostOf Qc mc ms free) (vx_Post XC mc ms free) := by
  obtain ⟨hrc, hrs, hfr, hlo, hws, hcw, -, hini, -⟩ := cb
  exact vx_back (bytes := bytes) (maxL := maxL) (ret := ret) hM hbl hrc hrs hfr hlo hws hcw (fun a' U hW => word_at hW (Or.inl (by first | rfl | simp [Cond.onTables, Cond.keeps, Cond.steady])) hini)
theorem vx_runV (S : CallFix p m c cc nL s args Ts own) (hM : vx_Met l y ws rm Pc Qc XC mc ms free) (cw : CallW R s args own C index y bytes maxL ret ws rm mc ms n) (hp : PreV s H C b Pc As)
    (hg : g.method = m) (hn : As.length = n) (hsize : g.locals.size = nL) (hstack : g.stack = As.reverse ++ .ref b :: rest) (hW : 2 * g.monitorRoom + (rest.map fun v => v.category).sum ≤ 8) (hdg : decode cc g.pc = .ok (.invokevirtual index, 3)) (hf : cells + mc ≤ R.cells ∧ slots + ms ≤ R.slots) :
    vx_Run p l e R s m args below meth c H locs cells slots mc ms g rest (Qc (Value.ref b :: As).toArray) XC free := by
  have hK : vx_Back l R p e below s args y 3 8 (PreOf R mc ms Pc) (PostOf Qc mc ms free) (vx_Post XC mc ms free) := vx_callBack cw.1 hM hp.1
  obtain ⟨⟨-, -, -, -, -, -, hcode, -, hy, hlen, hl⟩, hin, hse⟩ := cw
  obtain ⟨hx, hb, hml, ho, -⟩ := S
  obtain ⟨-, ⟨cellB, hcB, hoB, hclB⟩, hPc⟩ := hp
  intro T hT X
  rcases vx_callV X hx (C := C) (bytes := bytes) (maxL := maxL) (ret := ret) ho hl hin hse hcode hy hK (by rw [hT]; exact hcB) hoB hclB hg (hsize.trans hml.symm) (argsL := As) (rest := rest) (fun sig h => hn.trans (hlen sig h)) hstack hW (by rw [hb]; exact hdg)
    (fun vm₁ hW₁ => ⟨hf.1, hf.2, hPc (T.setVm vm₁) hT hW₁⟩) with ⟨v, vm₁, ⟨U', l2, c2, s2⟩, hW₁, X', ⟨g', mk, t, L, e1, e2, hq, h1, hL, h2, h3⟩, st⟩ | ⟨q, vm₁, ⟨U', l2, c2, s2⟩, hW₁, X', ⟨g', mk, t, L, E, ce, e1, e2, hq, hce, hcv, hcl, h1, hL, h2, h3⟩, st⟩
  · dsimp only [Pt.U, Pt.locs, Pt.cells, Pt.slots] at X' e1 e2 h1 h2 h3 st
    subst h1; subst h2; subst h3
    exact Or.inl ⟨v, (T.setVm vm₁).calling g' mk (Value.ref b :: As).toArray, t, U', L, hT, X', hL, e1, e2, hq, st⟩
  · dsimp only [Pt.U, Pt.locs, Pt.cells, Pt.slots] at X' e1 e2 h1 h2 h3 st hcl
    subst h1; subst h2; subst h3
    exact Or.inr ⟨q, (T.setVm vm₁).calling g' mk (Value.ref b :: As).toArray, t, U', L, E, ce, hT, X', hL, e1, e2, hq, hce, hcv, vx_cls hW₁ hcl, st⟩
theorem vx_runS (S : CallFix p m c cc nL s args Ts own) (hM : vx_Met l y ws rm Pc Qc XC mc ms free) (cw : CallB R s args own index y bytes maxL ret ws rm mc ms n ∧ (Cond.static y).before args s = true) (hp : PreS s H Pc As)
    (hg : g.method = m) (hn : As.length = n) (hsize : g.locals.size = nL) (hstack : g.stack = As.reverse ++ rest) (hW : 2 * g.monitorRoom + (rest.map fun v => v.category).sum ≤ 8) (hdg : decode cc g.pc = .ok (.invokestatic index, 3)) (hf : cells + mc ≤ R.cells ∧ slots + ms ≤ R.slots) :
    vx_Run p l e R s m args below meth c H locs cells slots mc ms g rest (Qc As.toArray) XC free := by
  have hK : vx_Back l R p e below s args y 3 8 (PreOf R mc ms Pc) (PostOf Qc mc ms free) (vx_Post XC mc ms free) := vx_callBack cw.1 hM hp.1
  obtain ⟨⟨-, -, -, -, -, -, hcode, hini, hy, hlen, hl⟩, hstt⟩ := cw
  obtain ⟨hx, hb, hml, ho, -⟩ := S
  intro T hT X
  rcases vx_callS X hx (bytes := bytes) (maxL := maxL) (ret := ret) ho hl hstt hini hcode hy hK hg (hsize.trans hml.symm) (argsL := As) (rest := rest) (fun sig h => hn.trans (hlen sig h)) hstack hW (by rw [hb]; exact hdg)
    (fun vm₁ hW₁ => ⟨hf.1, hf.2, hp.2 (T.setVm vm₁) hT hW₁⟩) with ⟨v, vm₁, ⟨U', l2, c2, s2⟩, hW₁, X', ⟨g', mk, t, L, e1, e2, hq, h1, hL, h2, h3⟩, st⟩ | ⟨q, vm₁, ⟨U', l2, c2, s2⟩, hW₁, X', ⟨g', mk, t, L, E, ce, e1, e2, hq, hce, hcv, hcl, h1, hL, h2, h3⟩, st⟩
  · dsimp only [Pt.U, Pt.locs, Pt.cells, Pt.slots] at X' e1 e2 h1 h2 h3 st
    subst h1; subst h2; subst h3
    exact Or.inl ⟨v, (T.setVm vm₁).calling g' mk As.toArray, t, U', L, hT, X', hL, e1, e2, hq, st⟩
  · dsimp only [Pt.U, Pt.locs, Pt.cells, Pt.slots] at X' e1 e2 h1 h2 h3 st hcl
    subst h1; subst h2; subst h3
    exact Or.inr ⟨q, (T.setVm vm₁).calling g' mk As.toArray, t, U', L, E, ce, hT, X', hL, e1, e2, hq, hce, hcv, vx_cls hW₁ hcl, st⟩
end Runs
section Rows
variable {p : Program} {l : Launch} {e : Env} {R : Room} {s : State} {m : MethodId} {args : Array Value} {below : List Frame} {meth : Method} {c : Code} {H : Heap} {locs : List Loc} {cells slots : Nat} {Q : State → Prop}
variable {mc ms : Nat} {free : Addr → Prop} {A0 A1 : Nat → Prop} {H0 : Heap} {a : Array Value} {pc : Nat} {ls : Array Slot} {st0 rest : List Value}
theorem vx_keep {st₀ t T' : State} {L : List Loc} (h0 : st₀.heap = H) (e1 : T'.heap = t.heap) (hS : va_S A0 H0 H locs) (hA : ∀ q, q < H.size → A1 q → A0 q) (hf : ∀ q, free q → A0 q) (hL : ∀ q ∈ L, free q.base) (hF : va_F A1 st₀ t) :
    H.size ≤ T'.heap.size ∧ (∀ q : Nat, q < H.size → ¬ A1 q → T'.heap[q]? = H[q]?) ∧ va_S A0 H0 T'.heap (locs ++ L) := by
  obtain ⟨hz, hk⟩ := hF
  rw [h0] at hz hk
  exact ⟨by rw [e1]; exact hz, fun q h1 h2 => by rw [e1]; exact hk q h1 h2,
    ⟨Nat.le_trans hS.1 (by rw [e1]; exact hz), fun q h1 h2 => by rw [e1, hk q (Nat.lt_of_lt_of_le h1 hS.1) (fun z => h2 (hA q (Nat.lt_of_lt_of_le h1 hS.1) z))]; exact hS.2.1 q h1 h2, fun q hq => by
      rcases List.mem_append.mp hq with h | h
      · exact hS.2.2 q h
      · exact hf _ (hL q h)⟩⟩
theorem vx_calli {S SX : Type} {post : Int32 → S → Prop} {px : SX → Prop} {B : S → State → Prop} {BX : String → SX → State → Prop} {AX : Nat → Prop} (hr : vx_Run p l e R s m args below meth c H locs cells slots mc ms (F0 m pc ls st0) rest (va_Qi post B A1 a) (vx_X px BX AX) free) (hS : va_S A0 H0 H locs) (hA : ∀ q, q < H.size → A1 q → A0 q) (hf : ∀ q, free q → A0 q) (hAX : ∀ q, q < H.size → AX q → A0 q)
    (kx : ∀ (E : String) (ce : Cell) (q9 : Addr) (u : SX) (t : State) (H1 : Heap) (locs1 : List Loc), t.heap = H1 → s.vm.Alike t.vm → px u → BX E u t → H.size ≤ H1.size → (∀ q : Nat, q < H.size → ¬ AX q → H1[q]? = H[q]?) → va_S A0 H0 H1 locs1 → H1[q9]? = some ce → ce.vm = .none → s.vm.findClass E = some ce.cls → vx_W p l e R s m args below meth c H1 locs1 (cells + mc) (slots + ms) Q (F0 m pc ls rest) q9)
    (kk : ∀ (r : Int32) (u : S) (t : State) (H1 : Heap) (locs1 : List Loc), t.heap = H1 → s.vm.Alike t.vm → post r u → B u t → H.size ≤ H1.size → (∀ q : Nat, q < H.size → ¬ A1 q → H1[q]? = H[q]?) → va_S A0 H0 H1 locs1 → W p l e R s m args below meth c H1 locs1 (cells + mc) (slots + ms) Q (F0 m (pc + 3) ls (.int r :: rest))) : W p l e R s m args below meth c H locs cells slots Q (F0 m pc ls st0) := by
  intro T hT X
  rcases hr T hT X with ⟨v, st₀, t, T', L, h0, X', hL, e1, e2, ⟨⟨r, u, hv, hp, hb⟩, hF⟩, st⟩ | ⟨q, st₀, t, T', L, E, ce, h0, X', hL, e1, e2, ⟨u, hp, hb, hF⟩, hce, hcv, hcl, st⟩
  · cases hv
    obtain ⟨k1, k2, k3⟩ := vx_keep h0 e1 hS hA hf hL hF
    obtain ⟨t2, a1, b1⟩ := kk r u t T'.heap (locs ++ L) e1.symm (by rw [← e2]; exact X'.warmed.alike) hp hb k1 k2 k3 T' rfl X'
    exact ⟨t2, st t2 a1, b1⟩
  · obtain ⟨k1, k2, k3⟩ := vx_keep h0 e1 hS hAX hf hL hF
    obtain ⟨t2, a1, b1⟩ := kx E ce q u t T'.heap (locs ++ L) e1.symm (by rw [← e2]; exact X'.warmed.alike) hp hb k1 k2 k3 (by rw [e1]; exact hce) hcv hcl T' rfl X'
    exact ⟨t2, st.trans a1, b1⟩
theorem vx_calll {S SX : Type} {post : Int64 → S → Prop} {px : SX → Prop} {B : S → State → Prop} {BX : String → SX → State → Prop} {AX : Nat → Prop} (hr : vx_Run p l e R s m args below meth c H locs cells slots mc ms (F0 m pc ls st0) rest (va_Ql post B A1 a) (vx_X px BX AX) free) (hS : va_S A0 H0 H locs) (hA : ∀ q, q < H.size → A1 q → A0 q) (hf : ∀ q, free q → A0 q) (hAX : ∀ q, q < H.size → AX q → A0 q)
    (kx : ∀ (E : String) (ce : Cell) (q9 : Addr) (u : SX) (t : State) (H1 : Heap) (locs1 : List Loc), t.heap = H1 → s.vm.Alike t.vm → px u → BX E u t → H.size ≤ H1.size → (∀ q : Nat, q < H.size → ¬ AX q → H1[q]? = H[q]?) → va_S A0 H0 H1 locs1 → H1[q9]? = some ce → ce.vm = .none → s.vm.findClass E = some ce.cls → vx_W p l e R s m args below meth c H1 locs1 (cells + mc) (slots + ms) Q (F0 m pc ls rest) q9)
    (kk : ∀ (r : Int64) (u : S) (t : State) (H1 : Heap) (locs1 : List Loc), t.heap = H1 → s.vm.Alike t.vm → post r u → B u t → H.size ≤ H1.size → (∀ q : Nat, q < H.size → ¬ A1 q → H1[q]? = H[q]?) → va_S A0 H0 H1 locs1 → W p l e R s m args below meth c H1 locs1 (cells + mc) (slots + ms) Q (F0 m (pc + 3) ls (.long r :: rest))) : W p l e R s m args below meth c H locs cells slots Q (F0 m pc ls st0) := by
  intro T hT X
  rcases hr T hT X with ⟨v, st₀, t, T', L, h0, X', hL, e1, e2, ⟨⟨r, u, hv, hp, hb⟩, hF⟩, st⟩ | ⟨q, st₀, t, T', L, E, ce, h0, X', hL, e1, e2, ⟨u, hp, hb, hF⟩, hce, hcv, hcl, st⟩
  · cases hv
    obtain ⟨k1, k2, k3⟩ := vx_keep h0 e1 hS hA hf hL hF
    obtain ⟨t2, a1, b1⟩ := kk r u t T'.heap (locs ++ L) e1.symm (by rw [← e2]; exact X'.warmed.alike) hp hb k1 k2 k3 T' rfl X'
    exact ⟨t2, st t2 a1, b1⟩
  · obtain ⟨k1, k2, k3⟩ := vx_keep h0 e1 hS hAX hf hL hF
    obtain ⟨t2, a1, b1⟩ := kx E ce q u t T'.heap (locs ++ L) e1.symm (by rw [← e2]; exact X'.warmed.alike) hp hb k1 k2 k3 (by rw [e1]; exact hce) hcv hcl T' rfl X'
    exact ⟨t2, st.trans a1, b1⟩
theorem vx_callf {S SX : Type} {post : UInt32 → S → Prop} {px : SX → Prop} {B : S → State → Prop} {BX : String → SX → State → Prop} {AX : Nat → Prop} (hr : vx_Run p l e R s m args below meth c H locs cells slots mc ms (F0 m pc ls st0) rest (va_Qf post B A1 a) (vx_X px BX AX) free) (hS : va_S A0 H0 H locs) (hA : ∀ q, q < H.size → A1 q → A0 q) (hf : ∀ q, free q → A0 q) (hAX : ∀ q, q < H.size → AX q → A0 q)
    (kx : ∀ (E : String) (ce : Cell) (q9 : Addr) (u : SX) (t : State) (H1 : Heap) (locs1 : List Loc), t.heap = H1 → s.vm.Alike t.vm → px u → BX E u t → H.size ≤ H1.size → (∀ q : Nat, q < H.size → ¬ AX q → H1[q]? = H[q]?) → va_S A0 H0 H1 locs1 → H1[q9]? = some ce → ce.vm = .none → s.vm.findClass E = some ce.cls → vx_W p l e R s m args below meth c H1 locs1 (cells + mc) (slots + ms) Q (F0 m pc ls rest) q9)
    (kk : ∀ (r : UInt32) (u : S) (t : State) (H1 : Heap) (locs1 : List Loc), t.heap = H1 → s.vm.Alike t.vm → post r u → B u t → H.size ≤ H1.size → (∀ q : Nat, q < H.size → ¬ A1 q → H1[q]? = H[q]?) → va_S A0 H0 H1 locs1 → W p l e R s m args below meth c H1 locs1 (cells + mc) (slots + ms) Q (F0 m (pc + 3) ls (.float r :: rest))) : W p l e R s m args below meth c H locs cells slots Q (F0 m pc ls st0) := by
  intro T hT X
  rcases hr T hT X with ⟨v, st₀, t, T', L, h0, X', hL, e1, e2, ⟨⟨r, u, hv, hp, hb⟩, hF⟩, st⟩ | ⟨q, st₀, t, T', L, E, ce, h0, X', hL, e1, e2, ⟨u, hp, hb, hF⟩, hce, hcv, hcl, st⟩
  · cases hv
    obtain ⟨k1, k2, k3⟩ := vx_keep h0 e1 hS hA hf hL hF
    obtain ⟨t2, a1, b1⟩ := kk r u t T'.heap (locs ++ L) e1.symm (by rw [← e2]; exact X'.warmed.alike) hp hb k1 k2 k3 T' rfl X'
    exact ⟨t2, st t2 a1, b1⟩
  · obtain ⟨k1, k2, k3⟩ := vx_keep h0 e1 hS hAX hf hL hF
    obtain ⟨t2, a1, b1⟩ := kx E ce q u t T'.heap (locs ++ L) e1.symm (by rw [← e2]; exact X'.warmed.alike) hp hb k1 k2 k3 (by rw [e1]; exact hce) hcv hcl T' rfl X'
    exact ⟨t2, st.trans a1, b1⟩
theorem vx_calld {S SX : Type} {post : UInt64 → S → Prop} {px : SX → Prop} {B : S → State → Prop} {BX : String → SX → State → Prop} {AX : Nat → Prop} (hr : vx_Run p l e R s m args below meth c H locs cells slots mc ms (F0 m pc ls st0) rest (va_Qd post B A1 a) (vx_X px BX AX) free) (hS : va_S A0 H0 H locs) (hA : ∀ q, q < H.size → A1 q → A0 q) (hf : ∀ q, free q → A0 q) (hAX : ∀ q, q < H.size → AX q → A0 q)
    (kx : ∀ (E : String) (ce : Cell) (q9 : Addr) (u : SX) (t : State) (H1 : Heap) (locs1 : List Loc), t.heap = H1 → s.vm.Alike t.vm → px u → BX E u t → H.size ≤ H1.size → (∀ q : Nat, q < H.size → ¬ AX q → H1[q]? = H[q]?) → va_S A0 H0 H1 locs1 → H1[q9]? = some ce → ce.vm = .none → s.vm.findClass E = some ce.cls → vx_W p l e R s m args below meth c H1 locs1 (cells + mc) (slots + ms) Q (F0 m pc ls rest) q9)
    (kk : ∀ (r : UInt64) (u : S) (t : State) (H1 : Heap) (locs1 : List Loc), t.heap = H1 → s.vm.Alike t.vm → post r u → B u t → H.size ≤ H1.size → (∀ q : Nat, q < H.size → ¬ A1 q → H1[q]? = H[q]?) → va_S A0 H0 H1 locs1 → W p l e R s m args below meth c H1 locs1 (cells + mc) (slots + ms) Q (F0 m (pc + 3) ls (.double r :: rest))) : W p l e R s m args below meth c H locs cells slots Q (F0 m pc ls st0) := by
  intro T hT X
  rcases hr T hT X with ⟨v, st₀, t, T', L, h0, X', hL, e1, e2, ⟨⟨r, u, hv, hp, hb⟩, hF⟩, st⟩ | ⟨q, st₀, t, T', L, E, ce, h0, X', hL, e1, e2, ⟨u, hp, hb, hF⟩, hce, hcv, hcl, st⟩
  · cases hv
    obtain ⟨k1, k2, k3⟩ := vx_keep h0 e1 hS hA hf hL hF
    obtain ⟨t2, a1, b1⟩ := kk r u t T'.heap (locs ++ L) e1.symm (by rw [← e2]; exact X'.warmed.alike) hp hb k1 k2 k3 T' rfl X'
    exact ⟨t2, st t2 a1, b1⟩
  · obtain ⟨k1, k2, k3⟩ := vx_keep h0 e1 hS hAX hf hL hF
    obtain ⟨t2, a1, b1⟩ := kx E ce q u t T'.heap (locs ++ L) e1.symm (by rw [← e2]; exact X'.warmed.alike) hp hb k1 k2 k3 (by rw [e1]; exact hce) hcv hcl T' rfl X'
    exact ⟨t2, st.trans a1, b1⟩
theorem vx_callv {S SX : Type} {post : S → Prop} {px : SX → Prop} {B : S → State → Prop} {BX : String → SX → State → Prop} {AX : Nat → Prop} (hr : vx_Run p l e R s m args below meth c H locs cells slots mc ms (F0 m pc ls st0) rest (va_Qv post B A1 a) (vx_X px BX AX) free) (hS : va_S A0 H0 H locs) (hA : ∀ q, q < H.size → A1 q → A0 q) (hf : ∀ q, free q → A0 q) (hAX : ∀ q, q < H.size → AX q → A0 q)
    (kx : ∀ (E : String) (ce : Cell) (q9 : Addr) (u : SX) (t : State) (H1 : Heap) (locs1 : List Loc), t.heap = H1 → s.vm.Alike t.vm → px u → BX E u t → H.size ≤ H1.size → (∀ q : Nat, q < H.size → ¬ AX q → H1[q]? = H[q]?) → va_S A0 H0 H1 locs1 → H1[q9]? = some ce → ce.vm = .none → s.vm.findClass E = some ce.cls → vx_W p l e R s m args below meth c H1 locs1 (cells + mc) (slots + ms) Q (F0 m pc ls rest) q9)
    (kk : ∀ (u : S) (t : State) (H1 : Heap) (locs1 : List Loc), t.heap = H1 → s.vm.Alike t.vm → post u → B u t → H.size ≤ H1.size → (∀ q : Nat, q < H.size → ¬ A1 q → H1[q]? = H[q]?) → va_S A0 H0 H1 locs1 → W p l e R s m args below meth c H1 locs1 (cells + mc) (slots + ms) Q (F0 m (pc + 3) ls (rest))) : W p l e R s m args below meth c H locs cells slots Q (F0 m pc ls st0) := by
  intro T hT X
  rcases hr T hT X with ⟨v, st₀, t, T', L, h0, X', hL, e1, e2, ⟨⟨u, hv, hp, hb⟩, hF⟩, st⟩ | ⟨q, st₀, t, T', L, E, ce, h0, X', hL, e1, e2, ⟨u, hp, hb, hF⟩, hce, hcv, hcl, st⟩
  · cases hv
    obtain ⟨k1, k2, k3⟩ := vx_keep h0 e1 hS hA hf hL hF
    obtain ⟨t2, a1, b1⟩ := kk u t T'.heap (locs ++ L) e1.symm (by rw [← e2]; exact X'.warmed.alike) hp hb k1 k2 k3 T' rfl X'
    exact ⟨t2, st t2 a1, b1⟩
  · obtain ⟨k1, k2, k3⟩ := vx_keep h0 e1 hS hAX hf hL hF
    obtain ⟨t2, a1, b1⟩ := kx E ce q u t T'.heap (locs ++ L) e1.symm (by rw [← e2]; exact X'.warmed.alike) hp hb k1 k2 k3 (by rw [e1]; exact hce) hcv hcl T' rfl X'
    exact ⟨t2, st.trans a1, b1⟩
/-- caught by the row x of this method's table; the rows ahead don't take it -/
theorem vx_catch {own name : String} {E : String} {ce : Cell} {q : Addr} (hown : s.vm.findClass own = some m.cls) (pre : List ExceptionTableEntry) (x : ExceptionTableEntry) (suf : List ExceptionTableEntry) (hsplit : c.exceptionTable.toList = pre ++ x :: suf)
    (hpass : ∀ z ∈ pre, covers z pc = false ∨ (z.catchType ≠ 0 ∧ ∃ nm : String, (Cond.classLink own z.catchType nm).before args s = true ∧ va_Nc E nm s)) (hx : covers x pc = true) (h0 : x.catchType ≠ 0)
    (hlink : (Cond.classLink own x.catchType name).before args s = true) (hcast : (Cond.castable E name).before args s = true) (hcell : H[q]? = some ce) (hv : ce.vm = .none) (hcl : s.vm.findClass E = some ce.cls)
    (kk : W p l e R s m args below meth c H locs cells slots Q (F0 m x.handlerPc ls [.ref q])) : vx_W p l e R s m args below meth c H locs cells slots Q (F0 m pc ls rest) q := by
  intro T hT X
  have hpl : e.platform.magicAccessors = ({} : Platform).magicAccessors := by rw [X.admits.platform]
  obtain ⟨c3, c4, hc3, hc4, hasg⟩ := Cond.castable_spec hcast
  cases Option.some.inj (hc3.symm.trans hcl)
  obtain ⟨c5, hc5, hcl5⟩ := Cond.classLink_spec hown hlink e.platform hpl
  cases Option.some.inj (hc4.symm.trans hc5)
  obtain ⟨vm', X', st⟩ := X.thenCaughtThrough q (g := F0 m pc ls rest) rfl (Steps.refl _) (by rw [hT]; exact hcell) (by rw [hv]; rfl) (by obtain ⟨k9, h9, -⟩ := Vm.findClass_spec hcl; exact ⟨k9, h9⟩) pre x suf hsplit
    (fun z hz => by
      rcases hpass z hz with h | ⟨hz0, nm, hl1, hn1⟩
      · exact Or.inl h
      · obtain ⟨c6, hc6, hcl6⟩ := Cond.classLink_spec hown hl1 e.platform hpl
        obtain ⟨a8, b8, h1, h2, h3⟩ := hn1
        cases Option.some.inj (h1.symm.trans hcl)
        cases Option.some.inj (h2.symm.trans hc6)
        exact Or.inr ⟨hz0, _, hcl6, h3⟩) hx (Or.inr ⟨h0, c4, hcl5, hasg⟩)
  obtain ⟨t, a1, b1⟩ := kk (T.setVm vm') hT X'
  exact ⟨t, st.trans a1, b1⟩
end Rows
section Ends
variable {p : Program} {l : Launch} {e : Env} {R : Room} {s : State} {m : MethodId} {args : Array Value} {below : List Frame} {meth : Method} {c : Code} {H : Heap} {locs : List Loc} {cells slots : Nat} {Q : State → Prop}
variable {mc ms : Nat} {free : Addr → Prop} {A0 A1 : Nat → Prop} {H0 : Heap} {a : Array Value} {ls : Array Slot} {st0 rest : List Value}
variable {Qc : Array Value → State → Outcome → State → Prop} {XC : String → State → State → Prop}
/-- what a body that may throw owes at its end -/
def vx_MQ (below : List Frame) (Qc : Array Value → State → Outcome → State → Prop) (XC : String → State → State → Prop) (a : Array Value) (s : State) (mc ms : Nat) (free : Addr → Prop) : State → Prop := fun t =>
  ∃ o, t.status = .running ∧ Ended t below o ∧ vx_Q Qc XC mc ms free a s o t
theorem vx_ret {g : JFrame} {mc ms : Nat} (k : W p l e R s m args below meth c H locs cells slots (MQ below Qc args s mc ms free) g) : W p l e R s m args below meth c H locs cells slots (vx_MQ below Qc XC args s mc ms free) g := by
  intro T hT X
  obtain ⟨t, a1, o, b1, b2, b3, b4⟩ := k T hT X
  exact ⟨t, a1, o, b1, b2, Or.inl ⟨b3, b4⟩⟩
/-- not caught here: it goes on to the caller -/
theorem vx_widen {g : JFrame} {q : Addr} {k n : Nat} (h1 : cells ≤ k) (h2 : slots ≤ n) (kk : vx_W p l e R s m args below meth c H locs k n Q g q) : vx_W p l e R s m args below meth c H locs cells slots Q g q := fun T hT X => kk T hT (stand_widen X h1 h2)
theorem vx_out {pc : Nat} {E : String} {ce : Cell} {q : Addr} {mc ms : Nat} (hout : ∀ x ∈ c.exceptionTable.toList, covers x pc = false) (hlocks : meth.locks = false) (hcell : H[q]? = some ce) (hv : ce.vm = .none) (hcl : s.vm.findClass E = some ce.cls)
    (hx : ∀ t : State, t.heap = H → s.vm.Alike t.vm → XC E s t) (hf : ∀ z ∈ locs, free z.base) (hc : cells ≤ mc) (hs : slots ≤ ms) :
    vx_W p l e R s m args below meth c H locs cells slots (vx_MQ below Qc XC args s mc ms free) (F0 m pc ls rest) q := by
  intro T hT X
  obtain ⟨st1, hrun, hend, hW, hsm⟩ := X.leaveThrown q (g := F0 m pc ls rest) rfl rfl rfl hout hlocks
  have hcell9 : (T.setFrames (.throwing q :: below)).heap[q]? = some ce := by
    show T.heap[q]? = some ce
    rw [hT]; exact hcell
  exact ⟨_, st1, .threw q, hrun, hend, Or.inr ⟨q, rfl, E, ce, locs, hx _ hT hW.alike, hcell9, hv, hcl, hW, hsm.mono hc hs, hf⟩⟩
theorem vx_frame {U : State} {k n : Nat} (h : s.sameButNew ({ U with vm := s.vm } : State) locs k n) : s.heap.size ≤ U.heap.size ∧ ∀ q : Nat, q < s.heap.size → (∀ z ∈ locs, z.base ≠ q) → U.heap[q]? = s.heap[q]? := by
  obtain ⟨-, h2, -, -, -, h6⟩ := h
  refine ⟨h2, fun q hq hz => ?_⟩
  obtain ⟨c9, e1, e2, e3, e4⟩ := h6 q _ (Array.getElem?_eq_getElem hq)
  have hs : c9.slots = (s.heap[q]).slots := Array.ext_getElem? fun i => e4 i fun hm => hz _ hm rfl
  have h9 : c9 = s.heap[q] := by
    rw [hs] at e2
    exact e2
  have e5 : U.heap[q]? = some c9 := e1
  rw [e5, h9, Array.getElem?_eq_getElem hq]
/-- the words of a throw but the four that speak of the heap -/
def vx_no (w : Cond) : Bool := decide (w ≠ .isRef (.static Bundle.tN "UNASSIGNED_STACK" Bundle.steD)) && decide (w ≠ .isRef (.static Bundle.tN "SUPPRESSED_SENTINEL" Bundle.listD)) && decide (w ≠ .laysStatic Bundle.tN "UNASSIGNED_STACK" Bundle.steD) && decide (w ≠ .laysStatic Bundle.tN "SUPPRESSED_SENTINEL" Bundle.listD)
def vx_at0 (own : String) (ic : Nat) (X : String) (names : List String) : List Cond := (Bundle.ownAtoms0 own ic X names).filter vx_no
def vx_atS (own : String) (ic : Nat) (X : String) (names : List String) : List Cond := (Bundle.ownAtoms own ic X names).filter vx_no
/-- a word that the tables alone decide, or a good one -/
def vx_ot (w : Cond) : Bool := w.onTables || goodWord w
theorem vx_ot_at {args a' : Array Value} {s U : State} {w : Cond} (hW : s.WarmedH U.vm) (hvm : s.vm = U.vm) (hg : vx_ot w = true) (h : w.before args s = true) : w.before a' U = true := by
  simp only [vx_ot, Bool.or_eq_true] at hg
  rcases hg with hg | hg
  · exact va_tabs hg hvm h
  · exact word_at hW (good_of_word hg) h
/-- a list's words: the good ones out of the method's own list, the others by premises of their own -/
theorem vx_hat {args : Array Value} {s : State} {L B : List Cond} (h1 : ∀ w ∈ L.filter goodWord, w.before args s = true) (h2 : ∀ w ∈ L.filter (fun w => !goodWord w), w ∈ B) (h3 : ∀ w ∈ B, w.before args s = true) : ∀ w ∈ L, w.before args s = true := by
  intro w hw
  by_cases g : goodWord w = true
  · exact h1 w (List.mem_filter.mpr ⟨hw, g⟩)
  · refine h3 w (h2 w (List.mem_filter.mpr ⟨hw, ?_⟩))
    show (!goodWord w) = true
    cases hgw : goodWord w
    · rfl
    · exact absurd hgw g
theorem vx_c {args : Array Value} {s : State} {w : Cond} {B : List Cond} (h : w.before args s = true) (t : ∀ w ∈ B, w.before args s = true) : ∀ w' ∈ w :: B, w'.before args s = true := fun w' h' => (List.mem_cons.mp h').elim (fun e => by rw [e]; exact h) (t w')
theorem vx_n {args : Array Value} {s : State} : ∀ w ∈ ([] : List Cond), w.before args s = true := fun _ h => nomatch h
theorem vx_own {args : Array Value} {s : State} {L : List Cond} (h1 : ∀ w ∈ L.filter vx_no, w.before args s = true)
    (hU : (Cond.isRef (.static Bundle.tN "UNASSIGNED_STACK" Bundle.steD)).before args s = true) (hN : (Cond.isRef (.static Bundle.tN "SUPPRESSED_SENTINEL" Bundle.listD)).before args s = true)
    (lU : (Cond.laysStatic Bundle.tN "UNASSIGNED_STACK" Bundle.steD).before args s = true) (lN : (Cond.laysStatic Bundle.tN "SUPPRESSED_SENTINEL" Bundle.listD).before args s = true) : ∀ w ∈ L, w.before args s = true := by
  intro w hw
  by_cases e1 : w = .isRef (.static Bundle.tN "UNASSIGNED_STACK" Bundle.steD)
  · rw [e1]; exact hU
  · by_cases e2 : w = .isRef (.static Bundle.tN "SUPPRESSED_SENTINEL" Bundle.listD)
    · rw [e2]; exact hN
    · by_cases e3 : w = .laysStatic Bundle.tN "UNASSIGNED_STACK" Bundle.steD
      · rw [e3]; exact lU
      · by_cases e4 : w = .laysStatic Bundle.tN "SUPPRESSED_SENTINEL" Bundle.listD
        · rw [e4]; exact lN
        · exact h1 w (List.mem_filter.mpr ⟨hw, by unfold vx_no; rw [decide_eq_true e1, decide_eq_true e2, decide_eq_true e3, decide_eq_true e4]; rfl⟩)
/-- where a static field lies, its class's statics cell in H -/
def vx_L (C n d : String) (A : Nat → Prop) (U : State) (H : Heap) : Prop := ∃ (c : ClassId) (k : Class) (i : Nat) (f : Field) (a : Nat) (cell : Cell), U.vm.findClass C = some c ∧ U.fieldFound? C n d = some (c, k, i, f) ∧ f.isStatic = true ∧ k.statics = some a ∧ H[a]? = some cell ∧ cell.vm.isStatics = true ∧ cell.cls = c ∧ f.slot < cell.slots.size ∧ k.staticTypes[f.slot]? = some f.type ∧ ¬ A a
theorem vx_L.moved {C n d : String} {A : Nat → Prop} {u U : State} {H : Heap} (hvm : u.vm.Alike U.vm) (h : vx_L C n d A u H) : vx_L C n d A U H := by
  obtain ⟨c, k, i, f, a, cell, h1, h2, h3, h4, h5, h6, h7, h8, h9, h10⟩ := h
  obtain ⟨k', hi', he⟩ := State.fieldFound?_setVm hvm h2
  exact ⟨c, k', i, f, a, cell, by rw [hvm.findClass]; exact h1, hi', h3, by rw [he]; exact h4, h5, h6, h7, h8, by rw [he]; exact h9, h10⟩
theorem vx_L.kept {C n d : String} {A : Nat → Prop} {U : State} {H H1 : Heap} (h : vx_L C n d A U H) (hq : ∀ a : Nat, a < H.size → ¬ A a → H1[a]? = H[a]?) : vx_L C n d A U H1 := by
  obtain ⟨c, k, i, f, a, cell, h1, h2, h3, h4, h5, h6, h7, h8, h9, h10⟩ := h
  exact ⟨c, k, i, f, a, cell, h1, h2, h3, h4, by rw [hq a (Array.getElem?_eq_some_iff.mp h5).1 h10]; exact h5, h6, h7, h8, h9, h10⟩
theorem vx_L.narrow {C n d : String} {A B : Nat → Prop} {U : State} {H : Heap} (h : vx_L C n d A U H) (hAB : ∀ q, B q → A q) : vx_L C n d B U H := by
  obtain ⟨c, k, i, f, a, cell, h1, h2, h3, h4, h5, h6, h7, h8, h9, h10⟩ := h
  exact ⟨c, k, i, f, a, cell, h1, h2, h3, h4, h5, h6, h7, h8, h9, fun z => h10 (hAB _ z)⟩
theorem vx_L.word {C n d : String} {A : Nat → Prop} {s : State} {args : Array Value} (h : vx_L C n d A s s.heap) : (Cond.laysStatic C n d).before args s = true := by
  obtain ⟨c, k, i, f, a, cell, h1, h2, h3, h4, h5, h6, h7, h8, h9, -⟩ := h
  show (Cond.laysStatic C n d).holds args s none s [] = true
  exact Cond.laysStatic_of h1 h2 h3 h4 h5 h6 h7 h8 h9
/-- .. and what it holds: null or some reference -/
def vx_Zq (C n d : String) (A : Nat → Prop) (U : State) (H : Heap) : Prop := va_Zq C n d A U H ∧ vx_L C n d A U H
theorem vx_Zq.moved {C n d : String} {A : Nat → Prop} {u U : State} {H : Heap} (hvm : u.vm.Alike U.vm) (h : vx_Zq C n d A u H) : vx_Zq C n d A U H := ⟨va_Zq.moved hvm h.1, vx_L.moved hvm h.2⟩
theorem vx_Zq.kept {C n d : String} {A : Nat → Prop} {U : State} {H H1 : Heap} (h : vx_Zq C n d A U H) (hq : ∀ a : Nat, a < H.size → ¬ A a → H1[a]? = H[a]?) : vx_Zq C n d A U H1 := ⟨va_Zq.kept h.1 hq, vx_L.kept h.2 hq⟩
theorem vx_Zq.narrow {C n d : String} {A B : Nat → Prop} {U : State} {H : Heap} (h : vx_Zq C n d A U H) (hAB : ∀ q, B q → A q) : vx_Zq C n d B U H := ⟨va_Zq.narrow h.1 hAB, vx_L.narrow h.2 hAB⟩
theorem vx_Zqof {args : Array Value} {s : State} {C n d : String} {A : Nat → Prop} (hl : (Cond.laysStatic C n d).before args s = true) (hini : (Cond.initialized C).before args s = true) (h : (Cond.isRef (.static C n d)).before args s = true) (hA : ∀ a : Nat, a < s.heap.size → ¬ A a) : vx_Zq C n d A s s.heap := by
  refine ⟨va_Zqof hl hini h hA, ?_⟩
  obtain ⟨c, k, i, f, a, cell, h1, h2, h3, h4, h5, h6, h7, h8, h9⟩ := Cond.laysStatic_spec hl
  exact ⟨c, k, i, f, a, cell, h1, h2, h3, h4, h5, h6, h7, h8, h9, hA a (Array.getElem?_eq_some_iff.mp h5).1⟩
theorem vx_isRef {C n d : String} {v : Value} {A : Nat → Prop} {s : State} {args : Array Value} (h : va_Z C n d v A s s.heap) (hv : v.isRef = true) : (Cond.isRef (.static C n d)).before args s = true := by
  obtain ⟨cf, kf, fi, f, a, cell, h1, h2, h3, h4, h5, h6, h7, -⟩ := h
  have he : (Term.static C n d).eval args s none [] s = some v := by
    simp [Term.eval, State.fieldNamed?, h1, h2, h4, h5, h6, h7]
  simp only [Cond.before, Cond.holds, Cond.value, he]
  cases v <;> simp_all [Value.isRef]
theorem vx_isRefq {C n d : String} {A : Nat → Prop} {s : State} {args : Array Value} (h : va_Zq C n d A s s.heap) : (Cond.isRef (.static C n d)).before args s = true := by
  rcases h with h | ⟨t, h⟩
  · exact vx_isRef h rfl
  · exact vx_isRef h rfl
/-- the same frame, seen from here: as if the method were called anew in this heap -/
theorem vx_rebase {T : State} (X : Stand p l e R s m args below meth c T locs cells slots) {R' : Room} (hf : R'.frames ≤ R.frames) (hl : R'.locals ≤ R.locals) (hc : cells + R'.cells ≤ R.cells) (hs : slots + R'.slots ≤ R.slots) :
    Stand p l e R' ((T.setVm s.vm).setFrames (.invoking m args :: below)) m args below meth c T [] 0 0 := by
  have htop : (T.setVm s.vm).topJava?.isSome := X.here.top
  have hF : ((T.setVm s.vm).setFrames (.invoking m args :: below)).frames = .invoking m args :: below := State.frames_setFrames _ (State.cur_lt_of_top htop)
  obtain ⟨g₀, hg0⟩ := Option.isSome_iff_exists.mp htop
  obtain ⟨r, hr⟩ := State.topJava?_eq_some.mp hg0
  have hl9 : e.platform.stackLimits (T.setVm s.vm).me = e.platform.stackLimits s.me := X.limits
  have hb9 : (T.setVm s.vm).me.stackBytes = s.me.stackBytes := X.bytes
  refine ⟨X.admits, X.cas, X.clock, hF, ?_, X.hears, X.method, X.code, X.here, X.tail, X.warmed, ?_, ?_, ?_⟩
  · have h := X.room
    have hU : ((T.setVm s.vm).setFrames (.invoking m args :: below)).localsInUse = s.localsInUse := by
      rw [State.localsInUse_invoking hF (meth := meth) (c := c) X.method X.code, State.localsInUse_invoking X.frames X.method X.code]
    simp only [State.hasRoom, Bool.and_eq_true, decide_eq_true_eq] at h ⊢
    obtain ⟨⟨⟨⟨h1, h2, h3, h4, h5, h6⟩, h7⟩, h8⟩, h9⟩ := h
    rw [X.frames, List.length_cons] at h2 h3
    have q1 := X.heapSize
    have q2 := X.used
    simp only [hF, hU, List.length_cons, State.stackLimits_setFrames, State.stackBytes_setFrames, hl9, hb9]
    refine ⟨⟨⟨⟨by omega, by omega, by omega, by omega, by omega, h6⟩, ?_⟩, ?_⟩, X.book⟩
    · show T.heap.size + R'.cells ≤ e.platform.maxCells
      omega
    · show T.slotsUsed + R'.slots ≤ e.platform.maxSlots
      omega
  · rw [State.stackLimits_setFrames]; rfl
  · rw [State.stackBytes_setFrames]; rfl
  · refine ⟨?_, Nat.le_refl _, Nat.le_refl _, ?_, ?_, fun a c9 h9 => ⟨c9, h9, rfl, rfl, fun _ _ => rfl⟩⟩
    · obtain ⟨t, ht, -⟩ := State.frames_cons hr
      show T.setVm s.vm = { ((T.setVm s.vm).setFrames (.invoking m args :: below)).setFrames (T.setVm s.vm).frames with heap := T.heap, slotsUsed := T.slotsUsed }
      rw [State.setFrames_setFrames, State.setFrames_self ht]
      rfl
    · show T.slotsUsed = T.slotsUsed + ((T.heap.toList.drop T.heap.size).map (·.slots.size)).sum
      rw [List.drop_eq_nil_of_le (Nat.le_of_eq Array.length_toList)]
      rfl
    · show ((T.heap.toList.drop T.heap.size).map (·.slots.size)).sum ≤ 0
      rw [List.drop_eq_nil_of_le (Nat.le_of_eq Array.length_toList)]
      exact Nat.le_refl _
/-- 'throw new E()': new; dup; invokespecial; athrow -/
theorem vx_throw0 {cc : ByteArray} {pc : Nat} (hexec : p.tables.exec = Jvm.exec) (hb : c.code = cc) (hl : l.stackTraces = false) {own cls : String} {names : List String} {ik ic mc ms : Nat} {A : Nat → Prop}
    (hown : s.vm.findClass own = some m.cls) (hcls : Bundle.fit cls = true) (hnames : ∀ n ∈ names, Bundle.fit n = true)
    (hk : (Cond.classLink own ik cls).before args s = true) (hini : (Cond.initialized cls).before args s = true) (hat : ∀ w ∈ vx_at0 own ic cls names, w.before args s = true)
    (hgood : ∀ w ∈ Cond.classLink own ik cls :: Cond.initialized cls :: vx_at0 own ic cls names, vx_ot w = true)
    (hU : vx_Zq Bundle.tN "UNASSIGNED_STACK" Bundle.steD A s s.heap) (hN : vx_Zq Bundle.tN "SUPPRESSED_SENTINEL" Bundle.listD A s s.heap) (hS : va_S A s.heap H locs) (hsize : ls.size = c.maxLocals)
    (d0 : decode cc pc = .ok (.new ik, 3)) (d3 : decode cc (pc + 3) = .ok (.dup, 1)) (d4 : decode cc (pc + 4) = .ok (.invokespecial ic, 3)) (d7 : decode cc (pc + 7) = .ok (.athrow, 1))
    (hout : ∀ x ∈ c.exceptionTable.toList, covers x (pc + 7) = false)
    (hRframes : names.length + 3 < R.frames) (hRlocals : (rest.map fun v => v.category).sum + (13 * (names.length + 1) + 42) ≤ R.locals) (hRcells : cells + 1 ≤ R.cells) (hRslots : slots + 6 ≤ R.slots) (hlocks : meth.locks = false)
    (hx : ∀ t : State, s.vm.Alike t.vm → H.size ≤ t.heap.size → (∀ q : Nat, q < H.size → t.heap[q]? = H[q]?) → XC cls s t)
    (hf : ∀ z ∈ locs, free z.base) (hc : cells + 1 ≤ mc) (hs : slots + 6 ≤ ms) :
    W p l e R s m args below meth c H locs cells slots (vx_MQ below Qc XC args s mc ms free) (F0 m pc ls rest) := by
  intro T hT X
  have htr : e.platform.stackTraces = false := (show e.platform.stackTraces = l.stackTraces by rw [X.admits.platform]).trans hl
  have Y := vx_rebase X (R' := { frames := R.frames, locals := R.locals, cells := 1, slots := 6 }) (Nat.le_refl _) (Nat.le_refl _) hRcells hRslots
  obtain ⟨s', hA⟩ : ∃ z, z = (T.setVm s.vm).setFrames (.invoking m args :: below) := ⟨_, rfl⟩
  rw [← hA] at Y
  have hvm : s'.vm = s.vm := by rw [hA]; rfl
  have hhp : s'.heap = H := by rw [hA]; exact hT
  have hW0 : s.WarmedH s'.vm := by rw [hvm]; exact State.WarmedH.refl s
  have hat' : ∀ w ∈ vx_at0 own ic cls names, w.before args s' = true := fun w hw => vx_ot_at hW0 hvm.symm (hgood w (List.mem_cons_of_mem _ (List.mem_cons_of_mem _ hw))) (hat w hw)
  have hk' : (Cond.classLink own ik cls).before args s' = true := vx_ot_at hW0 hvm.symm (hgood _ List.mem_cons_self) hk
  have hini' : (Cond.initialized cls).before args s' = true := vx_ot_at hW0 hvm.symm (hgood _ (List.mem_cons_of_mem _ List.mem_cons_self)) hini
  have hU' : vx_Zq Bundle.tN "UNASSIGNED_STACK" Bundle.steD A s' s'.heap := by rw [hhp]; exact vx_Zq.moved hW0.alike (hU.kept hS.2.1)
  have hN' : vx_Zq Bundle.tN "SUPPRESSED_SENTINEL" Bundle.listD A s' s'.heap := by rw [hhp]; exact vx_Zq.moved hW0.alike (hN.kept hS.2.1)
  have h : ∀ w ∈ Bundle.ownAtoms0 own ic cls names, w.before args s' = true := vx_own hat' (vx_isRefq hU'.1) (vx_isRefq hN'.1) hU'.2.word hN'.2.word
  have hown' : s'.vm.findClass own = some m.cls := by rw [hvm]; exact hown
  have hins : (Cond.instantiable cls 6).before args s' = true := h _ (by simp [Bundle.ownAtoms0])
  obtain ⟨vm₁, cX, kX, hfX, hkX, -, -, X₁, st1⟩ := Y.newCold hexec (own := own) (C := cls) (index := ik) (n := 6) hown' hk' hins hini'
    (g := F0 m pc ls rest) rfl (by rw [hb]; exact d0) (Nat.le_refl _) (Nat.le_refl _)
  generalize hT1 : (T.setVm vm₁).pushCell { cls := cX, slots := kX.instanceTypes.map defaultValue, vm := .none } = T1 at X₁ st1
  have hcat : (Value.ref T.heap.size).category = 1 := rfl
  have hcellA : T1.heap[T.heap.size]? = some (freshCell cX kX) := by rw [← hT1]; exact State.heap_pushCell_size _ _
  have d3' : decode c.code (pc + 3) = .ok (.dup, 1) := by rw [hb]; exact d3
  obtain ⟨U, hsteps, hrun, hend, hW, hsame, ce, hce, hO⟩ := X₁.ctorThrow0 hexec htr (own := own) (cls := cls) (names := names) (ic := ic) hown' hcls hnames h (fun x hx => nomatch hx) hfX hkX hcellA (by rw [hhp, hT]; exact Nat.le_refl _)
    (g := { method := m, pc := pc + 4, locals := ls, stack := .ref T.heap.size :: .ref T.heap.size :: rest, locked := none }) rfl hsize rfl rfl (rest := rest) rfl
    (by rw [hb]; exact d4) (by rw [hb]; exact d7) hout hRframes (by simp only [List.map_cons, List.sum_cons, hcat]; omega) hlocks
  obtain ⟨f1, f2⟩ := vx_frame hsame
  rw [hhp] at f1 f2
  have hWs : s.WarmedH U.vm := State.WarmedH.trans hW0 hW
  have hcl : s.vm.findClass cls = some ce.cls := by
    have h9 := hO.cls
    rw [hvm] at h9
    exact h9
  have hall : s.sameButNew ({ U with vm := s.vm } : State) locs mc ms := by
    subst hA
    obtain ⟨e1, e2⟩ := hsame
    rw [State.setFrames_setFrames] at e1
    have h2 : (T.setVm s.vm).sameButNew ({ U with vm := s.vm } : State) [] (0 + 1) (0 + 6) := ⟨e1, e2⟩
    have h3 := X.same.trans h2
    rw [List.append_nil] at h3
    exact h3.mono hc hs
  refine ⟨U, ?_, .threw T.heap.size, hrun, hend, Or.inr ⟨T.heap.size, rfl, cls, ce, locs, hx U hWs.alike f1 (fun q hq => f2 q hq (fun z hz => nomatch hz)), hce, hO.vm, hcl, hWs, hall, hf⟩⟩
  refine st1 _ ?_
  show Steps p.tables e below (T1.setTop { method := m, pc := pc + 3, locals := ls, stack := .ref T.heap.size :: rest, locked := none }) _
  jvm_step X₁.here [X₁.here.top, hexec, d3', Value.category]
  exact hsteps
/-- 'throw new E("text")': new; dup; ldc; invokespecial; athrow -/
theorem vx_throwS {cc : ByteArray} {pc : Nat} (hexec : p.tables.exec = Jvm.exec) (hb : c.code = cc) (hl : l.stackTraces = false) {own cls text : String} {names : List String} {ik is ic mc ms sa : Nat} {A : Nat → Prop}
    (hown : s.vm.findClass own = some m.cls) (hcls : Bundle.fit cls = true) (hnames : ∀ n ∈ names, Bundle.fit n = true)
    (hk : (Cond.classLink own ik cls).before args s = true) (hini : (Cond.initialized cls).before args s = true) (hstr : vk_R own is text sa s) (hat : ∀ w ∈ vx_atS own ic cls names, w.before args s = true)
    (hgood : ∀ w ∈ Cond.classLink own ik cls :: Cond.initialized cls :: vx_atS own ic cls names, vx_ot w = true)
    (hU : vx_Zq Bundle.tN "UNASSIGNED_STACK" Bundle.steD A s s.heap) (hN : vx_Zq Bundle.tN "SUPPRESSED_SENTINEL" Bundle.listD A s s.heap) (hS : va_S A s.heap H locs) (hsize : ls.size = c.maxLocals)
    (d0 : decode cc pc = .ok (.new ik, 3)) (d3 : decode cc (pc + 3) = .ok (.dup, 1)) (d4 : decode cc (pc + 4) = .ok (.ldc is, 2)) (d6 : decode cc (pc + 6) = .ok (.invokespecial ic, 3)) (d9 : decode cc (pc + 9) = .ok (.athrow, 1))
    (hout : ∀ x ∈ c.exceptionTable.toList, covers x (pc + 9) = false)
    (hRframes : names.length + 3 < R.frames) (hRlocals : (rest.map fun v => v.category).sum + (13 * (names.length + 1) + 43) ≤ R.locals) (hRcells : cells + 1 ≤ R.cells) (hRslots : slots + 6 ≤ R.slots) (hlocks : meth.locks = false)
    (hx : ∀ t : State, s.vm.Alike t.vm → H.size ≤ t.heap.size → (∀ q : Nat, q < H.size → t.heap[q]? = H[q]?) → XC cls s t)
    (hf : ∀ z ∈ locs, free z.base) (hc : cells + 1 ≤ mc) (hs : slots + 6 ≤ ms) :
    W p l e R s m args below meth c H locs cells slots (vx_MQ below Qc XC args s mc ms free) (F0 m pc ls rest) := by
  intro T hT X
  have htr : e.platform.stackTraces = false := (show e.platform.stackTraces = l.stackTraces by rw [X.admits.platform]).trans hl
  have Y := vx_rebase X (R' := { frames := R.frames, locals := R.locals, cells := 1, slots := 6 }) (Nat.le_refl _) (Nat.le_refl _) hRcells hRslots
  obtain ⟨s', hA⟩ : ∃ z, z = (T.setVm s.vm).setFrames (.invoking m args :: below) := ⟨_, rfl⟩
  rw [← hA] at Y
  have hvm : s'.vm = s.vm := by rw [hA]; rfl
  have hhp : s'.heap = H := by rw [hA]; exact hT
  have hW0 : s.WarmedH s'.vm := by rw [hvm]; exact State.WarmedH.refl s
  have hat' : ∀ w ∈ vx_atS own ic cls names, w.before args s' = true := fun w hw => vx_ot_at hW0 hvm.symm (hgood w (List.mem_cons_of_mem _ (List.mem_cons_of_mem _ hw))) (hat w hw)
  have hk' : (Cond.classLink own ik cls).before args s' = true := vx_ot_at hW0 hvm.symm (hgood _ List.mem_cons_self) hk
  have hini' : (Cond.initialized cls).before args s' = true := vx_ot_at hW0 hvm.symm (hgood _ (List.mem_cons_of_mem _ List.mem_cons_self)) hini
  have hU' : vx_Zq Bundle.tN "UNASSIGNED_STACK" Bundle.steD A s' s'.heap := by rw [hhp]; exact vx_Zq.moved hW0.alike (hU.kept hS.2.1)
  have hN' : vx_Zq Bundle.tN "SUPPRESSED_SENTINEL" Bundle.listD A s' s'.heap := by rw [hhp]; exact vx_Zq.moved hW0.alike (hN.kept hS.2.1)
  have h : ∀ w ∈ Bundle.ownAtoms own ic cls names, w.before args s' = true := vx_own hat' (vx_isRefq hU'.1) (vx_isRefq hN'.1) hU'.2.word hN'.2.word
  have hown' : s'.vm.findClass own = some m.cls := by rw [hvm]; exact hown
  have hins : (Cond.instantiable cls 6).before args s' = true := h _ (by simp [Bundle.ownAtoms])
  obtain ⟨vm₁, cX, kX, hfX, hkX, -, -, X₁, st1⟩ := Y.newCold hexec (own := own) (C := cls) (index := ik) (n := 6) hown' hk' hins hini'
    (g := F0 m pc ls rest) rfl (by rw [hb]; exact d0) (Nat.le_refl _) (Nat.le_refl _)
  generalize hT1 : (T.setVm vm₁).pushCell { cls := cX, slots := kX.instanceTypes.map defaultValue, vm := .none } = T1 at X₁ st1
  have hcat : (Value.ref T.heap.size).category = 1 := rfl
  have hcellA : T1.heap[T.heap.size]? = some (freshCell cX kX) := by rw [← hT1]; exact State.heap_pushCell_size _ _
  have d3' : decode c.code (pc + 3) = .ok (.dup, 1) := by rw [hb]; exact d3
  have d4' : decode c.code (pc + 4) = .ok (.ldc is, 2) := by rw [hb]; exact d4
  have hstr' : vk_R own is text sa s' := vk_R.warm hW0 hstr
  obtain ⟨U, hsteps, hrun, hend, hW, hsame, ce, hce, hO⟩ := X₁.ctorThrowS hexec htr (own := own) (cls := cls) (names := names) (ic := ic) hown' hcls hnames h (fun x hx => nomatch hx) hfX hkX hcellA (by rw [hhp, hT]; exact Nat.le_refl _) (msg := .ref sa) rfl
    (g := { method := m, pc := pc + 6, locals := ls, stack := .ref sa :: .ref T.heap.size :: .ref T.heap.size :: rest, locked := none }) rfl hsize rfl rfl (rest := rest) rfl
    (by rw [hb]; exact d6) (by rw [hb]; exact d9) hout hRframes (by simp only [List.map_cons, List.sum_cons, hcat]; omega) hlocks
  obtain ⟨f1, f2⟩ := vx_frame hsame
  rw [hhp] at f1 f2
  have hWs : s.WarmedH U.vm := State.WarmedH.trans hW0 hW
  have hcl : s.vm.findClass cls = some ce.cls := by
    have h9 := hO.cls
    rw [hvm] at h9
    exact h9
  have hall : s.sameButNew ({ U with vm := s.vm } : State) locs mc ms := by
    subst hA
    obtain ⟨e1, e2⟩ := hsame
    rw [State.setFrames_setFrames] at e1
    have h2 : (T.setVm s.vm).sameButNew ({ U with vm := s.vm } : State) [] (0 + 1) (0 + 6) := ⟨e1, e2⟩
    have h3 := X.same.trans h2
    rw [List.append_nil] at h3
    exact h3.mono hc hs
  refine ⟨U, ?_, .threw T.heap.size, hrun, hend, Or.inr ⟨T.heap.size, rfl, cls, ce, locs, hx U hWs.alike f1 (fun q hq => f2 q hq (fun z hz => nomatch hz)), hce, hO.vm, hcl, hWs, hall, hf⟩⟩
  refine st1 _ ?_
  show Steps p.tables e below (T1.setTop { method := m, pc := pc + 3, locals := ls, stack := .ref T.heap.size :: rest, locked := none }) _
  jvm_step X₁.here [X₁.here.top, hexec, d3', Value.category]
  exact X₁.ldcString hexec (own := own) (text := text) (index := is) (a := sa) hown' hstr'.1 hstr'.2
    (g := { method := m, pc := pc + 4, locals := ls, stack := .ref T.heap.size :: .ref T.heap.size :: rest, locked := none }) rfl d4' _ hsteps
/-- 'throw new E("text")', the text by a wide index -/
theorem vx_throwSW {cc : ByteArray} {pc : Nat} (hexec : p.tables.exec = Jvm.exec) (hb : c.code = cc) (hl : l.stackTraces = false) {own cls text : String} {names : List String} {ik is ic mc ms sa : Nat} {A : Nat → Prop}
    (hown : s.vm.findClass own = some m.cls) (hcls : Bundle.fit cls = true) (hnames : ∀ n ∈ names, Bundle.fit n = true)
    (hk : (Cond.classLink own ik cls).before args s = true) (hini : (Cond.initialized cls).before args s = true) (hstr : vk_R own is text sa s) (hat : ∀ w ∈ vx_atS own ic cls names, w.before args s = true)
    (hgood : ∀ w ∈ Cond.classLink own ik cls :: Cond.initialized cls :: vx_atS own ic cls names, vx_ot w = true)
    (hU : vx_Zq Bundle.tN "UNASSIGNED_STACK" Bundle.steD A s s.heap) (hN : vx_Zq Bundle.tN "SUPPRESSED_SENTINEL" Bundle.listD A s s.heap) (hS : va_S A s.heap H locs) (hsize : ls.size = c.maxLocals)
    (d0 : decode cc pc = .ok (.new ik, 3)) (d3 : decode cc (pc + 3) = .ok (.dup, 1)) (d4 : decode cc (pc + 4) = .ok (.ldc_w is, 3)) (d7 : decode cc (pc + 7) = .ok (.invokespecial ic, 3)) (d10 : decode cc (pc + 10) = .ok (.athrow, 1))
    (hout : ∀ x ∈ c.exceptionTable.toList, covers x (pc + 10) = false)
    (hRframes : names.length + 3 < R.frames) (hRlocals : (rest.map fun v => v.category).sum + (13 * (names.length + 1) + 43) ≤ R.locals) (hRcells : cells + 1 ≤ R.cells) (hRslots : slots + 6 ≤ R.slots) (hlocks : meth.locks = false)
    (hx : ∀ t : State, s.vm.Alike t.vm → H.size ≤ t.heap.size → (∀ q : Nat, q < H.size → t.heap[q]? = H[q]?) → XC cls s t)
    (hf : ∀ z ∈ locs, free z.base) (hc : cells + 1 ≤ mc) (hs : slots + 6 ≤ ms) :
    W p l e R s m args below meth c H locs cells slots (vx_MQ below Qc XC args s mc ms free) (F0 m pc ls rest) := by
  intro T hT X
  have htr : e.platform.stackTraces = false := (show e.platform.stackTraces = l.stackTraces by rw [X.admits.platform]).trans hl
  have Y := vx_rebase X (R' := { frames := R.frames, locals := R.locals, cells := 1, slots := 6 }) (Nat.le_refl _) (Nat.le_refl _) hRcells hRslots
  obtain ⟨s', hA⟩ : ∃ z, z = (T.setVm s.vm).setFrames (.invoking m args :: below) := ⟨_, rfl⟩
  rw [← hA] at Y
  have hvm : s'.vm = s.vm := by rw [hA]; rfl
  have hhp : s'.heap = H := by rw [hA]; exact hT
  have hW0 : s.WarmedH s'.vm := by rw [hvm]; exact State.WarmedH.refl s
  have hat' : ∀ w ∈ vx_atS own ic cls names, w.before args s' = true := fun w hw => vx_ot_at hW0 hvm.symm (hgood w (List.mem_cons_of_mem _ (List.mem_cons_of_mem _ hw))) (hat w hw)
  have hk' : (Cond.classLink own ik cls).before args s' = true := vx_ot_at hW0 hvm.symm (hgood _ List.mem_cons_self) hk
  have hini' : (Cond.initialized cls).before args s' = true := vx_ot_at hW0 hvm.symm (hgood _ (List.mem_cons_of_mem _ List.mem_cons_self)) hini
  have hU' : vx_Zq Bundle.tN "UNASSIGNED_STACK" Bundle.steD A s' s'.heap := by rw [hhp]; exact vx_Zq.moved hW0.alike (hU.kept hS.2.1)
  have hN' : vx_Zq Bundle.tN "SUPPRESSED_SENTINEL" Bundle.listD A s' s'.heap := by rw [hhp]; exact vx_Zq.moved hW0.alike (hN.kept hS.2.1)
  have h : ∀ w ∈ Bundle.ownAtoms own ic cls names, w.before args s' = true := vx_own hat' (vx_isRefq hU'.1) (vx_isRefq hN'.1) hU'.2.word hN'.2.word
  have hown' : s'.vm.findClass own = some m.cls := by rw [hvm]; exact hown
  have hins : (Cond.instantiable cls 6).before args s' = true := h _ (by simp [Bundle.ownAtoms])
  obtain ⟨vm₁, cX, kX, hfX, hkX, -, -, X₁, st1⟩ := Y.newCold hexec (own := own) (C := cls) (index := ik) (n := 6) hown' hk' hins hini'
    (g := F0 m pc ls rest) rfl (by rw [hb]; exact d0) (Nat.le_refl _) (Nat.le_refl _)
  generalize hT1 : (T.setVm vm₁).pushCell { cls := cX, slots := kX.instanceTypes.map defaultValue, vm := .none } = T1 at X₁ st1
  have hcat : (Value.ref T.heap.size).category = 1 := rfl
  have hcellA : T1.heap[T.heap.size]? = some (freshCell cX kX) := by rw [← hT1]; exact State.heap_pushCell_size _ _
  have d3' : decode c.code (pc + 3) = .ok (.dup, 1) := by rw [hb]; exact d3
  have d4' : decode c.code (pc + 4) = .ok (.ldc_w is, 3) := by rw [hb]; exact d4
  have hstr' : vk_R own is text sa s' := vk_R.warm hW0 hstr
  obtain ⟨U, hsteps, hrun, hend, hW, hsame, ce, hce, hO⟩ := X₁.ctorThrowS hexec htr (own := own) (cls := cls) (names := names) (ic := ic) hown' hcls hnames h (fun x hx => nomatch hx) hfX hkX hcellA (by rw [hhp, hT]; exact Nat.le_refl _) (msg := .ref sa) rfl
    (g := { method := m, pc := pc + 7, locals := ls, stack := .ref sa :: .ref T.heap.size :: .ref T.heap.size :: rest, locked := none }) rfl hsize rfl rfl (rest := rest) rfl
    (by rw [hb]; exact d7) (by rw [hb]; exact d10) hout hRframes (by simp only [List.map_cons, List.sum_cons, hcat]; omega) hlocks
  obtain ⟨f1, f2⟩ := vx_frame hsame
  rw [hhp] at f1 f2
  have hWs : s.WarmedH U.vm := State.WarmedH.trans hW0 hW
  have hcl : s.vm.findClass cls = some ce.cls := by
    have h9 := hO.cls
    rw [hvm] at h9
    exact h9
  have hall : s.sameButNew ({ U with vm := s.vm } : State) locs mc ms := by
    subst hA
    obtain ⟨e1, e2⟩ := hsame
    rw [State.setFrames_setFrames] at e1
    have h2 : (T.setVm s.vm).sameButNew ({ U with vm := s.vm } : State) [] (0 + 1) (0 + 6) := ⟨e1, e2⟩
    have h3 := X.same.trans h2
    rw [List.append_nil] at h3
    exact h3.mono hc hs
  refine ⟨U, ?_, .threw T.heap.size, hrun, hend, Or.inr ⟨T.heap.size, rfl, cls, ce, locs, hx U hWs.alike f1 (fun q hq => f2 q hq (fun z hz => nomatch hz)), hce, hO.vm, hcl, hWs, hall, hf⟩⟩
  refine st1 _ ?_
  show Steps p.tables e below (T1.setTop { method := m, pc := pc + 3, locals := ls, stack := .ref T.heap.size :: rest, locked := none }) _
  jvm_step X₁.here [X₁.here.top, hexec, d3', Value.category]
  exact X₁.ldcStringW hexec (own := own) (text := text) (index := is) (a := sa) hown' hstr'.1 hstr'.2
    (g := { method := m, pc := pc + 4, locals := ls, stack := .ref T.heap.size :: .ref T.heap.size :: rest, locked := none }) rfl d4' _ hsteps
end Ends
section Bodies
variable {l : Launch}
theorem vx_ofW {y : MethodName} {ws ws' : List Cond} {rm : Room} {Pc : Array Value → State → Prop} {Qc : Array Value → State → Outcome → State → Prop} {XC : String → State → State → Prop} {mc ms : Nat} {free : Addr → Prop} {cc : ByteArray} {maxL : Nat} {ret : Option FieldType}
    (hy : plainName y.cls = true) (hw : ws = Cond.code y cc maxL ret :: ws')
    (body : ∀ p e s m args below meth c s₁, BodyLoose p l y (headSpec ws rm) cc maxL ret e s m args below meth c s₁ → c.maxLocals = maxL → (∀ x ∈ c.exceptionTable.toList, False) → Pc args s →
      W p l e (headSpec ws rm).room s m args below meth c s.heap [] 0 0 (vx_MQ below Qc XC args s mc ms free) (entryFrame m args maxL)) : vx_Met l y ws rm Pc Qc XC mc ms free := by
  refine MetFree.of_bodyS (code := cc) (maxLocals := maxL) (ret := ret) hy ?_ ?_
  · intro args s m h hn
    obtain ⟨meth, c, h1, h2, h3, h4, h5, h6, -, -⟩ := Cond.code_spec hn (atoms_spec (ws := ws) h _ (by rw [hw]; exact List.mem_cons_self))
    exact ⟨meth, c, h1, h2, h3, h4, h5, h6⟩
  · intro p e s m args below meth c s₁ B hml hP _
    have hh0 : s₁.heap = s.heap := by rw [B.state]; rfl
    have ht : ∀ x ∈ c.exceptionTable.toList, False := by
      obtain ⟨meth9, c9, h1, h2, -, -, -, -, h7, -⟩ := Cond.code_spec B.named (atoms_spec (ws := ws) B.pre _ (by rw [hw]; exact List.mem_cons_self))
      cases Option.some.inj (h1.symm.trans B.method)
      cases Option.some.inj (h2.symm.trans (Stand.of_body B).code)
      intro x hx
      rw [Array.isEmpty_iff.mp h7] at hx
      cases hx
    obtain ⟨t, a1, o, b1, b2, b3⟩ := body p e s m args below meth c s₁ B hml ht hP s₁ hh0 (Stand.of_body B)
    exact ⟨t, o, a1, b1, b2, b3⟩
/-- the table of a body with handlers -/
theorem vx_table {p : Program} {x y : MethodName} {S : Spec} {cc bytes : ByteArray} {maxL maxL' : Nat} {ret ret' : Option FieldType} {e : Env} {s s₁ : State} {m : MethodId} {args : Array Value} {below : List Frame} {meth : Method} {c : Code} {hh : List (Nat × Nat × Nat × Nat)}
    (B : BodyLoose p l y S cc maxL ret e s m args below meth c s₁) (h : (Cond.codeWith y bytes maxL' ret' hh).before args s = true) : c.exceptionTable.toList = tableOf hh := by
  obtain ⟨m9, meth9, c9, hn9, h1, h2, -, -, h6, -⟩ := Cond.codeWith_spec h
  cases Option.some.inj (hn9.symm.trans B.named)
  cases Option.some.inj (h1.symm.trans B.method)
  cases Option.some.inj (h2.symm.trans (Stand.of_body B).code)
  rw [← h6, table_eq]
end Bodies
end VXA
/-! ===== END ===== -/
/-! ===== BEGIN a static call of a method with an exception table ===== -/
section VXS
variable {p : Program} {l : Launch} {e : Env} {R : Room} {s : State} {m : MethodId} {args : Array Value} {below : List Frame} {meth : Method} {c : Code} {T : State} {H : Heap} {locs : List Loc} {cells slots : Nat}
abbrev vx_CSW (R : Room) (s : State) (args : Array Value) (own : String) (index : Nat) (y : MethodName) (bytes : ByteArray) (maxL : Nat) (ret : Option FieldType) (hh : List (Nat × Nat × Nat × Nat)) (ws : List Cond) (rm : Room) (mc ms n : Nat) : Prop :=
  (rm.cells = mc ∧ rm.slots = ms ∧ rm.frames + 1 ≤ R.frames ∧ 8 + (maxL + 11) + rm.locals ≤ R.locals ∧ (∀ w ∈ ws, ∀ (a' : Array Value) (U : State), s.WarmedH U.vm → w.before a' U = true) ∧ Cond.codeWith y bytes maxL ret hh ∈ ws) ∧
  (Cond.codeWith y bytes maxL ret hh).before args s = true ∧ (Cond.initialized y.cls).before args s = true ∧ (y.cls ≠ "java/lang/invoke/MethodHandle" ∧ y.cls ≠ "java/lang/invoke/VarHandle") ∧
  (∀ sig, parseMethodDescriptor y.desc = some sig → n = sig.parameters.length) ∧ (Cond.methodLink own index y).before args s = true ∧ (Cond.static y).before args s = true
theorem vx_cwSW {own : String} {index maxL mc ms : Nat} {y : MethodName} {bytes : ByteArray} {ret : Option FieldType} {hh : List (Nat × Nat × Nat × Nat)} {Ts ws ws' : List Cond} {rm : Room} (n : Nat) (ht : ∀ w ∈ Ts, w.before args s = true) (hT : GoodIn Ts (va_wsS own index y ws)) (hw : ws = Cond.codeWith y bytes maxL ret hh :: ws') (hrc : rm.cells = mc) (hrs : rm.slots = ms)
    (hd : y.cls ≠ "java/lang/invoke/MethodHandle" ∧ y.cls ≠ "java/lang/invoke/VarHandle" ∧ (parseMethodDescriptor y.desc).map (fun d => d.parameters.length) = some n) (hR : rm.frames + 1 ≤ R.frames ∧ 8 + (maxL + 11) + rm.locals ≤ R.locals) :
    vx_CSW R s args own index y bytes maxL ret hh ws rm mc ms n := by
  have ok : ∀ w ∈ va_wsS own index y ws, w.before args s = true := fun w h => ht w (hT w h).1
  have hG : GoodIn Ts ws := fun w h => hT w (by unfold va_wsS; exact List.mem_append_right _ h)
  have hc : Cond.codeWith y bytes maxL ret hh ∈ ws := by rw [hw]; exact List.mem_cons_self
  refine ⟨⟨hrc, hrs, hR.1, hR.2, pay_in ht hG, hc⟩, ht _ (hG _ hc).1, ok _ (by simp [va_wsS]), ⟨hd.1, hd.2.1⟩, fun sig h => ?_, ok _ (by simp [va_wsS]), ok _ (by simp [va_wsS])⟩
  have h2 := hd.2.2
  rw [h] at h2
  exact (Option.some.inj h2).symm
theorem vx_callSW (X : Stand p l e R s m args below meth c T locs cells slots) (hexec : p.tables.exec = Jvm.exec) {own : String} {index : Nat} {y : MethodName} {bytes : ByteArray} {maxL : Nat} {ret : Option FieldType} {hh : List (Nat × Nat × Nat × Nat)}
    (hown : s.vm.findClass own = some m.cls) (hlink : (Cond.methodLink own index y).before args s = true) (hstat : (Cond.static y).before args s = true) (hinit : (Cond.initialized y.cls).before args s = true)
    (hcode : (Cond.codeWith y bytes maxL ret hh).before args s = true) (hy : y.cls ≠ "java/lang/invoke/MethodHandle" ∧ y.cls ≠ "java/lang/invoke/VarHandle")
    {W9 : Nat} {Pre : Pt → Array Value → Prop} {Post : Pt → Array Value → Option Value → Pt → Prop} (hK : Back l R p e below s args y 3 W9 Pre Post)
    {g : JFrame} (hg : g.method = m) (hsize : g.locals.size = c.maxLocals) {argsL rest : List Value} (hlen : ∀ sig, parseMethodDescriptor y.desc = some sig → argsL.length = sig.parameters.length)
    (hstack : g.stack = argsL.reverse ++ rest) (hW : 2 * g.monitorRoom + (rest.map fun v => v.category).sum ≤ W9) (hdg : decode c.code g.pc = .ok (.invokestatic index, 3))
    (hpre : ∀ vm₁, s.WarmedH vm₁ → Pre ⟨T.setVm vm₁, locs, cells, slots⟩ argsL.toArray) :
    ∃ (v : Option Value) (vm₁ : Vm) (B : Pt), s.WarmedH vm₁ ∧ Stand p l e R s m args below meth c B.U B.locs B.cells B.slots ∧ Post ⟨T.setVm vm₁, locs, cells, slots⟩ argsL.toArray v B ∧
      ∀ target, Steps p.tables e below (B.U.setTop { g with pc := g.pc + 3, stack := v.toList ++ rest }) target → Steps p.tables e below (T.setTop g) target := by
  obtain ⟨mk, methM, cM, hnamed, hmethM, -, -, -, -, -, -, hsigM⟩ := Cond.codeWith_spec hcode
  have hstatic : methM.isStatic = true := Cond.static_spec hnamed hmethM hstat
  obtain ⟨kP, hkP, -⟩ := className_of_methodNamed hnamed
  have hinitP : kP.init = .initialized := Cond.initialized_spec (findClass_of_methodNamed hnamed) hkP hinit
  obtain ⟨vm₁, X₁, hstep₁⟩ := X.invokestatic hexec hown hlink hnamed hmethM hstatic hkP hinitP hy (g := g) hg (argsL := argsL) (rest := rest) (hlen _ hsigM) hstack hdg
  obtain ⟨v, B, X', hpost, hsteps⟩ := hK m meth c ⟨T.setVm vm₁, locs, cells, slots⟩ { g with stack := rest } (.invokestatic index) mk argsL.toArray X₁ hg hsize hdg hW (X₁.named hnamed) (hpre vm₁ X₁.warmed)
  exact ⟨v, vm₁, B, X₁.warmed, X', hpost, fun target h => hstep₁ _ fun acts => by rw [doInvoke_state]; exact hsteps.trans h⟩
theorem vx_runSW {y : MethodName} {bytes cc : ByteArray} {maxL nL mc ms n index : Nat} {ret : Option FieldType} {hh : List (Nat × Nat × Nat × Nat)} {ws : List Cond} {rm : Room} {Pc : Array Value → State → Prop} {Qc : Array Value → State → Outcome → State → Prop} {free : Addr → Prop} {Ts : List Cond} {own : String} {As rest : List Value} {g : JFrame}
    (S : CallFix p m c cc nL s args Ts own) (hM : Met l y ws rm Pc Qc mc ms free) (cw : vx_CSW R s args own index y bytes maxL ret hh ws rm mc ms n) (hp : PreS s H Pc As)
    (hg : g.method = m) (hn : As.length = n) (hsize : g.locals.size = nL) (hstack : g.stack = As.reverse ++ rest) (hW : 2 * g.monitorRoom + (rest.map fun v => v.category).sum ≤ 8) (hdg : decode cc g.pc = .ok (.invokestatic index, 3)) (hf : cells + mc ≤ R.cells ∧ slots + ms ≤ R.slots) :
    va_Run p l e R s m args below meth c H locs cells slots mc ms g rest (Qc As.toArray) (free) := by
  obtain ⟨⟨hrc, hrs, hfr, hlo, hws, hcw⟩, hcode, hini, hy, hlen, hl, hstt⟩ := cw
  have hK : Back l R p e below s args y 3 8 (PreOf R mc ms Pc) (PostOf Qc mc ms free) := va_backW (hh := hh) (bytes := bytes) (maxL := maxL) (ret := ret) hM hp.1 hrc hrs hfr hlo hws hcw (fun a' U hW => word_at hW (Or.inl (by first | rfl | simp [Cond.onTables, Cond.keeps, Cond.steady])) hini)
  obtain ⟨hx, hb, hml, ho, -⟩ := S
  intro T hT X
  obtain ⟨v, vm₁, ⟨U', l2, c2, s2⟩, hW₁, X', ⟨g', mk, t, L, e1, e2, hq, h1, hL, h2, h3⟩, st⟩ := vx_callSW X hx (hh := hh) (bytes := bytes) (maxL := maxL) (ret := ret) ho hl hstt hini hcode hy hK hg (hsize.trans hml.symm) (argsL := As) (rest := rest) (fun sig h => hn.trans (hlen sig h)) hstack hW (by rw [hb]; exact hdg)
    (fun vm₁ hW₁ => ⟨hf.1, hf.2, hp.2 (T.setVm vm₁) hT hW₁⟩)
  dsimp only [Pt.U, Pt.locs, Pt.cells, Pt.slots] at X' e1 e2 h1 h2 h3 st
  subst h1; subst h2; subst h3
  exact ⟨v, (T.setVm vm₁).calling g' mk As.toArray, t, U', L, hT, X', hL, e1, e2, hq, st⟩
/-- not caught here, past rows that name other classes: it goes on to the caller -/
theorem vx_outP {p : Program} {l : Launch} {e : Env} {R : Room} {s : State} {m : MethodId} {args : Array Value} {below : List Frame} {meth : Method} {c : Code} {H : Heap} {locs : List Loc} {cells slots : Nat} {free : Addr → Prop} {ls : Array Slot} {rest : List Value} {Qc : Array Value → State → Outcome → State → Prop} {XC : String → State → State → Prop}
    {pc : Nat} {own E : String} {ce : Cell} {q : Addr} {mc ms : Nat} (hown : s.vm.findClass own = some m.cls) (hlocks : meth.locks = false)
    (hpass : ∀ z ∈ c.exceptionTable.toList, covers z pc = false ∨ (z.catchType ≠ 0 ∧ ∃ nm : String, (Cond.classLink own z.catchType nm).before args s = true ∧ va_Nc E nm s)) (hcell : H[q]? = some ce) (hv : ce.vm = .none) (hcl : s.vm.findClass E = some ce.cls)
    (hx : ∀ t : State, t.heap = H → s.vm.Alike t.vm → XC E s t) (hf : ∀ z ∈ locs, free z.base) (hc : cells ≤ mc) (hs : slots ≤ ms) :
    vx_W p l e R s m args below meth c H locs cells slots (vx_MQ below Qc XC args s mc ms free) (F0 m pc ls rest) q := by
  intro T hT X
  have hpl : e.platform.magicAccessors = ({} : Platform).magicAccessors := by rw [X.admits.platform]
  obtain ⟨vm', hW', X', st⟩ := X.outThrough hlocks q (g := F0 m pc ls rest) rfl rfl rfl (cell := ce) (by rw [hT]; exact hcell) (by rw [hv]; rfl)
    (by obtain ⟨k9, h9, -⟩ := Vm.findClass_spec hcl; exact ⟨k9, h9⟩) (fun z hz => by
      rcases hpass z hz with h | ⟨hz0, nm, hl1, hn1⟩
      · exact Or.inl h
      · obtain ⟨c6, hc6, hcl6⟩ := Cond.classLink_spec hown hl1 e.platform hpl
        obtain ⟨a8, b8, h1, h2, h3⟩ := hn1
        cases Option.some.inj (h1.symm.trans hcl)
        cases Option.some.inj (h2.symm.trans hc6)
        exact Or.inr ⟨hz0, _, hcl6, h3⟩)
  obtain ⟨g₀, hfr⟩ := X'.frames_eq
  have hcell9 : ((T.setVm vm').setFrames (.throwing q :: below)).heap[q]? = some ce := by
    show T.heap[q]? = some ce
    rw [hT]; exact hcell
  have hend : Ended ((T.setVm vm').setFrames (.throwing q :: below)) below (.threw q) := State.frames_setFrames _ (State.cur_lt_of_frames hfr)
  refine ⟨(T.setVm vm').setFrames (.throwing q :: below), ?_, .threw q, X'.here.running, hend, Or.inr ⟨q, rfl, E, ce, locs, hx _ hT (X'.ends _).1.alike, hcell9, hv, hcl, (X'.ends _).1, (X'.ends _).2.mono hc hs, hf⟩⟩
  rw [X.pushThrowing_eq]
  exact st
/-- a thing of a world lies in the heap -/
theorem vx_lt {D : va_G} {cl : List vw_C} {ws : va_W} {H1 : Heap} (h : va_P D cl ws H1) {k : Nat} {q : Nat × va_E} (hk : ws[k]? = some q) : q.1 < H1.size := (h k q hk).lt
end VXS
/-! ===== END ===== -/
/-! ===== BEGIN methods with a table of their own: called by a name, returning or throwing ===== -/
section VXH
/-! vx_backW, vx_callVX, vx_callSX, vx_callVW, vx_runVW, vx_runVX, vx_runSX, vx_ofWH follow the same proofs as their sisters above (Free/Laws.lean, Shelf42/LK1.lean); vx_outP calls Shelf42/NT130.lean (outThrough). -/
section
variable {l : Launch} {R : Room} {p : Program} {e : Env} {below : List Frame} {s : State} {sargs : Array Value} {y : MethodName} {len W9 : Nat}
theorem vx_backW {ws : List Cond} {rm : Room} {Pc : Array Value → State → Prop} {Qc : Array Value → State → Outcome → State → Prop} {XC : String → State → State → Prop} {mc ms : Nat} {free : Addr → Prop} {bytes : ByteArray} {maxL : Nat} {ret : Option FieldType} {hh : List (Nat × Nat × Nat × Nat)}
    (hM : vx_Met l y ws rm Pc Qc XC mc ms free) (hblind : FrameBlind Pc) (hrc : rm.cells = mc) (hrs : rm.slots = ms)
    (hframes : rm.frames + 1 ≤ R.frames) (hlocals : W9 + (maxL + 11) + rm.locals ≤ R.locals)
    (hws : ∀ w ∈ ws, ∀ a' U, s.WarmedH U.vm → w.before a' U = true) (hcode : Cond.codeWith y bytes maxL ret hh ∈ ws) (hinit : ∀ a' U, s.WarmedH U.vm → (Cond.initialized y.cls).before a' U = true) :
    vx_Back l R p e below s sargs y len W9 (PreOf R mc ms Pc) (PostOf Qc mc ms free) (vx_Post XC mc ms free) := by
  intro m meth c A g ig mk a X hg hsize hdg hW hn hp
  have h1 : (headSpec ws rm).pre.before a A.U = true := atoms_intro fun w hw => hws w hw _ _ X.warmed
  have h2 : (Cond.codeWith y bytes maxL ret hh).before a A.U = true := hws _ hcode _ _ X.warmed
  have h3 : (Cond.initialized y.cls).before a A.U = true := hinit _ _ X.warmed
  have h4 : A.cells + (headSpec ws rm).room.cells ≤ R.cells := by rw [show (headSpec ws rm).room.cells = mc from hrc]; exact hp.1
  have h5 : A.slots + (headSpec ws rm).room.slots ≤ R.slots := by rw [show (headSpec ws rm).room.slots = ms from hrs]; exact hp.2.1
  have hPc : Pc a (A.U.calling g mk a) := hblind _ _ _ _ hp.2.2
  obtain ⟨U, Ls, c0, s0⟩ := A
  dsimp only [Pt.U, Pt.locs, Pt.cells, Pt.slots] at h1 h2 h3 h4 h5 X hn hPc ⊢
  obtain ⟨m9, methY, cY, hn9, hmY, hcY, -, hlY, -⟩ := Cond.codeWith_spec h2
  cases Option.some.inj (hn9.symm.trans hn)
  obtain ⟨kY, hkY, -⟩ := className_of_methodNamed hn
  have hinitY : kY.init = .initialized := Cond.initialized_spec (findClass_of_methodNamed hn) hkY h3
  have h : At U g.method c below := by rw [hg]; exact X.here
  have hlocals9 : W9 + (maxL + 11) + (headSpec ws rm).room.locals ≤ R.locals := hlocals
  have happ : (headSpec ws rm).appliesLoose y e.platform (U.calling g mk a) = true :=
    Spec.appliesLoose_calling (g := g) h hdg hn hkY hinitY
      (X.room_calling (g := g) (R' := (headSpec ws rm).room) hsize hmY hcY hframes (by rw [hlY]; omega) h4 h5) h1
  obtain ⟨mid, hmid⟩ := h.above
  have hfr : (U.setTop g).frames = (.java g :: mid) ++ below := by rw [State.frames_setTop' g h.top, hmid]; rfl
  obtain ⟨o, s₂, hsteps, -, hend, hq⟩ := Steps.callFree hM p X.admits X.cas X.clock (acts := []) hfr happ hPc trivial
  have hq' : vx_Q Qc XC mc ms free a (U.calling g mk a) o s₂ := hq
  rw [State.frames_setTop' g h.top] at hend
  obtain ⟨g₀, hg0⟩ := Option.isSome_iff_exists.mp h.top
  obtain ⟨r, hr⟩ := State.topJava?_eq_some.mp hg0
  have hr' : (({ U with heap := s₂.heap, slotsUsed := s₂.slotsUsed } : State).setVm s₂.vm).frames = .java g₀ :: r := hr
  rcases hq' with ⟨hqc, L, hfe, hL⟩ | ⟨q, rfl, E, ce, L, hx, hce, hcv, hcl, hW₂, hsm, hL⟩
  · obtain ⟨⟨v, rfl⟩, hW₂, e2, q2, q3, q4, q5, q6⟩ := id hfe
    have e3 : s₂ = ({ (U.calling g mk a).setFrames s₂.frames with heap := s₂.heap, slotsUsed := s₂.slotsUsed } : State).setVm s₂.vm := by
      have : s₂ = ({ s₂ with vm := (U.calling g mk a).vm } : State).setVm s₂.vm := rfl
      rw [e2] at this
      exact this
    obtain ⟨c₂, i₂, len₂, hc₂, hd₂, hf₂⟩ := hend
    have hW' : U.WarmedH s₂.vm := hW₂
    have hcc : c₂ = c := by
      have h1 : s₂.code? g.method = U.code? g.method := by
        rw [State.code?_eq, State.code?_eq, hW'.alike.method?]
      exact Option.some.inj (hc₂.symm.trans (h1.trans h.code))
    subst hcc
    have hlen : len₂ = len := by rw [hdg] at hd₂; cases hd₂; rfl
    subst hlen
    have hs₂ : s₂ = (({ U with heap := s₂.heap, slotsUsed := s₂.slotsUsed } : State).setVm s₂.vm).setTop { g with pc := g.pc + len₂, stack := v.toList ++ g.stack } := by
      refine e3.trans ?_
      rw [hf₂, State.calling_eq h.top, State.setFrames_setFrames, State.setTop_of_frames _ hr', hr]
      rfl
    have hsame : U.sameButNew ({ U with heap := s₂.heap, slotsUsed := s₂.slotsUsed } : State) L mc ms := by
      refine ⟨?_, q2, q3, q4, q5, q6⟩
      obtain ⟨t, ht, -⟩ := State.frames_cons hr
      show ({ U with heap := s₂.heap, slotsUsed := s₂.slotsUsed } : State) = { U.setFrames U.frames with heap := s₂.heap, slotsUsed := s₂.slotsUsed }
      rw [State.setFrames_self ht]
    subst hg
    refine Or.inl ⟨v, ⟨(({ U with heap := s₂.heap, slotsUsed := s₂.slotsUsed } : State).setVm s₂.vm), Ls ++ L, c0 + mc, s0 + ms⟩,
      ⟨X.admits, X.cas, X.clock, X.frames, X.room, X.hears, X.method, X.code, (X.here.setHeapUsed s₂.heap s₂.slotsUsed).setVm hW'.alike, X.tail, State.WarmedH.trans X.warmed hW', X.limits, X.bytes, X.same.trans (hsame.setVm s.vm)⟩,
      ⟨g, mk, s₂, L, rfl, rfl, hqc, rfl, hL, rfl, rfl⟩, ?_⟩
    show Steps p.tables e below _ ((({ U with heap := s₂.heap, slotsUsed := s₂.slotsUsed } : State).setVm s₂.vm).setTop { g with pc := g.pc + len₂, stack := v.toList ++ g.stack })
    rw [← hs₂]
    exact hsteps
  · obtain ⟨e2, q2, q3, q4, q5, q6⟩ := id hsm
    have e3 : s₂ = ({ (U.calling g mk a).setFrames s₂.frames with heap := s₂.heap, slotsUsed := s₂.slotsUsed } : State).setVm s₂.vm := by
      have : s₂ = ({ s₂ with vm := (U.calling g mk a).vm } : State).setVm s₂.vm := rfl
      rw [e2] at this
      exact this
    have hf₂ : s₂.frames = .throwing q :: .java g :: U.frames.tail := hend
    have hW' : U.WarmedH s₂.vm := hW₂
    have hs₂ : s₂ = ((({ U with heap := s₂.heap, slotsUsed := s₂.slotsUsed } : State).setVm s₂.vm).setTop g).pushFrame (.throwing q) := by
      refine e3.trans ?_
      rw [hf₂, State.calling_eq h.top, State.setFrames_setFrames, State.pushFrame, State.frames_setTop _ hr', State.setTop_of_frames _ hr', State.setFrames_setFrames, hr]
      rfl
    have hsame : U.sameButNew ({ U with heap := s₂.heap, slotsUsed := s₂.slotsUsed } : State) L mc ms := by
      refine ⟨?_, q2, q3, q4, q5, q6⟩
      obtain ⟨t, ht, -⟩ := State.frames_cons hr
      show ({ U with heap := s₂.heap, slotsUsed := s₂.slotsUsed } : State) = { U.setFrames U.frames with heap := s₂.heap, slotsUsed := s₂.slotsUsed }
      rw [State.setFrames_self ht]
    subst hg
    refine Or.inr ⟨q, ⟨(({ U with heap := s₂.heap, slotsUsed := s₂.slotsUsed } : State).setVm s₂.vm), Ls ++ L, c0 + mc, s0 + ms⟩,
      ⟨X.admits, X.cas, X.clock, X.frames, X.room, X.hears, X.method, X.code, (X.here.setHeapUsed s₂.heap s₂.slotsUsed).setVm hW'.alike, X.tail, State.WarmedH.trans X.warmed hW', X.limits, X.bytes, X.same.trans (hsame.setVm s.vm)⟩,
      ⟨g, mk, s₂, L, E, ce, rfl, rfl, hx, hce, hcv, hcl, rfl, hL, rfl, rfl⟩, ?_⟩
    show Steps p.tables e below _ (((({ U with heap := s₂.heap, slotsUsed := s₂.slotsUsed } : State).setVm s₂.vm).setTop g).pushFrame (.throwing q))
    rw [← hs₂]
    exact hsteps
end
variable {p : Program} {l : Launch} {e : Env} {R : Room} {s : State} {m : MethodId} {args : Array Value} {below : List Frame} {meth : Method} {c : Code} {T : State} {H : Heap} {locs : List Loc} {cells slots : Nat}
theorem vx_callVX (X : Stand p l e R s m args below meth c T locs cells slots) (hexec : p.tables.exec = Jvm.exec) {own C : String} {index : Nat} {y : MethodName} {bytes : ByteArray} {maxL : Nat} {ret : Option FieldType} {hh : List (Nat × Nat × Nat × Nat)}
    (hown : s.vm.findClass own = some m.cls) (hlink : (Cond.methodLink own index y).before args s = true) (hinst : (Cond.instanceMethod y).before args s = true) (hsel : (Cond.selects C y y).before args s = true)
    (hcode : (Cond.codeWith y bytes maxL ret hh).before args s = true) (hy : y.cls ≠ "java/lang/invoke/MethodHandle" ∧ y.cls ≠ "java/lang/invoke/VarHandle")
    {W9 : Nat} {Pre : Pt → Array Value → Prop} {Post : Pt → Array Value → Option Value → Pt → Prop} {PostX : Pt → Array Value → Addr → Pt → Prop} (hK : vx_Back l R p e below s args y 3 W9 Pre Post PostX)
    {b : Addr} {cellB : Cell} (hcell : T.heap[b]? = some cellB) (hobj : cellB.vm.isStatics = false) (hcls : s.vm.findClass C = some cellB.cls)
    {g : JFrame} (hg : g.method = m) (hsize : g.locals.size = c.maxLocals) {argsL rest : List Value} (hlen : ∀ sig, parseMethodDescriptor y.desc = some sig → argsL.length = sig.parameters.length)
    (hstack : g.stack = argsL.reverse ++ .ref b :: rest) (hW : 2 * g.monitorRoom + (rest.map fun v => v.category).sum ≤ W9) (hdg : decode c.code g.pc = .ok (.invokevirtual index, 3))
    (hpre : ∀ vm₁, s.WarmedH vm₁ → Pre ⟨T.setVm vm₁, locs, cells, slots⟩ (Value.ref b :: argsL).toArray) :
    (∃ (v : Option Value) (vm₁ : Vm) (B : Pt), s.WarmedH vm₁ ∧ Stand p l e R s m args below meth c B.U B.locs B.cells B.slots ∧ Post ⟨T.setVm vm₁, locs, cells, slots⟩ (Value.ref b :: argsL).toArray v B ∧
      ∀ target, Steps p.tables e below (B.U.setTop { g with pc := g.pc + 3, stack := v.toList ++ rest }) target → Steps p.tables e below (T.setTop g) target) ∨
    (∃ (q : Addr) (vm₁ : Vm) (B : Pt), s.WarmedH vm₁ ∧ Stand p l e R s m args below meth c B.U B.locs B.cells B.slots ∧ PostX ⟨T.setVm vm₁, locs, cells, slots⟩ (Value.ref b :: argsL).toArray q B ∧
      Steps p.tables e below (T.setTop g) ((B.U.setTop { g with stack := rest }).pushFrame (.throwing q))) := by
  obtain ⟨mk, methM, hnamed, hmethM, hstM, habM⟩ := Cond.instanceMethod_spec hinst
  obtain ⟨m8, methM', cM, hn8, hmethM', -, -, -, -, -, -, hsigM⟩ := Cond.codeWith_spec hcode
  cases Option.some.inj (hn8.symm.trans hnamed)
  cases hmethM.symm.trans hmethM'
  obtain ⟨c2, r2, m2, q1, q2, q3, q4, kP, hkP, hkPi⟩ := Cond.selects_spec hsel
  cases hcls.symm.trans q1
  cases (State.methodFound?_of_named hnamed hy).symm.trans q2
  cases hnamed.symm.trans q3
  have hselP : selectMethod e.platform s.vm cellB.cls mk = .method mk := by rw [Launch.admits_selectMethod X.admits]; exact q4
  obtain ⟨vm₁, X₁, hstep₁⟩ := X.invokevirtual hexec hown hlink hnamed hmethM hstM hkP hkPi hy (a := b) (cell := cellB) hcell
    (fun z h => by rw [h] at hobj; cases hobj) hselP hmethM habM hkP hkPi (g := g) hg (argsL := argsL) (rest := rest) (hlen _ hsigM) hstack hdg
  rcases hK m meth c ⟨T.setVm vm₁, locs, cells, slots⟩ { g with stack := rest } (.invokevirtual index) mk (Value.ref b :: argsL).toArray X₁ hg hsize hdg hW (X₁.named hnamed) (hpre vm₁ X₁.warmed) with ⟨v, B, X', hpost, hsteps⟩ | ⟨q, B, X', hpost, hsteps⟩
  · exact Or.inl ⟨v, vm₁, B, X₁.warmed, X', hpost, fun target h => hstep₁ _ fun acts => by rw [doInvoke_state]; exact hsteps.trans h⟩
  · exact Or.inr ⟨q, vm₁, B, X₁.warmed, X', hpost, hstep₁ _ fun acts => by rw [doInvoke_state]; exact hsteps⟩
theorem vx_callSX (X : Stand p l e R s m args below meth c T locs cells slots) (hexec : p.tables.exec = Jvm.exec) {own : String} {index : Nat} {y : MethodName} {bytes : ByteArray} {maxL : Nat} {ret : Option FieldType} {hh : List (Nat × Nat × Nat × Nat)}
    (hown : s.vm.findClass own = some m.cls) (hlink : (Cond.methodLink own index y).before args s = true) (hstat : (Cond.static y).before args s = true) (hinit : (Cond.initialized y.cls).before args s = true)
    (hcode : (Cond.codeWith y bytes maxL ret hh).before args s = true) (hy : y.cls ≠ "java/lang/invoke/MethodHandle" ∧ y.cls ≠ "java/lang/invoke/VarHandle")
    {W9 : Nat} {Pre : Pt → Array Value → Prop} {Post : Pt → Array Value → Option Value → Pt → Prop} {PostX : Pt → Array Value → Addr → Pt → Prop} (hK : vx_Back l R p e below s args y 3 W9 Pre Post PostX)
    {g : JFrame} (hg : g.method = m) (hsize : g.locals.size = c.maxLocals) {argsL rest : List Value} (hlen : ∀ sig, parseMethodDescriptor y.desc = some sig → argsL.length = sig.parameters.length)
    (hstack : g.stack = argsL.reverse ++ rest) (hW : 2 * g.monitorRoom + (rest.map fun v => v.category).sum ≤ W9) (hdg : decode c.code g.pc = .ok (.invokestatic index, 3))
    (hpre : ∀ vm₁, s.WarmedH vm₁ → Pre ⟨T.setVm vm₁, locs, cells, slots⟩ argsL.toArray) :
    (∃ (v : Option Value) (vm₁ : Vm) (B : Pt), s.WarmedH vm₁ ∧ Stand p l e R s m args below meth c B.U B.locs B.cells B.slots ∧ Post ⟨T.setVm vm₁, locs, cells, slots⟩ argsL.toArray v B ∧
      ∀ target, Steps p.tables e below (B.U.setTop { g with pc := g.pc + 3, stack := v.toList ++ rest }) target → Steps p.tables e below (T.setTop g) target) ∨
    (∃ (q : Addr) (vm₁ : Vm) (B : Pt), s.WarmedH vm₁ ∧ Stand p l e R s m args below meth c B.U B.locs B.cells B.slots ∧ PostX ⟨T.setVm vm₁, locs, cells, slots⟩ argsL.toArray q B ∧
      Steps p.tables e below (T.setTop g) ((B.U.setTop { g with stack := rest }).pushFrame (.throwing q))) := by
  obtain ⟨mk, methM, cM, hnamed, hmethM, -, -, -, -, -, -, hsigM⟩ := Cond.codeWith_spec hcode
  have hstatic : methM.isStatic = true := Cond.static_spec hnamed hmethM hstat
  obtain ⟨kP, hkP, -⟩ := className_of_methodNamed hnamed
  have hinitP : kP.init = .initialized := Cond.initialized_spec (findClass_of_methodNamed hnamed) hkP hinit
  obtain ⟨vm₁, X₁, hstep₁⟩ := X.invokestatic hexec hown hlink hnamed hmethM hstatic hkP hinitP hy (g := g) hg (argsL := argsL) (rest := rest) (hlen _ hsigM) hstack hdg
  rcases hK m meth c ⟨T.setVm vm₁, locs, cells, slots⟩ { g with stack := rest } (.invokestatic index) mk argsL.toArray X₁ hg hsize hdg hW (X₁.named hnamed) (hpre vm₁ X₁.warmed) with ⟨v, B, X', hpost, hsteps⟩ | ⟨q, B, X', hpost, hsteps⟩
  · exact Or.inl ⟨v, vm₁, B, X₁.warmed, X', hpost, fun target h => hstep₁ _ fun acts => by rw [doInvoke_state]; exact hsteps.trans h⟩
  · exact Or.inr ⟨q, vm₁, B, X₁.warmed, X', hpost, hstep₁ _ fun acts => by rw [doInvoke_state]; exact hsteps⟩
theorem vx_callVW (X : Stand p l e R s m args below meth c T locs cells slots) (hexec : p.tables.exec = Jvm.exec) {own C : String} {index : Nat} {y : MethodName} {bytes : ByteArray} {maxL : Nat} {ret : Option FieldType} {hh : List (Nat × Nat × Nat × Nat)}
    (hown : s.vm.findClass own = some m.cls) (hlink : (Cond.methodLink own index y).before args s = true) (hinst : (Cond.instanceMethod y).before args s = true) (hsel : (Cond.selects C y y).before args s = true)
    (hcode : (Cond.codeWith y bytes maxL ret hh).before args s = true) (hy : y.cls ≠ "java/lang/invoke/MethodHandle" ∧ y.cls ≠ "java/lang/invoke/VarHandle")
    {W9 : Nat} {Pre : Pt → Array Value → Prop} {Post : Pt → Array Value → Option Value → Pt → Prop} (hK : Back l R p e below s args y 3 W9 Pre Post)
    {b : Addr} {cellB : Cell} (hcell : T.heap[b]? = some cellB) (hobj : cellB.vm.isStatics = false) (hcls : s.vm.findClass C = some cellB.cls)
    {g : JFrame} (hg : g.method = m) (hsize : g.locals.size = c.maxLocals) {argsL rest : List Value} (hlen : ∀ sig, parseMethodDescriptor y.desc = some sig → argsL.length = sig.parameters.length)
    (hstack : g.stack = argsL.reverse ++ .ref b :: rest) (hW : 2 * g.monitorRoom + (rest.map fun v => v.category).sum ≤ W9) (hdg : decode c.code g.pc = .ok (.invokevirtual index, 3))
    (hpre : ∀ vm₁, s.WarmedH vm₁ → Pre ⟨T.setVm vm₁, locs, cells, slots⟩ (Value.ref b :: argsL).toArray) :
    ∃ (v : Option Value) (vm₁ : Vm) (B : Pt), s.WarmedH vm₁ ∧ Stand p l e R s m args below meth c B.U B.locs B.cells B.slots ∧ Post ⟨T.setVm vm₁, locs, cells, slots⟩ (Value.ref b :: argsL).toArray v B ∧
      ∀ target, Steps p.tables e below (B.U.setTop { g with pc := g.pc + 3, stack := v.toList ++ rest }) target → Steps p.tables e below (T.setTop g) target := by
  obtain ⟨mk, methM, hnamed, hmethM, hstM, habM⟩ := Cond.instanceMethod_spec hinst
  obtain ⟨m8, methM', cM, hn8, hmethM', -, -, -, -, -, -, hsigM⟩ := Cond.codeWith_spec hcode
  cases Option.some.inj (hn8.symm.trans hnamed)
  cases hmethM.symm.trans hmethM'
  obtain ⟨c2, r2, m2, q1, q2, q3, q4, kP, hkP, hkPi⟩ := Cond.selects_spec hsel
  cases hcls.symm.trans q1
  cases (State.methodFound?_of_named hnamed hy).symm.trans q2
  cases hnamed.symm.trans q3
  have hselP : selectMethod e.platform s.vm cellB.cls mk = .method mk := by rw [Launch.admits_selectMethod X.admits]; exact q4
  obtain ⟨vm₁, X₁, hstep₁⟩ := X.invokevirtual hexec hown hlink hnamed hmethM hstM hkP hkPi hy (a := b) (cell := cellB) hcell
    (fun z h => by rw [h] at hobj; cases hobj) hselP hmethM habM hkP hkPi (g := g) hg (argsL := argsL) (rest := rest) (hlen _ hsigM) hstack hdg
  obtain ⟨v, B, X', hpost, hsteps⟩ := hK m meth c ⟨T.setVm vm₁, locs, cells, slots⟩ { g with stack := rest } (.invokevirtual index) mk (Value.ref b :: argsL).toArray X₁ hg hsize hdg hW (X₁.named hnamed) (hpre vm₁ X₁.warmed)
  exact ⟨v, vm₁, B, X₁.warmed, X', hpost, fun target h => hstep₁ _ fun acts => by rw [doInvoke_state]; exact hsteps.trans h⟩
abbrev vx_CVW (R : Room) (s : State) (args : Array Value) (own C : String) (index : Nat) (y : MethodName) (bytes : ByteArray) (maxL : Nat) (ret : Option FieldType) (hh : List (Nat × Nat × Nat × Nat)) (ws : List Cond) (rm : Room) (mc ms n : Nat) : Prop :=
  (rm.cells = mc ∧ rm.slots = ms ∧ rm.frames + 1 ≤ R.frames ∧ 8 + (maxL + 11) + rm.locals ≤ R.locals ∧ (∀ w ∈ ws, ∀ (a' : Array Value) (U : State), s.WarmedH U.vm → w.before a' U = true) ∧ Cond.codeWith y bytes maxL ret hh ∈ ws) ∧
  (Cond.codeWith y bytes maxL ret hh).before args s = true ∧ (Cond.initialized y.cls).before args s = true ∧ (y.cls ≠ "java/lang/invoke/MethodHandle" ∧ y.cls ≠ "java/lang/invoke/VarHandle") ∧
  (∀ sig, parseMethodDescriptor y.desc = some sig → n = sig.parameters.length) ∧ (Cond.methodLink own index y).before args s = true ∧ (Cond.instanceMethod y).before args s = true ∧ (Cond.selects C y y).before args s = true
theorem vx_cwVW {own C : String} {index maxL mc ms : Nat} {y : MethodName} {bytes : ByteArray} {ret : Option FieldType} {hh : List (Nat × Nat × Nat × Nat)} {Ts ws ws' : List Cond} {rm : Room} (n : Nat) (ht : ∀ w ∈ Ts, w.before args s = true) (hT : GoodIn Ts (wsV own index C y ws)) (hw : ws = Cond.codeWith y bytes maxL ret hh :: ws') (hrc : rm.cells = mc) (hrs : rm.slots = ms)
    (hd : y.cls = C ∧ y.cls ≠ "java/lang/invoke/MethodHandle" ∧ y.cls ≠ "java/lang/invoke/VarHandle" ∧ (parseMethodDescriptor y.desc).map (fun d => d.parameters.length) = some n) (hR : rm.frames + 1 ≤ R.frames ∧ 8 + (maxL + 11) + rm.locals ≤ R.locals) :
    vx_CVW R s args own C index y bytes maxL ret hh ws rm mc ms n := by
  obtain ⟨hC, hd⟩ := hd
  subst hC
  have ok : ∀ w ∈ wsV own index y.cls y ws, w.before args s = true := fun w h => ht w (hT w h).1
  have hG : GoodIn Ts ws := fun w h => hT w (by unfold wsV; exact List.mem_append_right _ h)
  have hc : Cond.codeWith y bytes maxL ret hh ∈ ws := by rw [hw]; exact List.mem_cons_self
  refine ⟨⟨hrc, hrs, hR.1, hR.2, pay_in ht hG, hc⟩, ht _ (hG _ hc).1, ok _ (by simp [wsV]), ⟨hd.1, hd.2.1⟩, fun sig h => ?_, ok _ (by simp [wsV]), ok _ (by simp [wsV]), ok _ (by simp [wsV])⟩
  have h2 := hd.2.2
  rw [h] at h2
  exact (Option.some.inj h2).symm
theorem vx_runVW {y : MethodName} {bytes cc : ByteArray} {maxL nL mc ms n index : Nat} {ret : Option FieldType} {hh : List (Nat × Nat × Nat × Nat)} {ws : List Cond} {rm : Room} {Pc : Array Value → State → Prop} {Qc : Array Value → State → Outcome → State → Prop} {free : Addr → Prop} {Ts : List Cond} {own C : String} {b : Addr} {As rest : List Value} {g : JFrame}
    (S : CallFix p m c cc nL s args Ts own) (hM : Met l y ws rm Pc Qc mc ms free) (cw : vx_CVW R s args own C index y bytes maxL ret hh ws rm mc ms n) (hp : PreV s H C b Pc As)
    (hg : g.method = m) (hn : As.length = n) (hsize : g.locals.size = nL) (hstack : g.stack = As.reverse ++ .ref b :: rest) (hW : 2 * g.monitorRoom + (rest.map fun v => v.category).sum ≤ 8) (hdg : decode cc g.pc = .ok (.invokevirtual index, 3)) (hf : cells + mc ≤ R.cells ∧ slots + ms ≤ R.slots) :
    va_Run p l e R s m args below meth c H locs cells slots mc ms g rest (Qc (Value.ref b :: As).toArray) free := by
  obtain ⟨⟨hrc, hrs, hfr, hlo, hws, hcw⟩, hcode, hini, hy, hlen, hl, hin, hse⟩ := cw
  have hK : Back l R p e below s args y 3 8 (PreOf R mc ms Pc) (PostOf Qc mc ms free) := va_backW (hh := hh) (bytes := bytes) (maxL := maxL) (ret := ret) hM hp.1 hrc hrs hfr hlo hws hcw (fun a' U hW => word_at hW (Or.inl (by first | rfl | simp [Cond.onTables, Cond.keeps, Cond.steady])) hini)
  obtain ⟨hx, hb, hml, ho, -⟩ := S
  obtain ⟨-, ⟨cellB, hcB, hoB, hclB⟩, hPc⟩ := hp
  intro T hT X
  obtain ⟨v, vm₁, ⟨U', l2, c2, s2⟩, hW₁, X', ⟨g', mk, t, L, e1, e2, hq, h1, hL, h2, h3⟩, st⟩ := vx_callVW X hx (C := C) (hh := hh) (bytes := bytes) (maxL := maxL) (ret := ret) ho hl hin hse hcode hy hK (by rw [hT]; exact hcB) hoB hclB hg (hsize.trans hml.symm) (argsL := As) (rest := rest) (fun sig h => hn.trans (hlen sig h)) hstack hW (by rw [hb]; exact hdg)
    (fun vm₁ hW₁ => ⟨hf.1, hf.2, hPc (T.setVm vm₁) hT hW₁⟩)
  dsimp only [Pt.U, Pt.locs, Pt.cells, Pt.slots] at X' e1 e2 h1 h2 h3 st
  subst h1; subst h2; subst h3
  exact ⟨v, (T.setVm vm₁).calling g' mk (Value.ref b :: As).toArray, t, U', L, hT, X', hL, e1, e2, hq, st⟩
section
variable {y : MethodName} {bytes cc : ByteArray} {maxL nL mc ms n index : Nat} {ret : Option FieldType} {ws : List Cond} {rm : Room} {Pc : Array Value → State → Prop} {Qc : Array Value → State → Outcome → State → Prop} {XC : String → State → State → Prop} {free : Addr → Prop} {Ts : List Cond} {own C : String} {b : Addr} {As rest : List Value} {g : JFrame}
theorem vx_runVX {hh : List (Nat × Nat × Nat × Nat)} (S : CallFix p m c cc nL s args Ts own) (hM : vx_Met l y ws rm Pc Qc XC mc ms free) (cw : vx_CVW R s args own C index y bytes maxL ret hh ws rm mc ms n) (hp : PreV s H C b Pc As)
    (hg : g.method = m) (hn : As.length = n) (hsize : g.locals.size = nL) (hstack : g.stack = As.reverse ++ .ref b :: rest) (hW : 2 * g.monitorRoom + (rest.map fun v => v.category).sum ≤ 8) (hdg : decode cc g.pc = .ok (.invokevirtual index, 3)) (hf : cells + mc ≤ R.cells ∧ slots + ms ≤ R.slots) :
    vx_Run p l e R s m args below meth c H locs cells slots mc ms g rest (Qc (Value.ref b :: As).toArray) XC free := by
  obtain ⟨⟨hrc, hrs, hfr, hlo, hws, hcw⟩, hcode, hini, hy, hlen, hl, hin, hse⟩ := cw
  have hK : vx_Back l R p e below s args y 3 8 (PreOf R mc ms Pc) (PostOf Qc mc ms free) (vx_Post XC mc ms free) := vx_backW (hh := hh) (bytes := bytes) (maxL := maxL) (ret := ret) hM hp.1 hrc hrs hfr hlo hws hcw (fun a' U hW => word_at hW (Or.inl (by first | rfl | simp [Cond.onTables, Cond.keeps, Cond.steady])) hini)
  obtain ⟨hx, hb, hml, ho, -⟩ := S
  obtain ⟨-, ⟨cellB, hcB, hoB, hclB⟩, hPc⟩ := hp
  intro T hT X
  rcases vx_callVX X hx (C := C) (hh := hh) (bytes := bytes) (maxL := maxL) (ret := ret) ho hl hin hse hcode hy hK (by rw [hT]; exact hcB) hoB hclB hg (hsize.trans hml.symm) (argsL := As) (rest := rest) (fun sig h => hn.trans (hlen sig h)) hstack hW (by rw [hb]; exact hdg)
    (fun vm₁ hW₁ => ⟨hf.1, hf.2, hPc (T.setVm vm₁) hT hW₁⟩) with ⟨v, vm₁, ⟨U', l2, c2, s2⟩, hW₁, X', ⟨g', mk, t, L, e1, e2, hq, h1, hL, h2, h3⟩, st⟩ | ⟨q, vm₁, ⟨U', l2, c2, s2⟩, hW₁, X', ⟨g', mk, t, L, E, ce, e1, e2, hq, hce, hcv, hcl, h1, hL, h2, h3⟩, st⟩
  · dsimp only [Pt.U, Pt.locs, Pt.cells, Pt.slots] at X' e1 e2 h1 h2 h3 st
    subst h1; subst h2; subst h3
    exact Or.inl ⟨v, (T.setVm vm₁).calling g' mk (Value.ref b :: As).toArray, t, U', L, hT, X', hL, e1, e2, hq, st⟩
  · dsimp only [Pt.U, Pt.locs, Pt.cells, Pt.slots] at X' e1 e2 h1 h2 h3 st hcl
    subst h1; subst h2; subst h3
    exact Or.inr ⟨q, (T.setVm vm₁).calling g' mk (Value.ref b :: As).toArray, t, U', L, E, ce, hT, X', hL, e1, e2, hq, hce, hcv, vx_cls hW₁ hcl, st⟩
theorem vx_runSX {hh : List (Nat × Nat × Nat × Nat)} (S : CallFix p m c cc nL s args Ts own) (hM : vx_Met l y ws rm Pc Qc XC mc ms free) (cw : vx_CSW R s args own index y bytes maxL ret hh ws rm mc ms n) (hp : PreS s H Pc As)
    (hg : g.method = m) (hn : As.length = n) (hsize : g.locals.size = nL) (hstack : g.stack = As.reverse ++ rest) (hW : 2 * g.monitorRoom + (rest.map fun v => v.category).sum ≤ 8) (hdg : decode cc g.pc = .ok (.invokestatic index, 3)) (hf : cells + mc ≤ R.cells ∧ slots + ms ≤ R.slots) :
    vx_Run p l e R s m args below meth c H locs cells slots mc ms g rest (Qc As.toArray) XC free := by
  obtain ⟨⟨hrc, hrs, hfr, hlo, hws, hcw⟩, hcode, hini, hy, hlen, hl, hstt⟩ := cw
  have hK : vx_Back l R p e below s args y 3 8 (PreOf R mc ms Pc) (PostOf Qc mc ms free) (vx_Post XC mc ms free) := vx_backW (hh := hh) (bytes := bytes) (maxL := maxL) (ret := ret) hM hp.1 hrc hrs hfr hlo hws hcw (fun a' U hW => word_at hW (Or.inl (by first | rfl | simp [Cond.onTables, Cond.keeps, Cond.steady])) hini)
  obtain ⟨hx, hb, hml, ho, -⟩ := S
  intro T hT X
  rcases vx_callSX X hx (hh := hh) (bytes := bytes) (maxL := maxL) (ret := ret) ho hl hstt hini hcode hy hK hg (hsize.trans hml.symm) (argsL := As) (rest := rest) (fun sig h => hn.trans (hlen sig h)) hstack hW (by rw [hb]; exact hdg)
    (fun vm₁ hW₁ => ⟨hf.1, hf.2, hp.2 (T.setVm vm₁) hT hW₁⟩) with ⟨v, vm₁, ⟨U', l2, c2, s2⟩, hW₁, X', ⟨g', mk, t, L, e1, e2, hq, h1, hL, h2, h3⟩, st⟩ | ⟨q, vm₁, ⟨U', l2, c2, s2⟩, hW₁, X', ⟨g', mk, t, L, E, ce, e1, e2, hq, hce, hcv, hcl, h1, hL, h2, h3⟩, st⟩
  · dsimp only [Pt.U, Pt.locs, Pt.cells, Pt.slots] at X' e1 e2 h1 h2 h3 st
    subst h1; subst h2; subst h3
    exact Or.inl ⟨v, (T.setVm vm₁).calling g' mk As.toArray, t, U', L, hT, X', hL, e1, e2, hq, st⟩
  · dsimp only [Pt.U, Pt.locs, Pt.cells, Pt.slots] at X' e1 e2 h1 h2 h3 st hcl
    subst h1; subst h2; subst h3
    exact Or.inr ⟨q, (T.setVm vm₁).calling g' mk As.toArray, t, U', L, E, ce, hT, X', hL, e1, e2, hq, hce, hcv, vx_cls hW₁ hcl, st⟩
end
end VXH
theorem vx_ofWH {l : Launch} {y : MethodName} {ws ws' : List Cond} {rm : Room} {Pc : Array Value → State → Prop} {Qc : Array Value → State → Outcome → State → Prop} {XC : String → State → State → Prop} {mc ms : Nat} {free : Addr → Prop} {cc : ByteArray} {maxL : Nat} {ret : Option FieldType} {hh : List (Nat × Nat × Nat × Nat)}
    (hy : plainName y.cls = true) (hw : ws = Cond.codeWith y cc maxL ret hh :: ws')
    (body : ∀ p e s m args below meth c s₁, BodyLoose p l y (headSpec ws rm) cc maxL ret e s m args below meth c s₁ → c.maxLocals = maxL → Pc args s →
      W p l e (headSpec ws rm).room s m args below meth c s.heap [] 0 0 (vx_MQ below Qc XC args s mc ms free) (entryFrame m args maxL)) : vx_Met l y ws rm Pc Qc XC mc ms free := by
  refine MetFree.of_bodyS (code := cc) (maxLocals := maxL) (ret := ret) hy ?_ ?_
  · intro args s m h hn
    obtain ⟨m9, meth, c, hn9, h1, h2, h3, h4, -, h5, h6, -⟩ := Cond.codeWith_spec (atoms_spec (ws := ws) h _ (by rw [hw]; exact List.mem_cons_self))
    cases hn.symm.trans hn9
    exact ⟨meth, c, h1, h2, h3, h4, h5, h6⟩
  · intro p e s m args below meth c s₁ B hml hP _
    have hh0 : s₁.heap = s.heap := by rw [B.state]; rfl
    obtain ⟨t, a1, o, b1, b2, b3⟩ := body p e s m args below meth c s₁ B hml hP s₁ hh0 (Stand.of_body B)
    exact ⟨t, o, a1, b1, b2, b3⟩
/-! ===== END ===== -/

/-! ===== BEGIN printed: names, fields, word lists, decode rows ===== -/
end
section
def RX0 : String := "BorrowedHats$Ways"
def TX0 : u_T := fun k => match k with
  | 0 => ("BorrowedHats$Ways", "held", "[I", true)
  | _ => ("BorrowedHats$Ways", "count", "I", false)
def tyX0 : Nat → FieldType := fun k => match k with
  | 0 => .array .int
  | _ => .int
abbrev wsX00 : List Cond := u_ws RX0 TX0 2
theorem nmX0 : ∀ a, a < 2 → ∀ b, b < 2 → a ≠ b → (TX0 a).2.1 ≠ (TX0 b).2.1 := by decide +kernel
theorem tyX0_ok : ∀ k, k < 2 → parseFieldDescriptor (TX0 k).2.2.1 = some (tyX0 k) := by decide +kernel
abbrev cX0_init : ByteArray := prog_2_method_1_code
def yX0_init : MethodName := ⟨RX0, "<init>", "()V"⟩
abbrev cX0_count : ByteArray := prog_2_method_2_code
def yX0_count : MethodName := ⟨RX0, "count", "()I"⟩
abbrev cX0_at : ByteArray := prog_2_method_3_code
def yX0_at : MethodName := ⟨RX0, "at", "(I)I"⟩
abbrev cX0_add : ByteArray := prog_2_method_4_code
def yX0_add : MethodName := ⟨RX0, "add", "(I)V"⟩
abbrev cX0_clear : ByteArray := prog_2_method_5_code
def yX0_clear : MethodName := ⟨RX0, "clear", "()V"⟩
abbrev cX0_put : ByteArray := prog_2_method_6_code
def yX0_put : MethodName := ⟨RX0, "put", "(II)V"⟩
abbrev cX0_copyFrom : ByteArray := prog_2_method_7_code
def yX0_copyFrom : MethodName := ⟨RX0, "copyFrom", "(LBorrowedHats$Ways;)V"⟩
def RX1 : String := "BorrowedHats"
def TX1 : u_T := fun k => match k with
  | 0 => ("BorrowedHats", "open", "LBorrowedHats$Ways;", true)
  | 1 => ("BorrowedHats", "trial", "LBorrowedHats$Ways;", true)
  | 2 => ("BorrowedHats", "seenHats", "[I", true)
  | 3 => ("BorrowedHats", "ownColoursByView", "[I", true)
  | 4 => ("BorrowedHats", "playerCount", "I", false)
  | 5 => ("BorrowedHats", "wayOfNow", "I", false)
  | 6 => ("BorrowedHats", "turn", "I", false)
  | 7 => ("BorrowedHats", "turnCount", "I", false)
  | 8 => ("BorrowedHats", "silentCount", "I", false)
  | _ => ("BorrowedHats", "underWay", "Z", false)
def tyX1 : Nat → FieldType := fun k => match k with
  | 0 => .object "BorrowedHats$Ways"
  | 1 => .object "BorrowedHats$Ways"
  | 2 => .array .int
  | 3 => .array .int
  | 4 => .int
  | 5 => .int
  | 6 => .int
  | 7 => .int
  | 8 => .int
  | _ => .boolean
abbrev wsX10 : List Cond := u_ws RX1 TX1 10
theorem nmX1 : ∀ a, a < 10 → ∀ b, b < 10 → a ≠ b → (TX1 a).2.1 ≠ (TX1 b).2.1 := by decide +kernel
theorem tyX1_ok : ∀ k, k < 10 → parseFieldDescriptor (TX1 k).2.2.1 = some (tyX1 k) := by decide +kernel
abbrev cX1_init : ByteArray := prog_1_method_1_code
def yX1_init : MethodName := ⟨RX1, "<init>", "()V"⟩
abbrev cX1_addPlayer : ByteArray := prog_1_method_2_code
def yX1_addPlayer : MethodName := ⟨RX1, "addPlayer", "(I)I"⟩
abbrev cX1_turnAway : ByteArray := prog_1_method_3_code
def yX1_turnAway : MethodName := ⟨RX1, "turnAway", "(II)Z"⟩
abbrev cX1_borrow : ByteArray := prog_1_method_4_code
def yX1_borrow : MethodName := ⟨RX1, "borrow", "(II)I"⟩
abbrev cX1_takeTurn : ByteArray := prog_1_method_5_code
def yX1_takeTurn : MethodName := ⟨RX1, "takeTurn", "()I"⟩
abbrev cX1_sayAtLeast : ByteArray := prog_1_method_6_code
def yX1_sayAtLeast : MethodName := ⟨RX1, "sayAtLeast", "(II)I"⟩
abbrev cX1_sayAtMost : ByteArray := prog_1_method_7_code
def yX1_sayAtMost : MethodName := ⟨RX1, "sayAtMost", "(II)I"⟩
abbrev cX1_begin : ByteArray := prog_1_method_8_code
def yX1_begin : MethodName := ⟨RX1, "begin", "()I"⟩
abbrev cX1_players : ByteArray := prog_1_method_9_code
def yX1_players : MethodName := ⟨RX1, "players", "()I"⟩
abbrev cX1_turnsTaken : ByteArray := prog_1_method_10_code
def yX1_turnsTaken : MethodName := ⟨RX1, "turnsTaken", "()I"⟩
abbrev cX1_silentTurns : ByteArray := prog_1_method_11_code
def yX1_silentTurns : MethodName := ⟨RX1, "silentTurns", "()I"⟩
abbrev cX1_playerInTurn : ByteArray := prog_1_method_12_code
def yX1_playerInTurn : MethodName := ⟨RX1, "playerInTurn", "()I"⟩
abbrev cX1_hatOf : ByteArray := prog_1_method_13_code
def yX1_hatOf : MethodName := ⟨RX1, "hatOf", "(I)I"⟩
abbrev cX1_sees : ByteArray := prog_1_method_14_code
def yX1_sees : MethodName := ⟨RX1, "sees", "(II)Z"⟩
abbrev cX1_hatsOf : ByteArray := prog_1_method_15_code
def yX1_hatsOf : MethodName := ⟨RX1, "hatsOf", "(I)I"⟩
abbrev cX1_openWays : ByteArray := prog_1_method_16_code
def yX1_openWays : MethodName := ⟨RX1, "openWays", "()I"⟩
abbrev cX1_openWaysWith : ByteArray := prog_1_method_17_code
def yX1_openWaysWith : MethodName := ⟨RX1, "openWaysWith", "(II)I"⟩
abbrev cX1_isKnownToAll : ByteArray := prog_1_method_18_code
def yX1_isKnownToAll : MethodName := ⟨RX1, "isKnownToAll", "(I)Z"⟩
abbrev cX1_possibleWays : ByteArray := prog_1_method_19_code
def yX1_possibleWays : MethodName := ⟨RX1, "possibleWays", "(I)I"⟩
abbrev cX1_holdsPossible : ByteArray := prog_1_method_20_code
def yX1_holdsPossible : MethodName := ⟨RX1, "holdsPossible", "(III)Z"⟩
abbrev cX1_isCertain : ByteArray := prog_1_method_21_code
def yX1_isCertain : MethodName := ⟨RX1, "isCertain", "(I)Z"⟩
abbrev cX1_knowsHatOf : ByteArray := prog_1_method_22_code
def yX1_knowsHatOf : MethodName := ⟨RX1, "knowsHatOf", "(II)Z"⟩
abbrev cX1_knowsCertain : ByteArray := prog_1_method_23_code
def yX1_knowsCertain : MethodName := ⟨RX1, "knowsCertain", "(II)Z"⟩
abbrev cX1_certainPlayers : ByteArray := prog_1_method_24_code
def yX1_certainPlayers : MethodName := ⟨RX1, "certainPlayers", "()I"⟩
abbrev cX1_certainIfTold : ByteArray := prog_1_method_29_code
def yX1_certainIfTold : MethodName := ⟨RX1, "certainIfTold", "(I)I"⟩
abbrev cX1_meanPossible : ByteArray := prog_1_method_30_code
def yX1_meanPossible : MethodName := ⟨RX1, "meanPossible", "()D"⟩
abbrev cX1_requirePlayer : ByteArray := prog_1_method_32_code
def yX1_requirePlayer : MethodName := ⟨RX1, "requirePlayer", "(I)V"⟩
abbrev cX1_requireTwoPlayers : ByteArray := prog_1_method_33_code
def yX1_requireTwoPlayers : MethodName := ⟨RX1, "requireTwoPlayers", "(II)V"⟩
abbrev cX1_requireSomePlayer : ByteArray := prog_1_method_34_code
def yX1_requireSomePlayer : MethodName := ⟨RX1, "requireSomePlayer", "()V"⟩
abbrev cX1_requireColour : ByteArray := prog_1_method_35_code
def yX1_requireColour : MethodName := ⟨RX1, "requireColour", "(I)V"⟩
abbrev cX1_requireMany : ByteArray := prog_1_method_36_code
def yX1_requireMany : MethodName := ⟨RX1, "requireMany", "(I)V"⟩
abbrev cX1_shiftOf : ByteArray := prog_1_method_37_code
def yX1_shiftOf : MethodName := ⟨RX1, "shiftOf", "(I)I"⟩
abbrev cX1_hatMask : ByteArray := prog_1_method_38_code
def yX1_hatMask : MethodName := ⟨RX1, "hatMask", "(I)I"⟩
abbrev cX1_colourIn : ByteArray := prog_1_method_39_code
def yX1_colourIn : MethodName := ⟨RX1, "colourIn", "(II)I"⟩
abbrev cX1_exchanged : ByteArray := prog_1_method_40_code
def yX1_exchanged : MethodName := ⟨RX1, "exchanged", "(III)I"⟩
abbrev cX1_hatsIn : ByteArray := prog_1_method_41_code
def yX1_hatsIn : MethodName := ⟨RX1, "hatsIn", "(II)I"⟩
abbrev cX1_seenHatsOf : ByteArray := prog_1_method_42_code
def yX1_seenHatsOf : MethodName := ⟨RX1, "seenHatsOf", "(I)I"⟩
abbrev cX1_setSeenHatsOf : ByteArray := prog_1_method_43_code
def yX1_setSeenHatsOf : MethodName := ⟨RX1, "setSeenHatsOf", "(II)V"⟩
abbrev cX1_seesHat : ByteArray := prog_1_method_44_code
def yX1_seesHat : MethodName := ⟨RX1, "seesHat", "(II)Z"⟩
abbrev cX1_lookAtEachOther : ByteArray := prog_1_method_45_code
def yX1_lookAtEachOther : MethodName := ⟨RX1, "lookAtEachOther", "(I)V"⟩
abbrev cX1_viewOf : ByteArray := prog_1_method_46_code
def yX1_viewOf : MethodName := ⟨RX1, "viewOf", "(II)I"⟩
abbrev cX1_agreesWithNow : ByteArray := prog_1_method_47_code
def yX1_agreesWithNow : MethodName := ⟨RX1, "agreesWithNow", "(II)Z"⟩
abbrev cX1_openColoursOf : ByteArray := prog_1_method_48_code
def yX1_openColoursOf : MethodName := ⟨RX1, "openColoursOf", "(I)V"⟩
abbrev cX1_sayBetween : ByteArray := prog_1_method_49_code
def yX1_sayBetween : MethodName := ⟨RX1, "sayBetween", "(III)I"⟩
abbrev cX1_keepWithHats : ByteArray := prog_1_method_50_code
def yX1_keepWithHats : MethodName := ⟨RX1, "keepWithHats", "(LBorrowedHats$Ways;III)V"⟩
abbrev cX1_keepWithHat : ByteArray := prog_1_method_51_code
def yX1_keepWithHat : MethodName := ⟨RX1, "keepWithHat", "(LBorrowedHats$Ways;II)V"⟩
abbrev cX1_keepByCertainty : ByteArray := prog_1_method_52_code
def yX1_keepByCertainty : MethodName := ⟨RX1, "keepByCertainty", "(LBorrowedHats$Ways;IZ)V"⟩
abbrev cX1_countWithHat : ByteArray := prog_1_method_53_code
def yX1_countWithHat : MethodName := ⟨RX1, "countWithHat", "(II)I"⟩
abbrev cX1_countPossible : ByteArray := prog_1_method_55_code
def yX1_countPossible : MethodName := ⟨RX1, "countPossible", "(I)I"⟩
abbrev cX1_possibleColours : ByteArray := prog_1_method_56_code
def yX1_possibleColours : MethodName := ⟨RX1, "possibleColours", "(LBorrowedHats$Ways;II)I"⟩
abbrev cX1_isOneColour : ByteArray := prog_1_method_57_code
def yX1_isOneColour : MethodName := ⟨RX1, "isOneColour", "(I)Z"⟩
abbrev cX1_isCertainBy : ByteArray := prog_1_method_58_code
def yX1_isCertainBy : MethodName := ⟨RX1, "isCertainBy", "(LBorrowedHats$Ways;I)Z"⟩
abbrev cX1_countCertain : ByteArray := prog_1_method_59_code
def yX1_countCertain : MethodName := ⟨RX1, "countCertain", "(LBorrowedHats$Ways;)I"⟩
abbrev cX1_noteOwnColours : ByteArray := prog_1_method_60_code
def yX1_noteOwnColours : MethodName := ⟨RX1, "noteOwnColours", "(LBorrowedHats$Ways;I)V"⟩
abbrev cX1_ownColours : ByteArray := prog_1_method_61_code
def yX1_ownColours : MethodName := ⟨RX1, "ownColours", "(I)I"⟩
abbrev cX1_setOwnColours : ByteArray := prog_1_method_62_code
def yX1_setOwnColours : MethodName := ⟨RX1, "setOwnColours", "(II)V"⟩
abbrev cX1_wouldBeCertain : ByteArray := prog_1_method_63_code
def yX1_wouldBeCertain : MethodName := ⟨RX1, "wouldBeCertain", "(II)Z"⟩
abbrev cX1_playerAfter : ByteArray := prog_1_method_64_code
def yX1_playerAfter : MethodName := ⟨RX1, "playerAfter", "(I)I"⟩
abbrev cX1_passTurn : ByteArray := prog_1_method_65_code
def yX1_passTurn : MethodName := ⟨RX1, "passTurn", "(LBorrowedHats$Ways;I)Z"⟩
def RX2 : String := "BorrowedHatsLaw$Sim"
def TX2 : u_T := fun k => match k with
  | 0 => ("BorrowedHatsLaw$Sim", "n", "I", false)
  | 1 => ("BorrowedHatsLaw$Sim", "turns", "I", false)
  | 2 => ("BorrowedHatsLaw$Sim", "silent", "I", false)
  | 3 => ("BorrowedHatsLaw$Sim", "hasBegun", "Z", false)
  | 4 => ("BorrowedHatsLaw$Sim", "hat", "[I", false)
  | 5 => ("BorrowedHatsLaw$Sim", "sees", "[[Z", false)
  | 6 => ("BorrowedHatsLaw$Sim", "ways", "[[I", false)
  | _ => ("BorrowedHatsLaw$Sim", "open", "[Z", false)
def tyX2 : Nat → FieldType := fun k => match k with
  | 0 => .int
  | 1 => .int
  | 2 => .int
  | 3 => .boolean
  | 4 => .array .int
  | 5 => .array (.array .boolean)
  | 6 => .array (.array .int)
  | _ => .array .boolean
abbrev wsX20 : List Cond := u_ws RX2 TX2 8
theorem nmX2 : ∀ a, a < 8 → ∀ b, b < 8 → a ≠ b → (TX2 a).2.1 ≠ (TX2 b).2.1 := by decide +kernel
theorem tyX2_ok : ∀ k, k < 8 → parseFieldDescriptor (TX2 k).2.2.1 = some (tyX2 k) := by decide +kernel
abbrev cX2_init : ByteArray := prog_4_method_1_code
def yX2_init : MethodName := ⟨RX2, "<init>", "()V"⟩
abbrev cX2_add : ByteArray := prog_4_method_2_code
def yX2_add : MethodName := ⟨RX2, "add", "(I)V"⟩
abbrev cX2_all : ByteArray := prog_4_method_3_code
def yX2_all : MethodName := ⟨RX2, "all", "()V"⟩
abbrev cX2_agree : ByteArray := prog_4_method_4_code
def yX2_agree : MethodName := ⟨RX2, "agree", "(I[I[I)Z"⟩
abbrev cX2_isSure : ByteArray := prog_4_method_5_code
def yX2_isSure : MethodName := ⟨RX2, "isSure", "(II[I)Z"⟩
abbrev cX2_turn : ByteArray := prog_4_method_6_code
def yX2_turn : MethodName := ⟨RX2, "turn", "()I"⟩
abbrev cX2_have : ByteArray := prog_4_method_7_code
def yX2_have : MethodName := ⟨RX2, "have", "([II)I"⟩
abbrev cX2_many : ByteArray := prog_4_method_8_code
def yX2_many : MethodName := ⟨RX2, "many", "()I"⟩
abbrev cX2_say : ByteArray := prog_4_method_9_code
def yX2_say : MethodName := ⟨RX2, "say", "(IIZ)I"⟩
abbrev cX2_borrow : ByteArray := prog_4_method_10_code
def yX2_borrow : MethodName := ⟨RX2, "borrow", "(II)V"⟩
abbrev cX2_certain : ByteArray := prog_4_method_11_code
def yX2_certain : MethodName := ⟨RX2, "certain", "()I"⟩
abbrev cX2_isSame : ByteArray := prog_4_method_13_code
def yX2_isSame : MethodName := ⟨RX2, "isSame", "(LBorrowedHats;)Z"⟩
def RX3 : String := "BorrowedHatsModel"
def TX3 : u_T := fun k => match k with
  | _ => ("", "", "", false)
def tyX3 : Nat → FieldType := fun k => match k with
  | _ => .int
abbrev wsX30 : List Cond := u_ws RX3 TX3 0
theorem nmX3 : ∀ a, a < 0 → ∀ b, b < 0 → a ≠ b → (TX3 a).2.1 ≠ (TX3 b).2.1 := by decide +kernel
theorem tyX3_ok : ∀ k, k < 0 → parseFieldDescriptor (TX3 k).2.2.1 = some (tyX3 k) := by decide +kernel
def RJ6 : String := "java/lang/Integer"
abbrev cJ6_bitCount_0f7a4 : ByteArray := prog_10_method_49_code
def yJ6_bitCount_0f7a4 : MethodName := ⟨RJ6, "bitCount", "(I)I"⟩
def RJ9 : String := "java/lang/Math"
abbrev cJ9_max_7cf53 : ByteArray := prog_11_method_65_code
def yJ9_max_7cf53 : MethodName := ⟨RJ9, "max", "(II)I"⟩
def RJ0 : String := "java/lang/String"
def RL : String := "BorrowedHatsLaw"
abbrev cL_below : ByteArray := method_2_code
def yL_below : MethodName := ⟨RL, "below", "(II)I"⟩
abbrev cL_cell : ByteArray := method_3_code
def yL_cell : MethodName := ⟨RL, "cell", "([II)I"⟩
abbrev cL_act : ByteArray := method_4_code
def yL_act : MethodName := ⟨RL, "act", "(LBorrowedHats;LBorrowedHatsLaw$Sim;I)Z"⟩
abbrev cL_build : ByteArray := method_5_code
def yL_build : MethodName := ⟨RL, "build", "(LBorrowedHats;[I)LBorrowedHatsLaw$Sim;"⟩
abbrev cL_law : ByteArray := code
def yL_law : MethodName := ⟨RL, "law", "([I)Z"⟩
abbrev vwCl : List vw_C := [(RX0, TX0, 2), (RX1, TX1, 10), (RX2, TX2, 8)]
/-- all good words of the tables -/
def bw : List Cond := lw_tbl.filter goodWord
theorem bw_good : GoodIn bw bw := fun w h => ⟨h, good_of_word (List.mem_filter.mp h).2⟩
theorem bw_tbl {w : Cond} (h : w ∈ bw) : w ∈ lw_tbl := (List.mem_filter.mp h).1
theorem bw_of {w : Cond} (i : Nat) (h : tables_1[i]? = some w) (g : goodWord w = true) : w ∈ bw := List.mem_filter.mpr ⟨List.mem_append_right _ (List.mem_of_getElem? h), g⟩
theorem bw_sel {w : Cond} (i : Nat) (h : (k2_sels lw_privs)[i]? = some w) (g : goodWord w = true) : w ∈ bw := List.mem_filter.mpr ⟨List.mem_append_left _ (List.mem_of_getElem? h), g⟩
theorem bw_V {own C : String} {idx : Nat} {y : MethodName} {cw : Cond} (h1 : Cond.methodLink own idx y ∈ bw) (h2 : Cond.instanceMethod y ∈ bw) (h3 : Cond.selects C y y ∈ bw) (h4 : Cond.initialized C ∈ bw) (h5 : cw ∈ bw) : GoodIn bw (wsV own idx C y (cw :: bw)) := by
  intro w hw
  simp only [wsV, List.mem_append, List.mem_cons, List.not_mem_nil, or_false] at hw
  rcases hw with (rfl | rfl | rfl | rfl) | rfl | hw <;> exact bw_good _ (by assumption)
theorem bw_S {own : String} {idx : Nat} {y : MethodName} {cw : Cond} (h1 : Cond.methodLink own idx y ∈ bw) (h2 : Cond.static y ∈ bw) (h4 : Cond.initialized y.cls ∈ bw) (h5 : cw ∈ bw) : GoodIn bw (va_wsS own idx y (cw :: bw)) := by
  intro w hw
  simp only [va_wsS, List.mem_append, List.mem_cons, List.not_mem_nil, or_false] at hw
  rcases hw with (rfl | rfl | rfl) | rfl | hw <;> exact bw_good _ (by assumption)
theorem bw_c {cw : Cond} (h5 : cw ∈ bw) : GoodIn bw (cw :: bw) := by
  intro w hw
  rcases List.mem_cons.mp hw with rfl | hw <;> exact bw_good _ (by assumption)
theorem inX0 : ∀ w ∈ wsX00, w ∈ bw := by decide +kernel
theorem inX1 : ∀ w ∈ wsX10, w ∈ bw := by decide +kernel
theorem inX2 : ∀ w ∈ wsX20, w ∈ bw := by decide +kernel
theorem q_in_L : Cond.initialized RL ∈ bw := bw_of 0 (by decide +kernel) (by decide +kernel)
theorem q_in_X1 : Cond.initialized RX1 ∈ bw := bw_of 1 (by decide +kernel) (by decide +kernel)
theorem q_in_X0 : Cond.initialized RX0 ∈ bw := bw_of 2 (by decide +kernel) (by decide +kernel)
theorem q_in_X2 : Cond.initialized RX2 ∈ bw := bw_of 3 (by decide +kernel) (by decide +kernel)
theorem q_in_Throwable : Cond.initialized "java/lang/Throwable" ∈ bw := bw_of 4 (by decide +kernel) (by decide +kernel)
theorem q_in_Exception : Cond.initialized "java/lang/Exception" ∈ bw := bw_of 5 (by decide +kernel) (by decide +kernel)
theorem q_in_RuntimeException : Cond.initialized "java/lang/RuntimeException" ∈ bw := bw_of 6 (by decide +kernel) (by decide +kernel)
theorem q_in_IndexOutOfBoundsException : Cond.initialized "java/lang/IndexOutOfBoundsException" ∈ bw := bw_of 7 (by decide +kernel) (by decide +kernel)
theorem q_in_IllegalStateException : Cond.initialized "java/lang/IllegalStateException" ∈ bw := bw_of 8 (by decide +kernel) (by decide +kernel)
theorem q_in_J9 : Cond.initialized RJ9 ∈ bw := bw_of 9 (by decide +kernel) (by decide +kernel)
theorem q_in_IllegalArgumentException : Cond.initialized "java/lang/IllegalArgumentException" ∈ bw := bw_of 10 (by decide +kernel) (by decide +kernel)
theorem q_in_J6 : Cond.initialized RJ6 ∈ bw := bw_of 11 (by decide +kernel) (by decide +kernel)
theorem q_cl_L_30 : Cond.classLink RL 30 RX1 ∈ bw := bw_of 12 (by decide +kernel) (by decide +kernel)
theorem q_is_X1 : Cond.instantiable RX1 10 ∈ bw := bw_of 13 (by decide +kernel) (by decide +kernel)
theorem q_ml_L_103 : Cond.methodLink RL 103 yX1_init ∈ bw := bw_of 14 (by decide +kernel) (by decide +kernel)
theorem q_im_X1_init : Cond.instanceMethod yX1_init ∈ bw := bw_of 15 (by decide +kernel) (by decide +kernel)
theorem q_c_X1_init : Cond.code yX1_init cX1_init 1 none ∈ bw := bw_of 16 (by decide +kernel) (by decide +kernel)
abbrev ws_X1_init : List Cond := Cond.code yX1_init cX1_init 1 none :: bw
theorem q_cl_X1_7 : Cond.classLink RX1 7 RX0 ∈ bw := bw_of 20 (by decide +kernel) (by decide +kernel)
theorem q_is_X0 : Cond.instantiable RX0 2 ∈ bw := bw_of 21 (by decide +kernel) (by decide +kernel)
theorem q_im_X0_init : Cond.instanceMethod yX0_init ∈ bw := bw_of 23 (by decide +kernel) (by decide +kernel)
theorem q_c_X0_init : Cond.code yX0_init cX0_init 1 none ∈ bw := bw_of 24 (by decide +kernel) (by decide +kernel)
abbrev ws_X0_init : List Cond := Cond.code yX0_init cX0_init 1 none :: bw
theorem q_fl_X0_9 : Cond.fieldLink RX0 9 "BorrowedHats$Ways" "held" "[I" ∈ bw := bw_of 26 (by decide +kernel) (by decide +kernel)
theorem q_fl_X0_15 : Cond.fieldLink RX0 15 "BorrowedHats$Ways" "count" "I" ∈ bw := bw_of 27 (by decide +kernel) (by decide +kernel)
theorem q_ac_int : Cond.arrayClass .int ∈ bw := bw_of 33 (by decide +kernel) (by decide +kernel)
theorem q_ml_X1_46 : Cond.methodLink RX1 46 yX0_add ∈ bw := bw_of 34 (by decide +kernel) (by decide +kernel)
theorem q_im_X0_add : Cond.instanceMethod yX0_add ∈ bw := bw_of 35 (by decide +kernel) (by decide +kernel)
theorem q_se_X0_add : Cond.selects RX0 yX0_add yX0_add ∈ bw := bw_of 36 (by decide +kernel) (by decide +kernel)
theorem q_c_X0_add : Cond.code yX0_add cX0_add 2 none ∈ bw := bw_of 37 (by decide +kernel) (by decide +kernel)
abbrev ws_X0_add : List Cond := Cond.code yX0_add cX0_add 2 none :: bw
theorem q_fl_X1_10 : Cond.fieldLink RX1 10 "BorrowedHats" "open" "LBorrowedHats$Ways;" ∈ bw := bw_of 38 (by decide +kernel) (by decide +kernel)
theorem q_fl_X1_16 : Cond.fieldLink RX1 16 "BorrowedHats" "trial" "LBorrowedHats$Ways;" ∈ bw := bw_of 39 (by decide +kernel) (by decide +kernel)
theorem q_fl_X1_19 : Cond.fieldLink RX1 19 "BorrowedHats" "seenHats" "[I" ∈ bw := bw_of 40 (by decide +kernel) (by decide +kernel)
theorem q_fl_X1_23 : Cond.fieldLink RX1 23 "BorrowedHats" "ownColoursByView" "[I" ∈ bw := bw_of 41 (by decide +kernel) (by decide +kernel)
theorem q_fl_X1_26 : Cond.fieldLink RX1 26 "BorrowedHats" "playerCount" "I" ∈ bw := bw_of 42 (by decide +kernel) (by decide +kernel)
theorem q_fl_X1_30 : Cond.fieldLink RX1 30 "BorrowedHats" "wayOfNow" "I" ∈ bw := bw_of 43 (by decide +kernel) (by decide +kernel)
theorem q_fl_X1_33 : Cond.fieldLink RX1 33 "BorrowedHats" "turn" "I" ∈ bw := bw_of 44 (by decide +kernel) (by decide +kernel)
theorem q_fl_X1_36 : Cond.fieldLink RX1 36 "BorrowedHats" "turnCount" "I" ∈ bw := bw_of 45 (by decide +kernel) (by decide +kernel)
theorem q_fl_X1_39 : Cond.fieldLink RX1 39 "BorrowedHats" "silentCount" "I" ∈ bw := bw_of 46 (by decide +kernel) (by decide +kernel)
theorem q_fl_X1_42 : Cond.fieldLink RX1 42 "BorrowedHats" "underWay" "Z" ∈ bw := bw_of 47 (by decide +kernel) (by decide +kernel)
theorem q_ml_L_89 : Cond.methodLink RL 89 yX1_takeTurn ∈ bw := bw_of 69 (by decide +kernel) (by decide +kernel)
theorem q_im_X1_takeTurn : Cond.instanceMethod yX1_takeTurn ∈ bw := bw_of 70 (by decide +kernel) (by decide +kernel)
theorem q_se_X1_takeTurn : Cond.selects RX1 yX1_takeTurn yX1_takeTurn ∈ bw := bw_of 71 (by decide +kernel) (by decide +kernel)
theorem q_c_X1_takeTurn : Cond.code yX1_takeTurn cX1_takeTurn 3 (some .int) ∈ bw := bw_of 72 (by decide +kernel) (by decide +kernel)
abbrev ws_X1_takeTurn : List Cond := Cond.code yX1_takeTurn cX1_takeTurn 3 (some .int) :: bw
theorem q_ml_X1_105 : Cond.methodLink RX1 105 yX1_requireSomePlayer ∈ bw := bw_of 73 (by decide +kernel) (by decide +kernel)
theorem q_im_X1_requireSomePlayer : Cond.instanceMethod yX1_requireSomePlayer ∈ bw := bw_of 75 (by decide +kernel) (by decide +kernel)
theorem q_c_X1_requireSomePlayer : Cond.code yX1_requireSomePlayer cX1_requireSomePlayer 1 none ∈ bw := bw_of 76 (by decide +kernel) (by decide +kernel)
abbrev ws_X1_requireSomePlayer : List Cond := Cond.code yX1_requireSomePlayer cX1_requireSomePlayer 1 none :: bw
theorem q_cl_X1_53 : Cond.classLink RX1 53 "java/lang/IllegalStateException" ∈ bw := bw_of 77 (by decide +kernel) (by decide +kernel)
theorem q_is_IllegalStateException : Cond.instantiable "java/lang/IllegalStateException" 6 ∈ bw := bw_of 78 (by decide +kernel) (by decide +kernel)
theorem q_is_Throwable : Cond.instantiable "java/lang/Throwable" 6 ∈ bw := bw_of 116 (by decide +kernel) (by decide +kernel)
theorem q_ac_byte : Cond.arrayClass .byte ∈ bw := bw_of 144 (by decide +kernel) (by decide +kernel)
theorem q_ml_X1_108 : Cond.methodLink RX1 108 yX1_passTurn ∈ bw := bw_of 145 (by decide +kernel) (by decide +kernel)
theorem q_im_X1_passTurn : Cond.instanceMethod yX1_passTurn ∈ bw := bw_of 147 (by decide +kernel) (by decide +kernel)
theorem q_c_X1_passTurn : Cond.code yX1_passTurn cX1_passTurn 4 (some .boolean) ∈ bw := bw_of 148 (by decide +kernel) (by decide +kernel)
abbrev ws_X1_passTurn : List Cond := Cond.code yX1_passTurn cX1_passTurn 4 (some .boolean) :: bw
theorem q_ml_X1_140 : Cond.methodLink RX1 140 yX1_isCertainBy ∈ bw := bw_of 149 (by decide +kernel) (by decide +kernel)
theorem q_im_X1_isCertainBy : Cond.instanceMethod yX1_isCertainBy ∈ bw := bw_of 151 (by decide +kernel) (by decide +kernel)
theorem q_c_X1_isCertainBy : Cond.code yX1_isCertainBy cX1_isCertainBy 3 (some .boolean) ∈ bw := bw_of 152 (by decide +kernel) (by decide +kernel)
abbrev ws_X1_isCertainBy : List Cond := Cond.code yX1_isCertainBy cX1_isCertainBy 3 (some .boolean) :: bw
theorem q_ml_X1_136 : Cond.methodLink RX1 136 yX1_possibleColours ∈ bw := bw_of 153 (by decide +kernel) (by decide +kernel)
theorem q_im_X1_possibleColours : Cond.instanceMethod yX1_possibleColours ∈ bw := bw_of 155 (by decide +kernel) (by decide +kernel)
theorem q_c_X1_possibleColours : Cond.code yX1_possibleColours cX1_possibleColours 8 (some .int) ∈ bw := bw_of 156 (by decide +kernel) (by decide +kernel)
abbrev ws_X1_possibleColours : List Cond := Cond.code yX1_possibleColours cX1_possibleColours 8 (some .int) :: bw
theorem q_ml_X1_74 : Cond.methodLink RX1 74 yX1_seenHatsOf ∈ bw := bw_of 157 (by decide +kernel) (by decide +kernel)
theorem q_im_X1_seenHatsOf : Cond.instanceMethod yX1_seenHatsOf ∈ bw := bw_of 159 (by decide +kernel) (by decide +kernel)
theorem q_c_X1_seenHatsOf : Cond.code yX1_seenHatsOf cX1_seenHatsOf 2 (some .int) ∈ bw := bw_of 160 (by decide +kernel) (by decide +kernel)
abbrev ws_X1_seenHatsOf : List Cond := Cond.code yX1_seenHatsOf cX1_seenHatsOf 2 (some .int) :: bw
theorem q_ml_X1_91 : Cond.methodLink RX1 91 yX0_count ∈ bw := bw_of 161 (by decide +kernel) (by decide +kernel)
theorem q_im_X0_count : Cond.instanceMethod yX0_count ∈ bw := bw_of 162 (by decide +kernel) (by decide +kernel)
theorem q_se_X0_count : Cond.selects RX0 yX0_count yX0_count ∈ bw := bw_of 163 (by decide +kernel) (by decide +kernel)
theorem q_c_X0_count : Cond.code yX0_count cX0_count 1 (some .int) ∈ bw := bw_of 164 (by decide +kernel) (by decide +kernel)
abbrev ws_X0_count : List Cond := Cond.code yX0_count cX0_count 1 (some .int) :: bw
theorem q_ml_X1_95 : Cond.methodLink RX1 95 yX0_at ∈ bw := bw_of 165 (by decide +kernel) (by decide +kernel)
theorem q_im_X0_at : Cond.instanceMethod yX0_at ∈ bw := bw_of 166 (by decide +kernel) (by decide +kernel)
theorem q_se_X0_at : Cond.selects RX0 yX0_at yX0_at ∈ bw := bw_of 167 (by decide +kernel) (by decide +kernel)
theorem q_c_X0_at : Cond.code yX0_at cX0_at 2 (some .int) ∈ bw := bw_of 168 (by decide +kernel) (by decide +kernel)
abbrev ws_X0_at : List Cond := Cond.code yX0_at cX0_at 2 (some .int) :: bw
theorem q_ml_X1_151 : Cond.methodLink RX1 151 yX1_agreesWithNow ∈ bw := bw_of 169 (by decide +kernel) (by decide +kernel)
theorem q_im_X1_agreesWithNow : Cond.instanceMethod yX1_agreesWithNow ∈ bw := bw_of 171 (by decide +kernel) (by decide +kernel)
theorem q_c_X1_agreesWithNow : Cond.code yX1_agreesWithNow cX1_agreesWithNow 3 (some .boolean) ∈ bw := bw_of 172 (by decide +kernel) (by decide +kernel)
abbrev ws_X1_agreesWithNow : List Cond := Cond.code yX1_agreesWithNow cX1_agreesWithNow 3 (some .boolean) :: bw
theorem q_ml_X1_101 : Cond.methodLink RX1 101 yX1_colourIn ∈ bw := bw_of 173 (by decide +kernel) (by decide +kernel)
theorem q_st_X1_colourIn : Cond.static yX1_colourIn ∈ bw := bw_of 174 (by decide +kernel) (by decide +kernel)
theorem q_c_X1_colourIn : Cond.code yX1_colourIn cX1_colourIn 2 (some .int) ∈ bw := bw_of 175 (by decide +kernel) (by decide +kernel)
abbrev ws_X1_colourIn : List Cond := Cond.code yX1_colourIn cX1_colourIn 2 (some .int) :: bw
theorem q_ml_X1_143 : Cond.methodLink RX1 143 yX1_isOneColour ∈ bw := bw_of 176 (by decide +kernel) (by decide +kernel)
theorem q_st_X1_isOneColour : Cond.static yX1_isOneColour ∈ bw := bw_of 177 (by decide +kernel) (by decide +kernel)
theorem q_c_X1_isOneColour : Cond.code yX1_isOneColour cX1_isOneColour 1 (some .boolean) ∈ bw := bw_of 178 (by decide +kernel) (by decide +kernel)
abbrev ws_X1_isOneColour : List Cond := Cond.code yX1_isOneColour cX1_isOneColour 1 (some .boolean) :: bw
theorem q_ml_X1_231 : Cond.methodLink RX1 231 yJ6_bitCount_0f7a4 ∈ bw := bw_of 179 (by decide +kernel) (by decide +kernel)
theorem q_st_J6_bitCount_0f7a4 : Cond.static yJ6_bitCount_0f7a4 ∈ bw := bw_of 180 (by decide +kernel) (by decide +kernel)
theorem q_c_J6_bitCount_0f7a4 : Cond.code yJ6_bitCount_0f7a4 cJ6_bitCount_0f7a4 1 (some .int) ∈ bw := bw_of 181 (by decide +kernel) (by decide +kernel)
abbrev ws_J6_bitCount_0f7a4 : List Cond := Cond.code yJ6_bitCount_0f7a4 cJ6_bitCount_0f7a4 1 (some .int) :: bw
theorem q_k_J6_265 : Cond.constant RJ6 265 (1431655765) ∈ bw := bw_of 182 (by decide +kernel) (by decide +kernel)
theorem q_k_J6_266 : Cond.constant RJ6 266 (858993459) ∈ bw := bw_of 183 (by decide +kernel) (by decide +kernel)
theorem q_k_J6_267 : Cond.constant RJ6 267 (252645135) ∈ bw := bw_of 184 (by decide +kernel) (by decide +kernel)
theorem q_ml_X1_245 : Cond.methodLink RX1 245 yX1_keepByCertainty ∈ bw := bw_of 185 (by decide +kernel) (by decide +kernel)
theorem q_im_X1_keepByCertainty : Cond.instanceMethod yX1_keepByCertainty ∈ bw := bw_of 187 (by decide +kernel) (by decide +kernel)
theorem q_c_X1_keepByCertainty : Cond.code yX1_keepByCertainty cX1_keepByCertainty 7 none ∈ bw := bw_of 188 (by decide +kernel) (by decide +kernel)
abbrev ws_X1_keepByCertainty : List Cond := Cond.code yX1_keepByCertainty cX1_keepByCertainty 7 none :: bw
theorem q_ml_X1_147 : Cond.methodLink RX1 147 yX1_noteOwnColours ∈ bw := bw_of 189 (by decide +kernel) (by decide +kernel)
theorem q_im_X1_noteOwnColours : Cond.instanceMethod yX1_noteOwnColours ∈ bw := bw_of 191 (by decide +kernel) (by decide +kernel)
theorem q_c_X1_noteOwnColours : Cond.code yX1_noteOwnColours cX1_noteOwnColours 6 none ∈ bw := bw_of 192 (by decide +kernel) (by decide +kernel)
abbrev ws_X1_noteOwnColours : List Cond := Cond.code yX1_noteOwnColours cX1_noteOwnColours 6 none :: bw
theorem q_ml_X1_236 : Cond.methodLink RX1 236 yX1_viewOf ∈ bw := bw_of 193 (by decide +kernel) (by decide +kernel)
theorem q_im_X1_viewOf : Cond.instanceMethod yX1_viewOf ∈ bw := bw_of 195 (by decide +kernel) (by decide +kernel)
theorem q_c_X1_viewOf : Cond.code yX1_viewOf cX1_viewOf 3 (some .int) ∈ bw := bw_of 196 (by decide +kernel) (by decide +kernel)
abbrev ws_X1_viewOf : List Cond := Cond.code yX1_viewOf cX1_viewOf 3 (some .int) :: bw
theorem q_ml_X1_239 : Cond.methodLink RX1 239 yX1_setOwnColours ∈ bw := bw_of 197 (by decide +kernel) (by decide +kernel)
theorem q_im_X1_setOwnColours : Cond.instanceMethod yX1_setOwnColours ∈ bw := bw_of 199 (by decide +kernel) (by decide +kernel)
theorem q_c_X1_setOwnColours : Cond.code yX1_setOwnColours cX1_setOwnColours 3 none ∈ bw := bw_of 200 (by decide +kernel) (by decide +kernel)
abbrev ws_X1_setOwnColours : List Cond := Cond.code yX1_setOwnColours cX1_setOwnColours 3 none :: bw
theorem q_ml_X1_242 : Cond.methodLink RX1 242 yX1_ownColours ∈ bw := bw_of 201 (by decide +kernel) (by decide +kernel)
theorem q_im_X1_ownColours : Cond.instanceMethod yX1_ownColours ∈ bw := bw_of 203 (by decide +kernel) (by decide +kernel)
theorem q_c_X1_ownColours : Cond.code yX1_ownColours cX1_ownColours 2 (some .int) ∈ bw := bw_of 204 (by decide +kernel) (by decide +kernel)
abbrev ws_X1_ownColours : List Cond := Cond.code yX1_ownColours cX1_ownColours 2 (some .int) :: bw
theorem q_ml_X1_121 : Cond.methodLink RX1 121 yX0_clear ∈ bw := bw_of 205 (by decide +kernel) (by decide +kernel)
theorem q_im_X0_clear : Cond.instanceMethod yX0_clear ∈ bw := bw_of 206 (by decide +kernel) (by decide +kernel)
theorem q_se_X0_clear : Cond.selects RX0 yX0_clear yX0_clear ∈ bw := bw_of 207 (by decide +kernel) (by decide +kernel)
theorem q_c_X0_clear : Cond.code yX0_clear cX0_clear 1 none ∈ bw := bw_of 208 (by decide +kernel) (by decide +kernel)
abbrev ws_X0_clear : List Cond := Cond.code yX0_clear cX0_clear 1 none :: bw
theorem q_ml_X1_154 : Cond.methodLink RX1 154 yX1_wouldBeCertain ∈ bw := bw_of 209 (by decide +kernel) (by decide +kernel)
theorem q_im_X1_wouldBeCertain : Cond.instanceMethod yX1_wouldBeCertain ∈ bw := bw_of 211 (by decide +kernel) (by decide +kernel)
theorem q_c_X1_wouldBeCertain : Cond.code yX1_wouldBeCertain cX1_wouldBeCertain 3 (some .boolean) ∈ bw := bw_of 212 (by decide +kernel) (by decide +kernel)
abbrev ws_X1_wouldBeCertain : List Cond := Cond.code yX1_wouldBeCertain cX1_wouldBeCertain 3 (some .boolean) :: bw
theorem q_ml_X1_171 : Cond.methodLink RX1 171 yX1_keepWithHat ∈ bw := bw_of 213 (by decide +kernel) (by decide +kernel)
theorem q_st_X1_keepWithHat : Cond.static yX1_keepWithHat ∈ bw := bw_of 214 (by decide +kernel) (by decide +kernel)
theorem q_c_X1_keepWithHat : Cond.code yX1_keepWithHat cX1_keepWithHat 6 none ∈ bw := bw_of 215 (by decide +kernel) (by decide +kernel)
abbrev ws_X1_keepWithHat : List Cond := Cond.code yX1_keepWithHat cX1_keepWithHat 6 none :: bw
theorem q_ml_X1_112 : Cond.methodLink RX1 112 yX1_playerAfter ∈ bw := bw_of 216 (by decide +kernel) (by decide +kernel)
theorem q_im_X1_playerAfter : Cond.instanceMethod yX1_playerAfter ∈ bw := bw_of 218 (by decide +kernel) (by decide +kernel)
theorem q_c_X1_playerAfter : Cond.code yX1_playerAfter cX1_playerAfter 2 (some .int) ∈ bw := bw_of 219 (by decide +kernel) (by decide +kernel)
abbrev ws_X1_playerAfter : List Cond := Cond.code yX1_playerAfter cX1_playerAfter 2 (some .int) :: bw
theorem q_ml_L_108 : Cond.methodLink RL 108 yX1_players ∈ bw := bw_of 220 (by decide +kernel) (by decide +kernel)
theorem q_im_X1_players : Cond.instanceMethod yX1_players ∈ bw := bw_of 221 (by decide +kernel) (by decide +kernel)
theorem q_se_X1_players : Cond.selects RX1 yX1_players yX1_players ∈ bw := bw_of 222 (by decide +kernel) (by decide +kernel)
theorem q_c_X1_players : Cond.code yX1_players cX1_players 1 (some .int) ∈ bw := bw_of 223 (by decide +kernel) (by decide +kernel)
abbrev ws_X1_players : List Cond := Cond.code yX1_players cX1_players 1 (some .int) :: bw
theorem q_ml_L_157 : Cond.methodLink RL 157 yX1_turnsTaken ∈ bw := bw_of 224 (by decide +kernel) (by decide +kernel)
theorem q_im_X1_turnsTaken : Cond.instanceMethod yX1_turnsTaken ∈ bw := bw_of 225 (by decide +kernel) (by decide +kernel)
theorem q_se_X1_turnsTaken : Cond.selects RX1 yX1_turnsTaken yX1_turnsTaken ∈ bw := bw_of 226 (by decide +kernel) (by decide +kernel)
theorem q_c_X1_turnsTaken : Cond.code yX1_turnsTaken cX1_turnsTaken 1 (some .int) ∈ bw := bw_of 227 (by decide +kernel) (by decide +kernel)
abbrev ws_X1_turnsTaken : List Cond := Cond.code yX1_turnsTaken cX1_turnsTaken 1 (some .int) :: bw
theorem q_ml_L_154 : Cond.methodLink RL 154 yX1_silentTurns ∈ bw := bw_of 228 (by decide +kernel) (by decide +kernel)
theorem q_im_X1_silentTurns : Cond.instanceMethod yX1_silentTurns ∈ bw := bw_of 229 (by decide +kernel) (by decide +kernel)
theorem q_se_X1_silentTurns : Cond.selects RX1 yX1_silentTurns yX1_silentTurns ∈ bw := bw_of 230 (by decide +kernel) (by decide +kernel)
theorem q_c_X1_silentTurns : Cond.code yX1_silentTurns cX1_silentTurns 1 (some .int) ∈ bw := bw_of 231 (by decide +kernel) (by decide +kernel)
abbrev ws_X1_silentTurns : List Cond := Cond.code yX1_silentTurns cX1_silentTurns 1 (some .int) :: bw
theorem q_ml_L_151 : Cond.methodLink RL 151 yX1_playerInTurn ∈ bw := bw_of 232 (by decide +kernel) (by decide +kernel)
theorem q_im_X1_playerInTurn : Cond.instanceMethod yX1_playerInTurn ∈ bw := bw_of 233 (by decide +kernel) (by decide +kernel)
theorem q_se_X1_playerInTurn : Cond.selects RX1 yX1_playerInTurn yX1_playerInTurn ∈ bw := bw_of 234 (by decide +kernel) (by decide +kernel)
theorem q_c_X1_playerInTurn : Cond.code yX1_playerInTurn cX1_playerInTurn 1 (some .int) ∈ bw := bw_of 235 (by decide +kernel) (by decide +kernel)
abbrev ws_X1_playerInTurn : List Cond := Cond.code yX1_playerInTurn cX1_playerInTurn 1 (some .int) :: bw
theorem q_ml_L_114 : Cond.methodLink RL 114 yX1_hatOf ∈ bw := bw_of 236 (by decide +kernel) (by decide +kernel)
theorem q_im_X1_hatOf : Cond.instanceMethod yX1_hatOf ∈ bw := bw_of 237 (by decide +kernel) (by decide +kernel)
theorem q_se_X1_hatOf : Cond.selects RX1 yX1_hatOf yX1_hatOf ∈ bw := bw_of 238 (by decide +kernel) (by decide +kernel)
theorem q_c_X1_hatOf : Cond.code yX1_hatOf cX1_hatOf 2 (some .int) ∈ bw := bw_of 239 (by decide +kernel) (by decide +kernel)
abbrev ws_X1_hatOf : List Cond := Cond.code yX1_hatOf cX1_hatOf 2 (some .int) :: bw
theorem q_ml_X1_124 : Cond.methodLink RX1 124 yX1_requirePlayer ∈ bw := bw_of 240 (by decide +kernel) (by decide +kernel)
theorem q_im_X1_requirePlayer : Cond.instanceMethod yX1_requirePlayer ∈ bw := bw_of 242 (by decide +kernel) (by decide +kernel)
theorem q_c_X1_requirePlayer : Cond.code yX1_requirePlayer cX1_requirePlayer 2 none ∈ bw := bw_of 243 (by decide +kernel) (by decide +kernel)
abbrev ws_X1_requirePlayer : List Cond := Cond.code yX1_requirePlayer cX1_requirePlayer 2 none :: bw
theorem q_cl_X1_209 : Cond.classLink RX1 209 "java/lang/IndexOutOfBoundsException" ∈ bw := bw_of 244 (by decide +kernel) (by decide +kernel)
theorem q_is_IndexOutOfBoundsException : Cond.instantiable "java/lang/IndexOutOfBoundsException" 6 ∈ bw := bw_of 245 (by decide +kernel) (by decide +kernel)
theorem q_ml_L_136 : Cond.methodLink RL 136 yX1_sees ∈ bw := bw_of 260 (by decide +kernel) (by decide +kernel)
theorem q_im_X1_sees : Cond.instanceMethod yX1_sees ∈ bw := bw_of 261 (by decide +kernel) (by decide +kernel)
theorem q_se_X1_sees : Cond.selects RX1 yX1_sees yX1_sees ∈ bw := bw_of 262 (by decide +kernel) (by decide +kernel)
theorem q_c_X1_sees : Cond.code yX1_sees cX1_sees 3 (some .boolean) ∈ bw := bw_of 263 (by decide +kernel) (by decide +kernel)
abbrev ws_X1_sees : List Cond := Cond.code yX1_sees cX1_sees 3 (some .boolean) :: bw
theorem q_ml_X1_83 : Cond.methodLink RX1 83 yX1_seesHat ∈ bw := bw_of 264 (by decide +kernel) (by decide +kernel)
theorem q_im_X1_seesHat : Cond.instanceMethod yX1_seesHat ∈ bw := bw_of 266 (by decide +kernel) (by decide +kernel)
theorem q_c_X1_seesHat : Cond.code yX1_seesHat cX1_seesHat 3 (some .boolean) ∈ bw := bw_of 267 (by decide +kernel) (by decide +kernel)
abbrev ws_X1_seesHat : List Cond := Cond.code yX1_seesHat cX1_seesHat 3 (some .boolean) :: bw
theorem q_ml_X1_77 : Cond.methodLink RX1 77 yX1_hatMask ∈ bw := bw_of 268 (by decide +kernel) (by decide +kernel)
theorem q_st_X1_hatMask : Cond.static yX1_hatMask ∈ bw := bw_of 269 (by decide +kernel) (by decide +kernel)
theorem q_c_X1_hatMask : Cond.code yX1_hatMask cX1_hatMask 1 (some .int) ∈ bw := bw_of 270 (by decide +kernel) (by decide +kernel)
abbrev ws_X1_hatMask : List Cond := Cond.code yX1_hatMask cX1_hatMask 1 (some .int) :: bw
theorem q_ml_X1_60 : Cond.methodLink RX1 60 yX1_shiftOf ∈ bw := bw_of 271 (by decide +kernel) (by decide +kernel)
theorem q_st_X1_shiftOf : Cond.static yX1_shiftOf ∈ bw := bw_of 272 (by decide +kernel) (by decide +kernel)
theorem q_c_X1_shiftOf : Cond.code yX1_shiftOf cX1_shiftOf 1 (some .int) ∈ bw := bw_of 273 (by decide +kernel) (by decide +kernel)
abbrev ws_X1_shiftOf : List Cond := Cond.code yX1_shiftOf cX1_shiftOf 1 (some .int) :: bw
theorem q_ml_L_145 : Cond.methodLink RL 145 yX1_hatsOf ∈ bw := bw_of 274 (by decide +kernel) (by decide +kernel)
theorem q_im_X1_hatsOf : Cond.instanceMethod yX1_hatsOf ∈ bw := bw_of 275 (by decide +kernel) (by decide +kernel)
theorem q_se_X1_hatsOf : Cond.selects RX1 yX1_hatsOf yX1_hatsOf ∈ bw := bw_of 276 (by decide +kernel) (by decide +kernel)
theorem q_c_X1_hatsOf : Cond.code yX1_hatsOf cX1_hatsOf 2 (some .int) ∈ bw := bw_of 277 (by decide +kernel) (by decide +kernel)
abbrev ws_X1_hatsOf : List Cond := Cond.code yX1_hatsOf cX1_hatsOf 2 (some .int) :: bw
theorem q_ml_X1_50 : Cond.methodLink RX1 50 yX1_requireColour ∈ bw := bw_of 278 (by decide +kernel) (by decide +kernel)
theorem q_st_X1_requireColour : Cond.static yX1_requireColour ∈ bw := bw_of 279 (by decide +kernel) (by decide +kernel)
theorem q_c_X1_requireColour : Cond.code yX1_requireColour cX1_requireColour 1 none ∈ bw := bw_of 280 (by decide +kernel) (by decide +kernel)
abbrev ws_X1_requireColour : List Cond := Cond.code yX1_requireColour cX1_requireColour 1 none :: bw
theorem q_ml_X1_127 : Cond.methodLink RX1 127 yX1_hatsIn ∈ bw := bw_of 282 (by decide +kernel) (by decide +kernel)
theorem q_im_X1_hatsIn : Cond.instanceMethod yX1_hatsIn ∈ bw := bw_of 284 (by decide +kernel) (by decide +kernel)
theorem q_c_X1_hatsIn : Cond.code yX1_hatsIn cX1_hatsIn 5 (some .int) ∈ bw := bw_of 285 (by decide +kernel) (by decide +kernel)
abbrev ws_X1_hatsIn : List Cond := Cond.code yX1_hatsIn cX1_hatsIn 5 (some .int) :: bw
theorem q_ml_L_111 : Cond.methodLink RL 111 yX1_openWays ∈ bw := bw_of 286 (by decide +kernel) (by decide +kernel)
theorem q_im_X1_openWays : Cond.instanceMethod yX1_openWays ∈ bw := bw_of 287 (by decide +kernel) (by decide +kernel)
theorem q_se_X1_openWays : Cond.selects RX1 yX1_openWays yX1_openWays ∈ bw := bw_of 288 (by decide +kernel) (by decide +kernel)
theorem q_c_X1_openWays : Cond.code yX1_openWays cX1_openWays 1 (some .int) ∈ bw := bw_of 289 (by decide +kernel) (by decide +kernel)
abbrev ws_X1_openWays : List Cond := Cond.code yX1_openWays cX1_openWays 1 (some .int) :: bw
theorem q_ml_L_117 : Cond.methodLink RL 117 yX1_openWaysWith ∈ bw := bw_of 290 (by decide +kernel) (by decide +kernel)
theorem q_im_X1_openWaysWith : Cond.instanceMethod yX1_openWaysWith ∈ bw := bw_of 291 (by decide +kernel) (by decide +kernel)
theorem q_se_X1_openWaysWith : Cond.selects RX1 yX1_openWaysWith yX1_openWaysWith ∈ bw := bw_of 292 (by decide +kernel) (by decide +kernel)
theorem q_c_X1_openWaysWith : Cond.code yX1_openWaysWith cX1_openWaysWith 3 (some .int) ∈ bw := bw_of 293 (by decide +kernel) (by decide +kernel)
abbrev ws_X1_openWaysWith : List Cond := Cond.code yX1_openWaysWith cX1_openWaysWith 3 (some .int) :: bw
theorem q_ml_X1_130 : Cond.methodLink RX1 130 yX1_countWithHat ∈ bw := bw_of 294 (by decide +kernel) (by decide +kernel)
theorem q_im_X1_countWithHat : Cond.instanceMethod yX1_countWithHat ∈ bw := bw_of 296 (by decide +kernel) (by decide +kernel)
theorem q_c_X1_countWithHat : Cond.code yX1_countWithHat cX1_countWithHat 5 (some .int) ∈ bw := bw_of 297 (by decide +kernel) (by decide +kernel)
abbrev ws_X1_countWithHat : List Cond := Cond.code yX1_countWithHat cX1_countWithHat 5 (some .int) :: bw
theorem q_ml_L_127 : Cond.methodLink RL 127 yX1_isKnownToAll ∈ bw := bw_of 298 (by decide +kernel) (by decide +kernel)
theorem q_im_X1_isKnownToAll : Cond.instanceMethod yX1_isKnownToAll ∈ bw := bw_of 299 (by decide +kernel) (by decide +kernel)
theorem q_se_X1_isKnownToAll : Cond.selects RX1 yX1_isKnownToAll yX1_isKnownToAll ∈ bw := bw_of 300 (by decide +kernel) (by decide +kernel)
theorem q_c_X1_isKnownToAll : Cond.code yX1_isKnownToAll cX1_isKnownToAll 2 (some .boolean) ∈ bw := bw_of 301 (by decide +kernel) (by decide +kernel)
abbrev ws_X1_isKnownToAll : List Cond := Cond.code yX1_isKnownToAll cX1_isKnownToAll 2 (some .boolean) :: bw
theorem q_ml_L_120 : Cond.methodLink RL 120 yX1_possibleWays ∈ bw := bw_of 302 (by decide +kernel) (by decide +kernel)
theorem q_im_X1_possibleWays : Cond.instanceMethod yX1_possibleWays ∈ bw := bw_of 303 (by decide +kernel) (by decide +kernel)
theorem q_se_X1_possibleWays : Cond.selects RX1 yX1_possibleWays yX1_possibleWays ∈ bw := bw_of 304 (by decide +kernel) (by decide +kernel)
theorem q_c_X1_possibleWays : Cond.code yX1_possibleWays cX1_possibleWays 2 (some .int) ∈ bw := bw_of 305 (by decide +kernel) (by decide +kernel)
abbrev ws_X1_possibleWays : List Cond := Cond.code yX1_possibleWays cX1_possibleWays 2 (some .int) :: bw
theorem q_ml_X1_133 : Cond.methodLink RX1 133 yX1_countPossible ∈ bw := bw_of 306 (by decide +kernel) (by decide +kernel)
theorem q_im_X1_countPossible : Cond.instanceMethod yX1_countPossible ∈ bw := bw_of 308 (by decide +kernel) (by decide +kernel)
theorem q_c_X1_countPossible : Cond.code yX1_countPossible cX1_countPossible 5 (some .int) ∈ bw := bw_of 309 (by decide +kernel) (by decide +kernel)
abbrev ws_X1_countPossible : List Cond := Cond.code yX1_countPossible cX1_countPossible 5 (some .int) :: bw
theorem q_ml_L_138 : Cond.methodLink RL 138 yX1_holdsPossible ∈ bw := bw_of 310 (by decide +kernel) (by decide +kernel)
theorem q_im_X1_holdsPossible : Cond.instanceMethod yX1_holdsPossible ∈ bw := bw_of 311 (by decide +kernel) (by decide +kernel)
theorem q_se_X1_holdsPossible : Cond.selects RX1 yX1_holdsPossible yX1_holdsPossible ∈ bw := bw_of 312 (by decide +kernel) (by decide +kernel)
theorem q_c_X1_holdsPossible : Cond.code yX1_holdsPossible cX1_holdsPossible 4 (some .boolean) ∈ bw := bw_of 313 (by decide +kernel) (by decide +kernel)
abbrev ws_X1_holdsPossible : List Cond := Cond.code yX1_holdsPossible cX1_holdsPossible 4 (some .boolean) :: bw
theorem q_ml_L_123 : Cond.methodLink RL 123 yX1_isCertain ∈ bw := bw_of 314 (by decide +kernel) (by decide +kernel)
theorem q_im_X1_isCertain : Cond.instanceMethod yX1_isCertain ∈ bw := bw_of 315 (by decide +kernel) (by decide +kernel)
theorem q_se_X1_isCertain : Cond.selects RX1 yX1_isCertain yX1_isCertain ∈ bw := bw_of 316 (by decide +kernel) (by decide +kernel)
theorem q_c_X1_isCertain : Cond.code yX1_isCertain cX1_isCertain 2 (some .boolean) ∈ bw := bw_of 317 (by decide +kernel) (by decide +kernel)
abbrev ws_X1_isCertain : List Cond := Cond.code yX1_isCertain cX1_isCertain 2 (some .boolean) :: bw
theorem q_ml_L_130 : Cond.methodLink RL 130 yX1_knowsHatOf ∈ bw := bw_of 318 (by decide +kernel) (by decide +kernel)
theorem q_im_X1_knowsHatOf : Cond.instanceMethod yX1_knowsHatOf ∈ bw := bw_of 319 (by decide +kernel) (by decide +kernel)
theorem q_se_X1_knowsHatOf : Cond.selects RX1 yX1_knowsHatOf yX1_knowsHatOf ∈ bw := bw_of 320 (by decide +kernel) (by decide +kernel)
theorem q_c_X1_knowsHatOf : Cond.code yX1_knowsHatOf cX1_knowsHatOf 3 (some .boolean) ∈ bw := bw_of 321 (by decide +kernel) (by decide +kernel)
abbrev ws_X1_knowsHatOf : List Cond := Cond.code yX1_knowsHatOf cX1_knowsHatOf 3 (some .boolean) :: bw
theorem q_ml_L_133 : Cond.methodLink RL 133 yX1_knowsCertain ∈ bw := bw_of 322 (by decide +kernel) (by decide +kernel)
theorem q_im_X1_knowsCertain : Cond.instanceMethod yX1_knowsCertain ∈ bw := bw_of 323 (by decide +kernel) (by decide +kernel)
theorem q_se_X1_knowsCertain : Cond.selects RX1 yX1_knowsCertain yX1_knowsCertain ∈ bw := bw_of 324 (by decide +kernel) (by decide +kernel)
theorem q_c_X1_knowsCertain : Cond.code yX1_knowsCertain cX1_knowsCertain 6 (some .boolean) ∈ bw := bw_of 325 (by decide +kernel) (by decide +kernel)
abbrev ws_X1_knowsCertain : List Cond := Cond.code yX1_knowsCertain cX1_knowsCertain 6 (some .boolean) :: bw
theorem q_ml_L_148 : Cond.methodLink RL 148 yX1_certainPlayers ∈ bw := bw_of 326 (by decide +kernel) (by decide +kernel)
theorem q_im_X1_certainPlayers : Cond.instanceMethod yX1_certainPlayers ∈ bw := bw_of 327 (by decide +kernel) (by decide +kernel)
theorem q_se_X1_certainPlayers : Cond.selects RX1 yX1_certainPlayers yX1_certainPlayers ∈ bw := bw_of 328 (by decide +kernel) (by decide +kernel)
theorem q_c_X1_certainPlayers : Cond.code yX1_certainPlayers cX1_certainPlayers 1 (some .int) ∈ bw := bw_of 329 (by decide +kernel) (by decide +kernel)
abbrev ws_X1_certainPlayers : List Cond := Cond.code yX1_certainPlayers cX1_certainPlayers 1 (some .int) :: bw
theorem q_ml_X1_157 : Cond.methodLink RX1 157 yX1_countCertain ∈ bw := bw_of 330 (by decide +kernel) (by decide +kernel)
theorem q_im_X1_countCertain : Cond.instanceMethod yX1_countCertain ∈ bw := bw_of 332 (by decide +kernel) (by decide +kernel)
theorem q_c_X1_countCertain : Cond.code yX1_countCertain cX1_countCertain 4 (some .int) ∈ bw := bw_of 333 (by decide +kernel) (by decide +kernel)
abbrev ws_X1_countCertain : List Cond := Cond.code yX1_countCertain cX1_countCertain 4 (some .int) :: bw
theorem q_ml_L_142 : Cond.methodLink RL 142 yX1_certainIfTold ∈ bw := bw_of 334 (by decide +kernel) (by decide +kernel)
theorem q_im_X1_certainIfTold : Cond.instanceMethod yX1_certainIfTold ∈ bw := bw_of 335 (by decide +kernel) (by decide +kernel)
theorem q_se_X1_certainIfTold : Cond.selects RX1 yX1_certainIfTold yX1_certainIfTold ∈ bw := bw_of 336 (by decide +kernel) (by decide +kernel)
theorem q_c_X1_certainIfTold : Cond.code yX1_certainIfTold cX1_certainIfTold 2 (some .int) ∈ bw := bw_of 337 (by decide +kernel) (by decide +kernel)
abbrev ws_X1_certainIfTold : List Cond := Cond.code yX1_certainIfTold cX1_certainIfTold 2 (some .int) :: bw
theorem q_ml_X1_161 : Cond.methodLink RX1 161 yX0_copyFrom ∈ bw := bw_of 338 (by decide +kernel) (by decide +kernel)
theorem q_im_X0_copyFrom : Cond.instanceMethod yX0_copyFrom ∈ bw := bw_of 339 (by decide +kernel) (by decide +kernel)
theorem q_se_X0_copyFrom : Cond.selects RX0 yX0_copyFrom yX0_copyFrom ∈ bw := bw_of 340 (by decide +kernel) (by decide +kernel)
theorem q_c_X0_copyFrom : Cond.code yX0_copyFrom cX0_copyFrom 3 none ∈ bw := bw_of 341 (by decide +kernel) (by decide +kernel)
abbrev ws_X0_copyFrom : List Cond := Cond.code yX0_copyFrom cX0_copyFrom 3 none :: bw
theorem q_ml_X0_19 : Cond.methodLink RX0 19 yX0_clear ∈ bw := bw_of 342 (by decide +kernel) (by decide +kernel)
theorem q_ml_X0_22 : Cond.methodLink RX0 22 yX0_count ∈ bw := bw_of 343 (by decide +kernel) (by decide +kernel)
theorem q_ml_X0_25 : Cond.methodLink RX0 25 yX0_at ∈ bw := bw_of 344 (by decide +kernel) (by decide +kernel)
theorem q_ml_X0_29 : Cond.methodLink RX0 29 yX0_add ∈ bw := bw_of 345 (by decide +kernel) (by decide +kernel)
theorem q_ml_L_92 : Cond.methodLink RL 92 yX2_turn ∈ bw := bw_of 346 (by decide +kernel) (by decide +kernel)
theorem q_im_X2_turn : Cond.instanceMethod yX2_turn ∈ bw := bw_of 347 (by decide +kernel) (by decide +kernel)
theorem q_se_X2_turn : Cond.selects RX2 yX2_turn yX2_turn ∈ bw := bw_of 348 (by decide +kernel) (by decide +kernel)
theorem q_c_X2_turn : Cond.code yX2_turn cX2_turn 5 (some .int) ∈ bw := bw_of 349 (by decide +kernel) (by decide +kernel)
abbrev ws_X2_turn : List Cond := Cond.code yX2_turn cX2_turn 5 (some .int) :: bw
theorem q_ml_X2_43 : Cond.methodLink RX2 43 yX2_isSure ∈ bw := bw_of 350 (by decide +kernel) (by decide +kernel)
theorem q_im_X2_isSure : Cond.instanceMethod yX2_isSure ∈ bw := bw_of 351 (by decide +kernel) (by decide +kernel)
theorem q_se_X2_isSure : Cond.selects RX2 yX2_isSure yX2_isSure ∈ bw := bw_of 352 (by decide +kernel) (by decide +kernel)
theorem q_c_X2_isSure : Cond.code yX2_isSure cX2_isSure 6 (some .boolean) ∈ bw := bw_of 353 (by decide +kernel) (by decide +kernel)
abbrev ws_X2_isSure : List Cond := Cond.code yX2_isSure cX2_isSure 6 (some .boolean) :: bw
theorem q_ml_X2_36 : Cond.methodLink RX2 36 yX2_agree ∈ bw := bw_of 354 (by decide +kernel) (by decide +kernel)
theorem q_im_X2_agree : Cond.instanceMethod yX2_agree ∈ bw := bw_of 355 (by decide +kernel) (by decide +kernel)
theorem q_se_X2_agree : Cond.selects RX2 yX2_agree yX2_agree ∈ bw := bw_of 356 (by decide +kernel) (by decide +kernel)
theorem q_c_X2_agree : Cond.code yX2_agree cX2_agree 5 (some .boolean) ∈ bw := bw_of 357 (by decide +kernel) (by decide +kernel)
abbrev ws_X2_agree : List Cond := Cond.code yX2_agree cX2_agree 5 (some .boolean) :: bw
theorem q_ac_boolean : Cond.arrayClass .boolean ∈ bw := bw_of 358 (by decide +kernel) (by decide +kernel)
theorem q_ml_L_160 : Cond.methodLink RL 160 yX2_isSame ∈ bw := bw_of 359 (by decide +kernel) (by decide +kernel)
theorem q_im_X2_isSame : Cond.instanceMethod yX2_isSame ∈ bw := bw_of 360 (by decide +kernel) (by decide +kernel)
theorem q_se_X2_isSame : Cond.selects RX2 yX2_isSame yX2_isSame ∈ bw := bw_of 361 (by decide +kernel) (by decide +kernel)
theorem q_c_X2_isSame : Cond.code yX2_isSame cX2_isSame 9 (some .boolean) ∈ bw := bw_of 362 (by decide +kernel) (by decide +kernel)
abbrev ws_X2_isSame : List Cond := Cond.code yX2_isSame cX2_isSame 9 (some .boolean) :: bw
theorem q_ml_X2_68 : Cond.methodLink RX2 68 yX1_players ∈ bw := bw_of 363 (by decide +kernel) (by decide +kernel)
theorem q_ml_X2_73 : Cond.methodLink RX2 73 yX1_turnsTaken ∈ bw := bw_of 364 (by decide +kernel) (by decide +kernel)
theorem q_ml_X2_76 : Cond.methodLink RX2 76 yX1_silentTurns ∈ bw := bw_of 365 (by decide +kernel) (by decide +kernel)
theorem q_ml_X2_79 : Cond.methodLink RX2 79 yX1_playerInTurn ∈ bw := bw_of 366 (by decide +kernel) (by decide +kernel)
theorem q_ml_X2_82 : Cond.methodLink RX2 82 yX1_openWays ∈ bw := bw_of 367 (by decide +kernel) (by decide +kernel)
theorem q_ml_X2_58 : Cond.methodLink RX2 58 yX2_many ∈ bw := bw_of 368 (by decide +kernel) (by decide +kernel)
theorem q_im_X2_many : Cond.instanceMethod yX2_many ∈ bw := bw_of 369 (by decide +kernel) (by decide +kernel)
theorem q_se_X2_many : Cond.selects RX2 yX2_many yX2_many ∈ bw := bw_of 370 (by decide +kernel) (by decide +kernel)
theorem q_c_X2_many : Cond.code yX2_many cX2_many 6 (some .int) ∈ bw := bw_of 371 (by decide +kernel) (by decide +kernel)
abbrev ws_X2_many : List Cond := Cond.code yX2_many cX2_many 6 (some .int) :: bw
theorem q_ml_X2_85 : Cond.methodLink RX2 85 yX1_certainPlayers ∈ bw := bw_of 372 (by decide +kernel) (by decide +kernel)
theorem q_ml_X2_88 : Cond.methodLink RX2 88 yX2_certain ∈ bw := bw_of 373 (by decide +kernel) (by decide +kernel)
theorem q_im_X2_certain : Cond.instanceMethod yX2_certain ∈ bw := bw_of 374 (by decide +kernel) (by decide +kernel)
theorem q_se_X2_certain : Cond.selects RX2 yX2_certain yX2_certain ∈ bw := bw_of 375 (by decide +kernel) (by decide +kernel)
theorem q_c_X2_certain : Cond.code yX2_certain cX2_certain 3 (some .int) ∈ bw := bw_of 376 (by decide +kernel) (by decide +kernel)
abbrev ws_X2_certain : List Cond := Cond.code yX2_certain cX2_certain 3 (some .int) :: bw
theorem q_ml_X2_91 : Cond.methodLink RX2 91 yX1_hatOf ∈ bw := bw_of 377 (by decide +kernel) (by decide +kernel)
theorem q_ml_X2_95 : Cond.methodLink RX2 95 yX1_possibleWays ∈ bw := bw_of 378 (by decide +kernel) (by decide +kernel)
theorem q_ml_X2_98 : Cond.methodLink RX2 98 yX1_isCertain ∈ bw := bw_of 379 (by decide +kernel) (by decide +kernel)
theorem q_ml_X2_102 : Cond.methodLink RX2 102 yX1_isKnownToAll ∈ bw := bw_of 380 (by decide +kernel) (by decide +kernel)
theorem q_ml_X2_105 : Cond.methodLink RX2 105 yX1_openWaysWith ∈ bw := bw_of 381 (by decide +kernel) (by decide +kernel)
theorem q_ml_X2_109 : Cond.methodLink RX2 109 yX1_sees ∈ bw := bw_of 382 (by decide +kernel) (by decide +kernel)
theorem q_ml_X2_112 : Cond.methodLink RX2 112 yX1_knowsHatOf ∈ bw := bw_of 383 (by decide +kernel) (by decide +kernel)
theorem q_ml_X2_115 : Cond.methodLink RX2 115 yX1_holdsPossible ∈ bw := bw_of 384 (by decide +kernel) (by decide +kernel)
theorem q_ml_X2_119 : Cond.methodLink RX2 119 yX1_hatsOf ∈ bw := bw_of 385 (by decide +kernel) (by decide +kernel)
theorem q_ml_X2_54 : Cond.methodLink RX2 54 yX2_have ∈ bw := bw_of 386 (by decide +kernel) (by decide +kernel)
theorem q_im_X2_have : Cond.instanceMethod yX2_have ∈ bw := bw_of 387 (by decide +kernel) (by decide +kernel)
theorem q_se_X2_have : Cond.selects RX2 yX2_have yX2_have ∈ bw := bw_of 388 (by decide +kernel) (by decide +kernel)
theorem q_c_X2_have : Cond.code yX2_have cX2_have 8 (some .int) ∈ bw := bw_of 389 (by decide +kernel) (by decide +kernel)
abbrev ws_X2_have : List Cond := Cond.code yX2_have cX2_have 8 (some .int) :: bw
theorem q_ml_X2_122 : Cond.methodLink RX2 122 yX1_meanPossible ∈ bw := bw_of 390 (by decide +kernel) (by decide +kernel)
theorem q_im_X1_meanPossible : Cond.instanceMethod yX1_meanPossible ∈ bw := bw_of 391 (by decide +kernel) (by decide +kernel)
theorem q_se_X1_meanPossible : Cond.selects RX1 yX1_meanPossible yX1_meanPossible ∈ bw := bw_of 392 (by decide +kernel) (by decide +kernel)
theorem q_c_X1_meanPossible : Cond.code yX1_meanPossible cX1_meanPossible 3 (some .double) ∈ bw := bw_of 393 (by decide +kernel) (by decide +kernel)
abbrev ws_X1_meanPossible : List Cond := Cond.code yX1_meanPossible cX1_meanPossible 3 (some .double) :: bw
theorem q_ml_L_96 : Cond.methodLink RL 96 yL_cell ∈ bw := bw_of 394 (by decide +kernel) (by decide +kernel)
theorem q_st_L_cell : Cond.static yL_cell ∈ bw := bw_of 395 (by decide +kernel) (by decide +kernel)
theorem q_c_L_cell : Cond.code yL_cell cL_cell 2 (some .int) ∈ bw := bw_of 396 (by decide +kernel) (by decide +kernel)
abbrev ws_L_cell : List Cond := Cond.code yL_cell cL_cell 2 (some .int) :: bw
theorem q_k_L_8 : Cond.constant RL 8 (790386105) ∈ bw := bw_of 397 (by decide +kernel) (by decide +kernel)
theorem q_ml_L_99 : Cond.methodLink RL 99 yL_act ∈ bw := bw_of 398 (by decide +kernel) (by decide +kernel)
theorem q_st_L_act : Cond.static yL_act ∈ bw := bw_of 399 (by decide +kernel) (by decide +kernel)
theorem q_c_L_act : Cond.code yL_act cL_act 12 (some .boolean) ∈ bw := bw_of 400 (by decide +kernel) (by decide +kernel)
abbrev ws_L_act : List Cond := Cond.code yL_act cL_act 12 (some .boolean) :: bw
theorem q_ml_L_15 : Cond.methodLink RL 15 yL_below ∈ bw := bw_of 401 (by decide +kernel) (by decide +kernel)
theorem q_st_L_below : Cond.static yL_below ∈ bw := bw_of 402 (by decide +kernel) (by decide +kernel)
theorem q_c_L_below : Cond.code yL_below cL_below 2 (some .int) ∈ bw := bw_of 403 (by decide +kernel) (by decide +kernel)
abbrev ws_L_below : List Cond := Cond.code yL_below cL_below 2 (some .int) :: bw
theorem q_k_L_7 : Cond.constant RL 7 (2147483647) ∈ bw := bw_of 404 (by decide +kernel) (by decide +kernel)
theorem q_ml_L_25 : Cond.methodLink RL 25 yX2_add ∈ bw := bw_of 405 (by decide +kernel) (by decide +kernel)
theorem q_im_X2_add : Cond.instanceMethod yX2_add ∈ bw := bw_of 406 (by decide +kernel) (by decide +kernel)
theorem q_se_X2_add : Cond.selects RX2 yX2_add yX2_add ∈ bw := bw_of 407 (by decide +kernel) (by decide +kernel)
theorem q_c_X2_add : Cond.code yX2_add cX2_add 6 none ∈ bw := bw_of 408 (by decide +kernel) (by decide +kernel)
abbrev ws_X2_add : List Cond := Cond.code yX2_add cX2_add 6 none :: bw
theorem q_cl_X2_31 : Cond.classLink RX2 31 "[[Z" ∈ bw := bw_of 409 (by decide +kernel) (by decide +kernel)
theorem q_ml_X2_32 : Cond.methodLink RX2 32 yX2_all ∈ bw := bw_of 411 (by decide +kernel) (by decide +kernel)
theorem q_im_X2_all : Cond.instanceMethod yX2_all ∈ bw := bw_of 412 (by decide +kernel) (by decide +kernel)
theorem q_se_X2_all : Cond.selects RX2 yX2_all yX2_all ∈ bw := bw_of 413 (by decide +kernel) (by decide +kernel)
theorem q_c_X2_all : Cond.code yX2_all cX2_all 5 none ∈ bw := bw_of 414 (by decide +kernel) (by decide +kernel)
abbrev ws_X2_all : List Cond := Cond.code yX2_all cX2_all 5 none :: bw
theorem q_cl_X2_35 : Cond.classLink RX2 35 "[[I" ∈ bw := bw_of 415 (by decide +kernel) (by decide +kernel)
theorem q_ml_L_29 : Cond.methodLink RL 29 yX1_addPlayer ∈ bw := bw_of 417 (by decide +kernel) (by decide +kernel)
theorem q_im_X1_addPlayer : Cond.instanceMethod yX1_addPlayer ∈ bw := bw_of 418 (by decide +kernel) (by decide +kernel)
theorem q_se_X1_addPlayer : Cond.selects RX1 yX1_addPlayer yX1_addPlayer ∈ bw := bw_of 419 (by decide +kernel) (by decide +kernel)
theorem q_c_X1_addPlayer : Cond.code yX1_addPlayer cX1_addPlayer 3 (some .int) ∈ bw := bw_of 420 (by decide +kernel) (by decide +kernel)
abbrev ws_X1_addPlayer : List Cond := Cond.code yX1_addPlayer cX1_addPlayer 3 (some .int) :: bw
theorem q_ml_X1_64 : Cond.methodLink RX1 64 yX1_lookAtEachOther ∈ bw := bw_of 422 (by decide +kernel) (by decide +kernel)
theorem q_im_X1_lookAtEachOther : Cond.instanceMethod yX1_lookAtEachOther ∈ bw := bw_of 424 (by decide +kernel) (by decide +kernel)
theorem q_c_X1_lookAtEachOther : Cond.code yX1_lookAtEachOther cX1_lookAtEachOther 4 none ∈ bw := bw_of 425 (by decide +kernel) (by decide +kernel)
abbrev ws_X1_lookAtEachOther : List Cond := Cond.code yX1_lookAtEachOther cX1_lookAtEachOther 4 none :: bw
theorem q_ml_X1_80 : Cond.methodLink RX1 80 yX1_setSeenHatsOf ∈ bw := bw_of 426 (by decide +kernel) (by decide +kernel)
theorem q_im_X1_setSeenHatsOf : Cond.instanceMethod yX1_setSeenHatsOf ∈ bw := bw_of 428 (by decide +kernel) (by decide +kernel)
theorem q_c_X1_setSeenHatsOf : Cond.code yX1_setSeenHatsOf cX1_setSeenHatsOf 3 none ∈ bw := bw_of 429 (by decide +kernel) (by decide +kernel)
abbrev ws_X1_setSeenHatsOf : List Cond := Cond.code yX1_setSeenHatsOf cX1_setSeenHatsOf 3 none :: bw
theorem q_ml_X1_67 : Cond.methodLink RX1 67 yX1_openColoursOf ∈ bw := bw_of 430 (by decide +kernel) (by decide +kernel)
theorem q_im_X1_openColoursOf : Cond.instanceMethod yX1_openColoursOf ∈ bw := bw_of 432 (by decide +kernel) (by decide +kernel)
theorem q_c_X1_openColoursOf : Cond.code yX1_openColoursOf cX1_openColoursOf 5 none ∈ bw := bw_of 433 (by decide +kernel) (by decide +kernel)
abbrev ws_X1_openColoursOf : List Cond := Cond.code yX1_openColoursOf cX1_openColoursOf 5 none :: bw
theorem q_ml_L_35 : Cond.methodLink RL 35 yJ9_max_7cf53 ∈ bw := bw_of 434 (by decide +kernel) (by decide +kernel)
theorem q_st_J9_max_7cf53 : Cond.static yJ9_max_7cf53 ∈ bw := bw_of 435 (by decide +kernel) (by decide +kernel)
theorem q_c_J9_max_7cf53 : Cond.code yJ9_max_7cf53 cJ9_max_7cf53 2 (some .int) ∈ bw := bw_of 436 (by decide +kernel) (by decide +kernel)
abbrev ws_J9_max_7cf53 : List Cond := Cond.code yJ9_max_7cf53 cJ9_max_7cf53 2 (some .int) :: bw
theorem q_ml_L_44 : Cond.methodLink RL 44 yX1_turnAway ∈ bw := bw_of 437 (by decide +kernel) (by decide +kernel)
theorem q_im_X1_turnAway : Cond.instanceMethod yX1_turnAway ∈ bw := bw_of 438 (by decide +kernel) (by decide +kernel)
theorem q_se_X1_turnAway : Cond.selects RX1 yX1_turnAway yX1_turnAway ∈ bw := bw_of 439 (by decide +kernel) (by decide +kernel)
theorem q_c_X1_turnAway : Cond.code yX1_turnAway cX1_turnAway 3 (some .boolean) ∈ bw := bw_of 440 (by decide +kernel) (by decide +kernel)
abbrev ws_X1_turnAway : List Cond := Cond.code yX1_turnAway cX1_turnAway 3 (some .boolean) :: bw
theorem q_ml_X1_70 : Cond.methodLink RX1 70 yX1_requireTwoPlayers ∈ bw := bw_of 441 (by decide +kernel) (by decide +kernel)
theorem q_im_X1_requireTwoPlayers : Cond.instanceMethod yX1_requireTwoPlayers ∈ bw := bw_of 443 (by decide +kernel) (by decide +kernel)
theorem q_c_X1_requireTwoPlayers : Cond.code yX1_requireTwoPlayers cX1_requireTwoPlayers 3 none ∈ bw := bw_of 444 (by decide +kernel) (by decide +kernel)
abbrev ws_X1_requireTwoPlayers : List Cond := Cond.code yX1_requireTwoPlayers cX1_requireTwoPlayers 3 none :: bw
theorem q_cl_X1_214 : Cond.classLink RX1 214 "java/lang/IllegalArgumentException" ∈ bw := bw_of 445 (by decide +kernel) (by decide +kernel)
theorem q_is_IllegalArgumentException : Cond.instantiable "java/lang/IllegalArgumentException" 6 ∈ bw := bw_of 446 (by decide +kernel) (by decide +kernel)
theorem q_ml_L_48 : Cond.methodLink RL 48 yX2_borrow ∈ bw := bw_of 461 (by decide +kernel) (by decide +kernel)
theorem q_im_X2_borrow : Cond.instanceMethod yX2_borrow ∈ bw := bw_of 462 (by decide +kernel) (by decide +kernel)
theorem q_se_X2_borrow : Cond.selects RX2 yX2_borrow yX2_borrow ∈ bw := bw_of 463 (by decide +kernel) (by decide +kernel)
theorem q_c_X2_borrow : Cond.code yX2_borrow cX2_borrow 8 none ∈ bw := bw_of 464 (by decide +kernel) (by decide +kernel)
abbrev ws_X2_borrow : List Cond := Cond.code yX2_borrow cX2_borrow 8 none :: bw
theorem q_ml_L_52 : Cond.methodLink RL 52 yX1_borrow ∈ bw := bw_of 465 (by decide +kernel) (by decide +kernel)
theorem q_im_X1_borrow : Cond.instanceMethod yX1_borrow ∈ bw := bw_of 466 (by decide +kernel) (by decide +kernel)
theorem q_se_X1_borrow : Cond.selects RX1 yX1_borrow yX1_borrow ∈ bw := bw_of 467 (by decide +kernel) (by decide +kernel)
theorem q_c_X1_borrow : Cond.code yX1_borrow cX1_borrow 4 (some .int) ∈ bw := bw_of 468 (by decide +kernel) (by decide +kernel)
abbrev ws_X1_borrow : List Cond := Cond.code yX1_borrow cX1_borrow 4 (some .int) :: bw
theorem q_ml_X1_87 : Cond.methodLink RX1 87 yX1_exchanged ∈ bw := bw_of 469 (by decide +kernel) (by decide +kernel)
theorem q_st_X1_exchanged : Cond.static yX1_exchanged ∈ bw := bw_of 470 (by decide +kernel) (by decide +kernel)
theorem q_c_X1_exchanged : Cond.code yX1_exchanged cX1_exchanged 4 (some .int) ∈ bw := bw_of 471 (by decide +kernel) (by decide +kernel)
abbrev ws_X1_exchanged : List Cond := Cond.code yX1_exchanged cX1_exchanged 4 (some .int) :: bw
theorem q_ml_X1_98 : Cond.methodLink RX1 98 yX0_put ∈ bw := bw_of 472 (by decide +kernel) (by decide +kernel)
theorem q_im_X0_put : Cond.instanceMethod yX0_put ∈ bw := bw_of 473 (by decide +kernel) (by decide +kernel)
theorem q_se_X0_put : Cond.selects RX0 yX0_put yX0_put ∈ bw := bw_of 474 (by decide +kernel) (by decide +kernel)
theorem q_c_X0_put : Cond.code yX0_put cX0_put 3 none ∈ bw := bw_of 475 (by decide +kernel) (by decide +kernel)
abbrev ws_X0_put : List Cond := Cond.code yX0_put cX0_put 3 none :: bw
theorem q_ml_L_58 : Cond.methodLink RL 58 yX2_have ∈ bw := bw_of 476 (by decide +kernel) (by decide +kernel)
theorem q_ml_L_62 : Cond.methodLink RL 62 yX1_sayAtLeast ∈ bw := bw_of 477 (by decide +kernel) (by decide +kernel)
theorem q_im_X1_sayAtLeast : Cond.instanceMethod yX1_sayAtLeast ∈ bw := bw_of 478 (by decide +kernel) (by decide +kernel)
theorem q_se_X1_sayAtLeast : Cond.selects RX1 yX1_sayAtLeast yX1_sayAtLeast ∈ bw := bw_of 479 (by decide +kernel) (by decide +kernel)
theorem q_c_X1_sayAtLeast : Cond.code yX1_sayAtLeast cX1_sayAtLeast 3 (some .int) ∈ bw := bw_of 480 (by decide +kernel) (by decide +kernel)
abbrev ws_X1_sayAtLeast : List Cond := Cond.code yX1_sayAtLeast cX1_sayAtLeast 3 (some .int) :: bw
theorem q_ml_X1_115 : Cond.methodLink RX1 115 yX1_requireMany ∈ bw := bw_of 481 (by decide +kernel) (by decide +kernel)
theorem q_st_X1_requireMany : Cond.static yX1_requireMany ∈ bw := bw_of 482 (by decide +kernel) (by decide +kernel)
theorem q_c_X1_requireMany : Cond.code yX1_requireMany cX1_requireMany 1 none ∈ bw := bw_of 483 (by decide +kernel) (by decide +kernel)
abbrev ws_X1_requireMany : List Cond := Cond.code yX1_requireMany cX1_requireMany 1 none :: bw
theorem q_ml_X1_118 : Cond.methodLink RX1 118 yX1_sayBetween ∈ bw := bw_of 485 (by decide +kernel) (by decide +kernel)
theorem q_im_X1_sayBetween : Cond.instanceMethod yX1_sayBetween ∈ bw := bw_of 487 (by decide +kernel) (by decide +kernel)
theorem q_c_X1_sayBetween : Cond.code yX1_sayBetween cX1_sayBetween 5 (some .int) ∈ bw := bw_of 488 (by decide +kernel) (by decide +kernel)
abbrev ws_X1_sayBetween : List Cond := Cond.code yX1_sayBetween cX1_sayBetween 5 (some .int) :: bw
theorem q_ml_X1_227 : Cond.methodLink RX1 227 yX1_keepWithHats ∈ bw := bw_of 490 (by decide +kernel) (by decide +kernel)
theorem q_im_X1_keepWithHats : Cond.instanceMethod yX1_keepWithHats ∈ bw := bw_of 492 (by decide +kernel) (by decide +kernel)
theorem q_c_X1_keepWithHats : Cond.code yX1_keepWithHats cX1_keepWithHats 9 none ∈ bw := bw_of 493 (by decide +kernel) (by decide +kernel)
abbrev ws_X1_keepWithHats : List Cond := Cond.code yX1_keepWithHats cX1_keepWithHats 9 none :: bw
theorem q_ml_L_65 : Cond.methodLink RL 65 yX2_say ∈ bw := bw_of 494 (by decide +kernel) (by decide +kernel)
theorem q_im_X2_say : Cond.instanceMethod yX2_say ∈ bw := bw_of 495 (by decide +kernel) (by decide +kernel)
theorem q_se_X2_say : Cond.selects RX2 yX2_say yX2_say ∈ bw := bw_of 496 (by decide +kernel) (by decide +kernel)
theorem q_c_X2_say : Cond.code yX2_say cX2_say 6 (some .int) ∈ bw := bw_of 497 (by decide +kernel) (by decide +kernel)
abbrev ws_X2_say : List Cond := Cond.code yX2_say cX2_say 6 (some .int) :: bw
theorem q_ml_L_69 : Cond.methodLink RL 69 yX1_sayAtMost ∈ bw := bw_of 498 (by decide +kernel) (by decide +kernel)
theorem q_im_X1_sayAtMost : Cond.instanceMethod yX1_sayAtMost ∈ bw := bw_of 499 (by decide +kernel) (by decide +kernel)
theorem q_se_X1_sayAtMost : Cond.selects RX1 yX1_sayAtMost yX1_sayAtMost ∈ bw := bw_of 500 (by decide +kernel) (by decide +kernel)
theorem q_c_X1_sayAtMost : Cond.code yX1_sayAtMost cX1_sayAtMost 3 (some .int) ∈ bw := bw_of 501 (by decide +kernel) (by decide +kernel)
abbrev ws_X1_sayAtMost : List Cond := Cond.code yX1_sayAtMost cX1_sayAtMost 3 (some .int) :: bw
theorem q_ml_L_72 : Cond.methodLink RL 72 yX2_all ∈ bw := bw_of 502 (by decide +kernel) (by decide +kernel)
theorem q_ml_L_81 : Cond.methodLink RL 81 yX1_begin ∈ bw := bw_of 503 (by decide +kernel) (by decide +kernel)
theorem q_im_X1_begin : Cond.instanceMethod yX1_begin ∈ bw := bw_of 504 (by decide +kernel) (by decide +kernel)
theorem q_se_X1_begin : Cond.selects RX1 yX1_begin yX1_begin ∈ bw := bw_of 505 (by decide +kernel) (by decide +kernel)
theorem q_c_X1_begin : Cond.code yX1_begin cX1_begin 2 (some .int) ∈ bw := bw_of 506 (by decide +kernel) (by decide +kernel)
abbrev ws_X1_begin : List Cond := Cond.code yX1_begin cX1_begin 2 (some .int) :: bw
theorem q_ml_L_104 : Cond.methodLink RL 104 yL_build ∈ bw := bw_of 507 (by decide +kernel) (by decide +kernel)
theorem q_st_L_build : Cond.static yL_build ∈ bw := bw_of 508 (by decide +kernel) (by decide +kernel)
theorem q_cl_L_10 : Cond.classLink RL 10 RX2 ∈ bw := bw_of 510 (by decide +kernel) (by decide +kernel)
theorem q_is_X2 : Cond.instantiable RX2 8 ∈ bw := bw_of 511 (by decide +kernel) (by decide +kernel)
theorem q_im_X2_init : Cond.instanceMethod yX2_init ∈ bw := bw_of 513 (by decide +kernel) (by decide +kernel)
theorem q_c_X2_init : Cond.code yX2_init cX2_init 1 none ∈ bw := bw_of 514 (by decide +kernel) (by decide +kernel)
abbrev ws_X2_init : List Cond := Cond.code yX2_init cX2_init 1 none :: bw
theorem q_cl_X2_13 : Cond.classLink RX2 13 "[Z" ∈ bw := bw_of 516 (by decide +kernel) (by decide +kernel)
theorem q_cl_X2_19 : Cond.classLink RX2 19 "[I" ∈ bw := bw_of 517 (by decide +kernel) (by decide +kernel)
theorem q_fl_X2_27 : Cond.fieldLink RX2 27 "BorrowedHatsLaw$Sim" "n" "I" ∈ bw := bw_of 518 (by decide +kernel) (by decide +kernel)
theorem q_fl_L_9 : Cond.fieldLink RL 9 "BorrowedHatsLaw$Sim" "n" "I" ∈ bw := bw_of 519 (by decide +kernel) (by decide +kernel)
theorem q_fl_L_75 : Cond.fieldLink RL 75 "BorrowedHatsLaw$Sim" "turns" "I" ∈ bw := bw_of 520 (by decide +kernel) (by decide +kernel)
theorem q_fl_X2_40 : Cond.fieldLink RX2 40 "BorrowedHatsLaw$Sim" "turns" "I" ∈ bw := bw_of 521 (by decide +kernel) (by decide +kernel)
theorem q_fl_L_78 : Cond.fieldLink RL 78 "BorrowedHatsLaw$Sim" "silent" "I" ∈ bw := bw_of 522 (by decide +kernel) (by decide +kernel)
theorem q_fl_X2_47 : Cond.fieldLink RX2 47 "BorrowedHatsLaw$Sim" "silent" "I" ∈ bw := bw_of 523 (by decide +kernel) (by decide +kernel)
theorem q_fl_L_21 : Cond.fieldLink RL 21 "BorrowedHatsLaw$Sim" "hasBegun" "Z" ∈ bw := bw_of 524 (by decide +kernel) (by decide +kernel)
theorem q_fl_X2_50 : Cond.fieldLink RX2 50 "BorrowedHatsLaw$Sim" "hasBegun" "Z" ∈ bw := bw_of 525 (by decide +kernel) (by decide +kernel)
theorem q_fl_X2_7 : Cond.fieldLink RX2 7 "BorrowedHatsLaw$Sim" "hat" "[I" ∈ bw := bw_of 526 (by decide +kernel) (by decide +kernel)
theorem q_fl_L_54 : Cond.fieldLink RL 54 "BorrowedHatsLaw$Sim" "hat" "[I" ∈ bw := bw_of 527 (by decide +kernel) (by decide +kernel)
theorem q_fl_X2_15 : Cond.fieldLink RX2 15 "BorrowedHatsLaw$Sim" "sees" "[[Z" ∈ bw := bw_of 528 (by decide +kernel) (by decide +kernel)
theorem q_fl_L_40 : Cond.fieldLink RL 40 "BorrowedHatsLaw$Sim" "sees" "[[Z" ∈ bw := bw_of 529 (by decide +kernel) (by decide +kernel)
theorem q_fl_X2_20 : Cond.fieldLink RX2 20 "BorrowedHatsLaw$Sim" "ways" "[[I" ∈ bw := bw_of 530 (by decide +kernel) (by decide +kernel)
theorem q_fl_L_85 : Cond.fieldLink RL 85 "BorrowedHatsLaw$Sim" "ways" "[[I" ∈ bw := bw_of 531 (by decide +kernel) (by decide +kernel)
theorem q_fl_X2_24 : Cond.fieldLink RX2 24 "BorrowedHatsLaw$Sim" "open" "[Z" ∈ bw := bw_of 532 (by decide +kernel) (by decide +kernel)
theorem q_se_X1_requireSomePlayer : Cond.selects RX1 yX1_requireSomePlayer yX1_requireSomePlayer ∈ bw := bw_sel 0 (by decide +kernel) (by decide +kernel)
theorem q_se_X1_passTurn : Cond.selects RX1 yX1_passTurn yX1_passTurn ∈ bw := bw_sel 2 (by decide +kernel) (by decide +kernel)
theorem q_se_X1_isCertainBy : Cond.selects RX1 yX1_isCertainBy yX1_isCertainBy ∈ bw := bw_sel 3 (by decide +kernel) (by decide +kernel)
theorem q_se_X1_possibleColours : Cond.selects RX1 yX1_possibleColours yX1_possibleColours ∈ bw := bw_sel 4 (by decide +kernel) (by decide +kernel)
theorem q_se_X1_seenHatsOf : Cond.selects RX1 yX1_seenHatsOf yX1_seenHatsOf ∈ bw := bw_sel 5 (by decide +kernel) (by decide +kernel)
theorem q_se_X1_agreesWithNow : Cond.selects RX1 yX1_agreesWithNow yX1_agreesWithNow ∈ bw := bw_sel 6 (by decide +kernel) (by decide +kernel)
theorem q_se_X1_keepByCertainty : Cond.selects RX1 yX1_keepByCertainty yX1_keepByCertainty ∈ bw := bw_sel 7 (by decide +kernel) (by decide +kernel)
theorem q_se_X1_noteOwnColours : Cond.selects RX1 yX1_noteOwnColours yX1_noteOwnColours ∈ bw := bw_sel 8 (by decide +kernel) (by decide +kernel)
theorem q_se_X1_viewOf : Cond.selects RX1 yX1_viewOf yX1_viewOf ∈ bw := bw_sel 9 (by decide +kernel) (by decide +kernel)
theorem q_se_X1_setOwnColours : Cond.selects RX1 yX1_setOwnColours yX1_setOwnColours ∈ bw := bw_sel 10 (by decide +kernel) (by decide +kernel)
theorem q_se_X1_ownColours : Cond.selects RX1 yX1_ownColours yX1_ownColours ∈ bw := bw_sel 11 (by decide +kernel) (by decide +kernel)
theorem q_se_X1_wouldBeCertain : Cond.selects RX1 yX1_wouldBeCertain yX1_wouldBeCertain ∈ bw := bw_sel 12 (by decide +kernel) (by decide +kernel)
theorem q_se_X1_playerAfter : Cond.selects RX1 yX1_playerAfter yX1_playerAfter ∈ bw := bw_sel 13 (by decide +kernel) (by decide +kernel)
theorem q_se_X1_requirePlayer : Cond.selects RX1 yX1_requirePlayer yX1_requirePlayer ∈ bw := bw_sel 14 (by decide +kernel) (by decide +kernel)
theorem q_se_X1_seesHat : Cond.selects RX1 yX1_seesHat yX1_seesHat ∈ bw := bw_sel 15 (by decide +kernel) (by decide +kernel)
theorem q_se_X1_hatsIn : Cond.selects RX1 yX1_hatsIn yX1_hatsIn ∈ bw := bw_sel 16 (by decide +kernel) (by decide +kernel)
theorem q_se_X1_countWithHat : Cond.selects RX1 yX1_countWithHat yX1_countWithHat ∈ bw := bw_sel 17 (by decide +kernel) (by decide +kernel)
theorem q_se_X1_countPossible : Cond.selects RX1 yX1_countPossible yX1_countPossible ∈ bw := bw_sel 18 (by decide +kernel) (by decide +kernel)
theorem q_se_X1_countCertain : Cond.selects RX1 yX1_countCertain yX1_countCertain ∈ bw := bw_sel 19 (by decide +kernel) (by decide +kernel)
theorem q_se_X1_lookAtEachOther : Cond.selects RX1 yX1_lookAtEachOther yX1_lookAtEachOther ∈ bw := bw_sel 20 (by decide +kernel) (by decide +kernel)
theorem q_se_X1_setSeenHatsOf : Cond.selects RX1 yX1_setSeenHatsOf yX1_setSeenHatsOf ∈ bw := bw_sel 21 (by decide +kernel) (by decide +kernel)
theorem q_se_X1_openColoursOf : Cond.selects RX1 yX1_openColoursOf yX1_openColoursOf ∈ bw := bw_sel 22 (by decide +kernel) (by decide +kernel)
theorem q_se_X1_requireTwoPlayers : Cond.selects RX1 yX1_requireTwoPlayers yX1_requireTwoPlayers ∈ bw := bw_sel 23 (by decide +kernel) (by decide +kernel)
theorem q_se_X1_sayBetween : Cond.selects RX1 yX1_sayBetween yX1_sayBetween ∈ bw := bw_sel 24 (by decide +kernel) (by decide +kernel)
theorem q_se_X1_keepWithHats : Cond.selects RX1 yX1_keepWithHats yX1_keepWithHats ∈ bw := bw_sel 25 (by decide +kernel) (by decide +kernel)
theorem g_X1_X0_add : GoodIn bw (wsV RX1 46 RX0 yX0_add ws_X0_add) := bw_V q_ml_X1_46 q_im_X0_add q_se_X0_add q_in_X0 q_c_X0_add
theorem g_L_X1_takeTurn : GoodIn bw (wsV RL 89 RX1 yX1_takeTurn ws_X1_takeTurn) := bw_V q_ml_L_89 q_im_X1_takeTurn q_se_X1_takeTurn q_in_X1 q_c_X1_takeTurn
theorem g_X1_X1_requireSomePlayer : GoodIn bw (wsV RX1 105 RX1 yX1_requireSomePlayer ws_X1_requireSomePlayer) := bw_V q_ml_X1_105 q_im_X1_requireSomePlayer q_se_X1_requireSomePlayer q_in_X1 q_c_X1_requireSomePlayer
theorem g_X1_X1_passTurn : GoodIn bw (wsV RX1 108 RX1 yX1_passTurn ws_X1_passTurn) := bw_V q_ml_X1_108 q_im_X1_passTurn q_se_X1_passTurn q_in_X1 q_c_X1_passTurn
theorem g_X1_X1_isCertainBy : GoodIn bw (wsV RX1 140 RX1 yX1_isCertainBy ws_X1_isCertainBy) := bw_V q_ml_X1_140 q_im_X1_isCertainBy q_se_X1_isCertainBy q_in_X1 q_c_X1_isCertainBy
theorem g_X1_X1_possibleColours : GoodIn bw (wsV RX1 136 RX1 yX1_possibleColours ws_X1_possibleColours) := bw_V q_ml_X1_136 q_im_X1_possibleColours q_se_X1_possibleColours q_in_X1 q_c_X1_possibleColours
theorem g_X1_X1_seenHatsOf : GoodIn bw (wsV RX1 74 RX1 yX1_seenHatsOf ws_X1_seenHatsOf) := bw_V q_ml_X1_74 q_im_X1_seenHatsOf q_se_X1_seenHatsOf q_in_X1 q_c_X1_seenHatsOf
theorem g_X1_X0_count : GoodIn bw (wsV RX1 91 RX0 yX0_count ws_X0_count) := bw_V q_ml_X1_91 q_im_X0_count q_se_X0_count q_in_X0 q_c_X0_count
theorem g_X1_X0_at : GoodIn bw (wsV RX1 95 RX0 yX0_at ws_X0_at) := bw_V q_ml_X1_95 q_im_X0_at q_se_X0_at q_in_X0 q_c_X0_at
theorem g_X1_X1_agreesWithNow : GoodIn bw (wsV RX1 151 RX1 yX1_agreesWithNow ws_X1_agreesWithNow) := bw_V q_ml_X1_151 q_im_X1_agreesWithNow q_se_X1_agreesWithNow q_in_X1 q_c_X1_agreesWithNow
theorem g_X1_X1_colourIn : GoodIn bw (va_wsS RX1 101 yX1_colourIn ws_X1_colourIn) := bw_S q_ml_X1_101 q_st_X1_colourIn q_in_X1 q_c_X1_colourIn
theorem g_X1_X1_isOneColour : GoodIn bw (va_wsS RX1 143 yX1_isOneColour ws_X1_isOneColour) := bw_S q_ml_X1_143 q_st_X1_isOneColour q_in_X1 q_c_X1_isOneColour
theorem g_X1_J6_bitCount_0f7a4 : GoodIn bw (va_wsS RX1 231 yJ6_bitCount_0f7a4 ws_J6_bitCount_0f7a4) := bw_S q_ml_X1_231 q_st_J6_bitCount_0f7a4 q_in_J6 q_c_J6_bitCount_0f7a4
theorem g_X1_X1_keepByCertainty : GoodIn bw (wsV RX1 245 RX1 yX1_keepByCertainty ws_X1_keepByCertainty) := bw_V q_ml_X1_245 q_im_X1_keepByCertainty q_se_X1_keepByCertainty q_in_X1 q_c_X1_keepByCertainty
theorem g_X1_X1_noteOwnColours : GoodIn bw (wsV RX1 147 RX1 yX1_noteOwnColours ws_X1_noteOwnColours) := bw_V q_ml_X1_147 q_im_X1_noteOwnColours q_se_X1_noteOwnColours q_in_X1 q_c_X1_noteOwnColours
theorem g_X1_X1_viewOf : GoodIn bw (wsV RX1 236 RX1 yX1_viewOf ws_X1_viewOf) := bw_V q_ml_X1_236 q_im_X1_viewOf q_se_X1_viewOf q_in_X1 q_c_X1_viewOf
theorem g_X1_X1_setOwnColours : GoodIn bw (wsV RX1 239 RX1 yX1_setOwnColours ws_X1_setOwnColours) := bw_V q_ml_X1_239 q_im_X1_setOwnColours q_se_X1_setOwnColours q_in_X1 q_c_X1_setOwnColours
theorem g_X1_X1_ownColours : GoodIn bw (wsV RX1 242 RX1 yX1_ownColours ws_X1_ownColours) := bw_V q_ml_X1_242 q_im_X1_ownColours q_se_X1_ownColours q_in_X1 q_c_X1_ownColours
theorem g_X1_X0_clear : GoodIn bw (wsV RX1 121 RX0 yX0_clear ws_X0_clear) := bw_V q_ml_X1_121 q_im_X0_clear q_se_X0_clear q_in_X0 q_c_X0_clear
theorem g_X1_X1_wouldBeCertain : GoodIn bw (wsV RX1 154 RX1 yX1_wouldBeCertain ws_X1_wouldBeCertain) := bw_V q_ml_X1_154 q_im_X1_wouldBeCertain q_se_X1_wouldBeCertain q_in_X1 q_c_X1_wouldBeCertain
theorem g_X1_X1_keepWithHat : GoodIn bw (va_wsS RX1 171 yX1_keepWithHat ws_X1_keepWithHat) := bw_S q_ml_X1_171 q_st_X1_keepWithHat q_in_X1 q_c_X1_keepWithHat
theorem g_X1_X1_playerAfter : GoodIn bw (wsV RX1 112 RX1 yX1_playerAfter ws_X1_playerAfter) := bw_V q_ml_X1_112 q_im_X1_playerAfter q_se_X1_playerAfter q_in_X1 q_c_X1_playerAfter
theorem g_L_X1_players : GoodIn bw (wsV RL 108 RX1 yX1_players ws_X1_players) := bw_V q_ml_L_108 q_im_X1_players q_se_X1_players q_in_X1 q_c_X1_players
theorem g_L_X1_turnsTaken : GoodIn bw (wsV RL 157 RX1 yX1_turnsTaken ws_X1_turnsTaken) := bw_V q_ml_L_157 q_im_X1_turnsTaken q_se_X1_turnsTaken q_in_X1 q_c_X1_turnsTaken
theorem g_L_X1_silentTurns : GoodIn bw (wsV RL 154 RX1 yX1_silentTurns ws_X1_silentTurns) := bw_V q_ml_L_154 q_im_X1_silentTurns q_se_X1_silentTurns q_in_X1 q_c_X1_silentTurns
theorem g_L_X1_playerInTurn : GoodIn bw (wsV RL 151 RX1 yX1_playerInTurn ws_X1_playerInTurn) := bw_V q_ml_L_151 q_im_X1_playerInTurn q_se_X1_playerInTurn q_in_X1 q_c_X1_playerInTurn
theorem g_L_X1_hatOf : GoodIn bw (wsV RL 114 RX1 yX1_hatOf ws_X1_hatOf) := bw_V q_ml_L_114 q_im_X1_hatOf q_se_X1_hatOf q_in_X1 q_c_X1_hatOf
theorem g_X1_X1_requirePlayer : GoodIn bw (wsV RX1 124 RX1 yX1_requirePlayer ws_X1_requirePlayer) := bw_V q_ml_X1_124 q_im_X1_requirePlayer q_se_X1_requirePlayer q_in_X1 q_c_X1_requirePlayer
theorem g_L_X1_sees : GoodIn bw (wsV RL 136 RX1 yX1_sees ws_X1_sees) := bw_V q_ml_L_136 q_im_X1_sees q_se_X1_sees q_in_X1 q_c_X1_sees
theorem g_X1_X1_seesHat : GoodIn bw (wsV RX1 83 RX1 yX1_seesHat ws_X1_seesHat) := bw_V q_ml_X1_83 q_im_X1_seesHat q_se_X1_seesHat q_in_X1 q_c_X1_seesHat
theorem g_X1_X1_hatMask : GoodIn bw (va_wsS RX1 77 yX1_hatMask ws_X1_hatMask) := bw_S q_ml_X1_77 q_st_X1_hatMask q_in_X1 q_c_X1_hatMask
theorem g_X1_X1_shiftOf : GoodIn bw (va_wsS RX1 60 yX1_shiftOf ws_X1_shiftOf) := bw_S q_ml_X1_60 q_st_X1_shiftOf q_in_X1 q_c_X1_shiftOf
theorem g_L_X1_hatsOf : GoodIn bw (wsV RL 145 RX1 yX1_hatsOf ws_X1_hatsOf) := bw_V q_ml_L_145 q_im_X1_hatsOf q_se_X1_hatsOf q_in_X1 q_c_X1_hatsOf
theorem g_X1_X1_requireColour : GoodIn bw (va_wsS RX1 50 yX1_requireColour ws_X1_requireColour) := bw_S q_ml_X1_50 q_st_X1_requireColour q_in_X1 q_c_X1_requireColour
theorem g_X1_X1_hatsIn : GoodIn bw (wsV RX1 127 RX1 yX1_hatsIn ws_X1_hatsIn) := bw_V q_ml_X1_127 q_im_X1_hatsIn q_se_X1_hatsIn q_in_X1 q_c_X1_hatsIn
theorem g_L_X1_openWays : GoodIn bw (wsV RL 111 RX1 yX1_openWays ws_X1_openWays) := bw_V q_ml_L_111 q_im_X1_openWays q_se_X1_openWays q_in_X1 q_c_X1_openWays
theorem g_L_X1_openWaysWith : GoodIn bw (wsV RL 117 RX1 yX1_openWaysWith ws_X1_openWaysWith) := bw_V q_ml_L_117 q_im_X1_openWaysWith q_se_X1_openWaysWith q_in_X1 q_c_X1_openWaysWith
theorem g_X1_X1_countWithHat : GoodIn bw (wsV RX1 130 RX1 yX1_countWithHat ws_X1_countWithHat) := bw_V q_ml_X1_130 q_im_X1_countWithHat q_se_X1_countWithHat q_in_X1 q_c_X1_countWithHat
theorem g_L_X1_isKnownToAll : GoodIn bw (wsV RL 127 RX1 yX1_isKnownToAll ws_X1_isKnownToAll) := bw_V q_ml_L_127 q_im_X1_isKnownToAll q_se_X1_isKnownToAll q_in_X1 q_c_X1_isKnownToAll
theorem g_L_X1_possibleWays : GoodIn bw (wsV RL 120 RX1 yX1_possibleWays ws_X1_possibleWays) := bw_V q_ml_L_120 q_im_X1_possibleWays q_se_X1_possibleWays q_in_X1 q_c_X1_possibleWays
theorem g_X1_X1_countPossible : GoodIn bw (wsV RX1 133 RX1 yX1_countPossible ws_X1_countPossible) := bw_V q_ml_X1_133 q_im_X1_countPossible q_se_X1_countPossible q_in_X1 q_c_X1_countPossible
theorem g_L_X1_holdsPossible : GoodIn bw (wsV RL 138 RX1 yX1_holdsPossible ws_X1_holdsPossible) := bw_V q_ml_L_138 q_im_X1_holdsPossible q_se_X1_holdsPossible q_in_X1 q_c_X1_holdsPossible
theorem g_L_X1_isCertain : GoodIn bw (wsV RL 123 RX1 yX1_isCertain ws_X1_isCertain) := bw_V q_ml_L_123 q_im_X1_isCertain q_se_X1_isCertain q_in_X1 q_c_X1_isCertain
theorem g_L_X1_knowsHatOf : GoodIn bw (wsV RL 130 RX1 yX1_knowsHatOf ws_X1_knowsHatOf) := bw_V q_ml_L_130 q_im_X1_knowsHatOf q_se_X1_knowsHatOf q_in_X1 q_c_X1_knowsHatOf
theorem g_L_X1_knowsCertain : GoodIn bw (wsV RL 133 RX1 yX1_knowsCertain ws_X1_knowsCertain) := bw_V q_ml_L_133 q_im_X1_knowsCertain q_se_X1_knowsCertain q_in_X1 q_c_X1_knowsCertain
theorem g_L_X1_certainPlayers : GoodIn bw (wsV RL 148 RX1 yX1_certainPlayers ws_X1_certainPlayers) := bw_V q_ml_L_148 q_im_X1_certainPlayers q_se_X1_certainPlayers q_in_X1 q_c_X1_certainPlayers
theorem g_X1_X1_countCertain : GoodIn bw (wsV RX1 157 RX1 yX1_countCertain ws_X1_countCertain) := bw_V q_ml_X1_157 q_im_X1_countCertain q_se_X1_countCertain q_in_X1 q_c_X1_countCertain
theorem g_L_X1_certainIfTold : GoodIn bw (wsV RL 142 RX1 yX1_certainIfTold ws_X1_certainIfTold) := bw_V q_ml_L_142 q_im_X1_certainIfTold q_se_X1_certainIfTold q_in_X1 q_c_X1_certainIfTold
theorem g_X1_X0_copyFrom : GoodIn bw (wsV RX1 161 RX0 yX0_copyFrom ws_X0_copyFrom) := bw_V q_ml_X1_161 q_im_X0_copyFrom q_se_X0_copyFrom q_in_X0 q_c_X0_copyFrom
theorem g_X0_X0_clear : GoodIn bw (wsV RX0 19 RX0 yX0_clear ws_X0_clear) := bw_V q_ml_X0_19 q_im_X0_clear q_se_X0_clear q_in_X0 q_c_X0_clear
theorem g_X0_X0_count : GoodIn bw (wsV RX0 22 RX0 yX0_count ws_X0_count) := bw_V q_ml_X0_22 q_im_X0_count q_se_X0_count q_in_X0 q_c_X0_count
theorem g_X0_X0_at : GoodIn bw (wsV RX0 25 RX0 yX0_at ws_X0_at) := bw_V q_ml_X0_25 q_im_X0_at q_se_X0_at q_in_X0 q_c_X0_at
theorem g_X0_X0_add : GoodIn bw (wsV RX0 29 RX0 yX0_add ws_X0_add) := bw_V q_ml_X0_29 q_im_X0_add q_se_X0_add q_in_X0 q_c_X0_add
theorem g_L_X2_turn : GoodIn bw (wsV RL 92 RX2 yX2_turn ws_X2_turn) := bw_V q_ml_L_92 q_im_X2_turn q_se_X2_turn q_in_X2 q_c_X2_turn
theorem g_X2_X2_isSure : GoodIn bw (wsV RX2 43 RX2 yX2_isSure ws_X2_isSure) := bw_V q_ml_X2_43 q_im_X2_isSure q_se_X2_isSure q_in_X2 q_c_X2_isSure
theorem g_X2_X2_agree : GoodIn bw (wsV RX2 36 RX2 yX2_agree ws_X2_agree) := bw_V q_ml_X2_36 q_im_X2_agree q_se_X2_agree q_in_X2 q_c_X2_agree
theorem g_L_X2_isSame : GoodIn bw (wsV RL 160 RX2 yX2_isSame ws_X2_isSame) := bw_V q_ml_L_160 q_im_X2_isSame q_se_X2_isSame q_in_X2 q_c_X2_isSame
theorem g_X2_X1_players : GoodIn bw (wsV RX2 68 RX1 yX1_players ws_X1_players) := bw_V q_ml_X2_68 q_im_X1_players q_se_X1_players q_in_X1 q_c_X1_players
theorem g_X2_X1_turnsTaken : GoodIn bw (wsV RX2 73 RX1 yX1_turnsTaken ws_X1_turnsTaken) := bw_V q_ml_X2_73 q_im_X1_turnsTaken q_se_X1_turnsTaken q_in_X1 q_c_X1_turnsTaken
theorem g_X2_X1_silentTurns : GoodIn bw (wsV RX2 76 RX1 yX1_silentTurns ws_X1_silentTurns) := bw_V q_ml_X2_76 q_im_X1_silentTurns q_se_X1_silentTurns q_in_X1 q_c_X1_silentTurns
theorem g_X2_X1_playerInTurn : GoodIn bw (wsV RX2 79 RX1 yX1_playerInTurn ws_X1_playerInTurn) := bw_V q_ml_X2_79 q_im_X1_playerInTurn q_se_X1_playerInTurn q_in_X1 q_c_X1_playerInTurn
theorem g_X2_X1_openWays : GoodIn bw (wsV RX2 82 RX1 yX1_openWays ws_X1_openWays) := bw_V q_ml_X2_82 q_im_X1_openWays q_se_X1_openWays q_in_X1 q_c_X1_openWays
theorem g_X2_X2_many : GoodIn bw (wsV RX2 58 RX2 yX2_many ws_X2_many) := bw_V q_ml_X2_58 q_im_X2_many q_se_X2_many q_in_X2 q_c_X2_many
theorem g_X2_X1_certainPlayers : GoodIn bw (wsV RX2 85 RX1 yX1_certainPlayers ws_X1_certainPlayers) := bw_V q_ml_X2_85 q_im_X1_certainPlayers q_se_X1_certainPlayers q_in_X1 q_c_X1_certainPlayers
theorem g_X2_X2_certain : GoodIn bw (wsV RX2 88 RX2 yX2_certain ws_X2_certain) := bw_V q_ml_X2_88 q_im_X2_certain q_se_X2_certain q_in_X2 q_c_X2_certain
theorem g_X2_X1_hatOf : GoodIn bw (wsV RX2 91 RX1 yX1_hatOf ws_X1_hatOf) := bw_V q_ml_X2_91 q_im_X1_hatOf q_se_X1_hatOf q_in_X1 q_c_X1_hatOf
theorem g_X2_X1_possibleWays : GoodIn bw (wsV RX2 95 RX1 yX1_possibleWays ws_X1_possibleWays) := bw_V q_ml_X2_95 q_im_X1_possibleWays q_se_X1_possibleWays q_in_X1 q_c_X1_possibleWays
theorem g_X2_X1_isCertain : GoodIn bw (wsV RX2 98 RX1 yX1_isCertain ws_X1_isCertain) := bw_V q_ml_X2_98 q_im_X1_isCertain q_se_X1_isCertain q_in_X1 q_c_X1_isCertain
theorem g_X2_X1_isKnownToAll : GoodIn bw (wsV RX2 102 RX1 yX1_isKnownToAll ws_X1_isKnownToAll) := bw_V q_ml_X2_102 q_im_X1_isKnownToAll q_se_X1_isKnownToAll q_in_X1 q_c_X1_isKnownToAll
theorem g_X2_X1_openWaysWith : GoodIn bw (wsV RX2 105 RX1 yX1_openWaysWith ws_X1_openWaysWith) := bw_V q_ml_X2_105 q_im_X1_openWaysWith q_se_X1_openWaysWith q_in_X1 q_c_X1_openWaysWith
theorem g_X2_X1_sees : GoodIn bw (wsV RX2 109 RX1 yX1_sees ws_X1_sees) := bw_V q_ml_X2_109 q_im_X1_sees q_se_X1_sees q_in_X1 q_c_X1_sees
theorem g_X2_X1_knowsHatOf : GoodIn bw (wsV RX2 112 RX1 yX1_knowsHatOf ws_X1_knowsHatOf) := bw_V q_ml_X2_112 q_im_X1_knowsHatOf q_se_X1_knowsHatOf q_in_X1 q_c_X1_knowsHatOf
theorem g_X2_X1_holdsPossible : GoodIn bw (wsV RX2 115 RX1 yX1_holdsPossible ws_X1_holdsPossible) := bw_V q_ml_X2_115 q_im_X1_holdsPossible q_se_X1_holdsPossible q_in_X1 q_c_X1_holdsPossible
theorem g_X2_X1_hatsOf : GoodIn bw (wsV RX2 119 RX1 yX1_hatsOf ws_X1_hatsOf) := bw_V q_ml_X2_119 q_im_X1_hatsOf q_se_X1_hatsOf q_in_X1 q_c_X1_hatsOf
theorem g_X2_X2_have : GoodIn bw (wsV RX2 54 RX2 yX2_have ws_X2_have) := bw_V q_ml_X2_54 q_im_X2_have q_se_X2_have q_in_X2 q_c_X2_have
theorem g_X2_X1_meanPossible : GoodIn bw (wsV RX2 122 RX1 yX1_meanPossible ws_X1_meanPossible) := bw_V q_ml_X2_122 q_im_X1_meanPossible q_se_X1_meanPossible q_in_X1 q_c_X1_meanPossible
theorem g_L_L_cell : GoodIn bw (va_wsS RL 96 yL_cell ws_L_cell) := bw_S q_ml_L_96 q_st_L_cell q_in_L q_c_L_cell
theorem g_L_L_act : GoodIn bw (va_wsS RL 99 yL_act ws_L_act) := bw_S q_ml_L_99 q_st_L_act q_in_L q_c_L_act
theorem g_L_L_below : GoodIn bw (va_wsS RL 15 yL_below ws_L_below) := bw_S q_ml_L_15 q_st_L_below q_in_L q_c_L_below
theorem g_L_X2_add : GoodIn bw (wsV RL 25 RX2 yX2_add ws_X2_add) := bw_V q_ml_L_25 q_im_X2_add q_se_X2_add q_in_X2 q_c_X2_add
theorem g_X2_X2_all : GoodIn bw (wsV RX2 32 RX2 yX2_all ws_X2_all) := bw_V q_ml_X2_32 q_im_X2_all q_se_X2_all q_in_X2 q_c_X2_all
theorem g_L_X1_addPlayer : GoodIn bw (wsV RL 29 RX1 yX1_addPlayer ws_X1_addPlayer) := bw_V q_ml_L_29 q_im_X1_addPlayer q_se_X1_addPlayer q_in_X1 q_c_X1_addPlayer
theorem g_X1_X1_lookAtEachOther : GoodIn bw (wsV RX1 64 RX1 yX1_lookAtEachOther ws_X1_lookAtEachOther) := bw_V q_ml_X1_64 q_im_X1_lookAtEachOther q_se_X1_lookAtEachOther q_in_X1 q_c_X1_lookAtEachOther
theorem g_X1_X1_setSeenHatsOf : GoodIn bw (wsV RX1 80 RX1 yX1_setSeenHatsOf ws_X1_setSeenHatsOf) := bw_V q_ml_X1_80 q_im_X1_setSeenHatsOf q_se_X1_setSeenHatsOf q_in_X1 q_c_X1_setSeenHatsOf
theorem g_X1_X1_openColoursOf : GoodIn bw (wsV RX1 67 RX1 yX1_openColoursOf ws_X1_openColoursOf) := bw_V q_ml_X1_67 q_im_X1_openColoursOf q_se_X1_openColoursOf q_in_X1 q_c_X1_openColoursOf
theorem g_L_J9_max_7cf53 : GoodIn bw (va_wsS RL 35 yJ9_max_7cf53 ws_J9_max_7cf53) := bw_S q_ml_L_35 q_st_J9_max_7cf53 q_in_J9 q_c_J9_max_7cf53
theorem g_L_X1_turnAway : GoodIn bw (wsV RL 44 RX1 yX1_turnAway ws_X1_turnAway) := bw_V q_ml_L_44 q_im_X1_turnAway q_se_X1_turnAway q_in_X1 q_c_X1_turnAway
theorem g_X1_X1_requireTwoPlayers : GoodIn bw (wsV RX1 70 RX1 yX1_requireTwoPlayers ws_X1_requireTwoPlayers) := bw_V q_ml_X1_70 q_im_X1_requireTwoPlayers q_se_X1_requireTwoPlayers q_in_X1 q_c_X1_requireTwoPlayers
theorem g_L_X2_borrow : GoodIn bw (wsV RL 48 RX2 yX2_borrow ws_X2_borrow) := bw_V q_ml_L_48 q_im_X2_borrow q_se_X2_borrow q_in_X2 q_c_X2_borrow
theorem g_L_X1_borrow : GoodIn bw (wsV RL 52 RX1 yX1_borrow ws_X1_borrow) := bw_V q_ml_L_52 q_im_X1_borrow q_se_X1_borrow q_in_X1 q_c_X1_borrow
theorem g_X1_X1_exchanged : GoodIn bw (va_wsS RX1 87 yX1_exchanged ws_X1_exchanged) := bw_S q_ml_X1_87 q_st_X1_exchanged q_in_X1 q_c_X1_exchanged
theorem g_X1_X0_put : GoodIn bw (wsV RX1 98 RX0 yX0_put ws_X0_put) := bw_V q_ml_X1_98 q_im_X0_put q_se_X0_put q_in_X0 q_c_X0_put
theorem g_L_X2_have : GoodIn bw (wsV RL 58 RX2 yX2_have ws_X2_have) := bw_V q_ml_L_58 q_im_X2_have q_se_X2_have q_in_X2 q_c_X2_have
theorem g_L_X1_sayAtLeast : GoodIn bw (wsV RL 62 RX1 yX1_sayAtLeast ws_X1_sayAtLeast) := bw_V q_ml_L_62 q_im_X1_sayAtLeast q_se_X1_sayAtLeast q_in_X1 q_c_X1_sayAtLeast
theorem g_X1_X1_requireMany : GoodIn bw (va_wsS RX1 115 yX1_requireMany ws_X1_requireMany) := bw_S q_ml_X1_115 q_st_X1_requireMany q_in_X1 q_c_X1_requireMany
theorem g_X1_X1_sayBetween : GoodIn bw (wsV RX1 118 RX1 yX1_sayBetween ws_X1_sayBetween) := bw_V q_ml_X1_118 q_im_X1_sayBetween q_se_X1_sayBetween q_in_X1 q_c_X1_sayBetween
theorem g_X1_X1_keepWithHats : GoodIn bw (wsV RX1 227 RX1 yX1_keepWithHats ws_X1_keepWithHats) := bw_V q_ml_X1_227 q_im_X1_keepWithHats q_se_X1_keepWithHats q_in_X1 q_c_X1_keepWithHats
theorem g_L_X2_say : GoodIn bw (wsV RL 65 RX2 yX2_say ws_X2_say) := bw_V q_ml_L_65 q_im_X2_say q_se_X2_say q_in_X2 q_c_X2_say
theorem g_L_X1_sayAtMost : GoodIn bw (wsV RL 69 RX1 yX1_sayAtMost ws_X1_sayAtMost) := bw_V q_ml_L_69 q_im_X1_sayAtMost q_se_X1_sayAtMost q_in_X1 q_c_X1_sayAtMost
theorem g_L_X2_all : GoodIn bw (wsV RL 72 RX2 yX2_all ws_X2_all) := bw_V q_ml_L_72 q_im_X2_all q_se_X2_all q_in_X2 q_c_X2_all
theorem g_L_X1_begin : GoodIn bw (wsV RL 81 RX1 yX1_begin ws_X1_begin) := bw_V q_ml_L_81 q_im_X1_begin q_se_X1_begin q_in_X1 q_c_X1_begin
end
section
theorem dX0_init_0 : decode cX0_init 0 = .ok (.aload_n 0, 1) := by decide +kernel
theorem dX0_init_1 : decode cX0_init 1 = .ok (.invokespecial 3, 3) := by decide +kernel
theorem dX0_init_4 : decode cX0_init 4 = .ok (.aload_n 0, 1) := by decide +kernel
theorem dX0_init_5 : decode cX0_init 5 = .ok (.sipush 243, 3) := by decide +kernel
theorem dX0_init_8 : decode cX0_init 8 = .ok (.newarray .int, 2) := by decide +kernel
theorem dX0_init_10 : decode cX0_init 10 = .ok (.putfield 9, 3) := by decide +kernel
theorem dX0_init_13 : decode cX0_init 13 = .ok (.aload_n 0, 1) := by decide +kernel
theorem dX0_init_14 : decode cX0_init 14 = .ok (.iconst 0, 1) := by decide +kernel
theorem dX0_init_15 : decode cX0_init 15 = .ok (.putfield 15, 3) := by decide +kernel
theorem dX0_init_18 : decode cX0_init 18 = .ok (.return_, 1) := by decide +kernel
theorem dX0_count_0 : decode cX0_count 0 = .ok (.aload_n 0, 1) := by decide +kernel
theorem dX0_count_1 : decode cX0_count 1 = .ok (.getfield 15, 3) := by decide +kernel
theorem dX0_count_4 : decode cX0_count 4 = .ok (.ireturn, 1) := by decide +kernel
theorem dX0_at_0 : decode cX0_at 0 = .ok (.iload_n 1, 1) := by decide +kernel
theorem dX0_at_1 : decode cX0_at 1 = .ok (.ifCond .lt 21, 3) := by decide +kernel
theorem dX0_at_4 : decode cX0_at 4 = .ok (.iload_n 1, 1) := by decide +kernel
theorem dX0_at_5 : decode cX0_at 5 = .ok (.aload_n 0, 1) := by decide +kernel
theorem dX0_at_6 : decode cX0_at 6 = .ok (.getfield 9, 3) := by decide +kernel
theorem dX0_at_9 : decode cX0_at 9 = .ok (.arraylength, 1) := by decide +kernel
theorem dX0_at_10 : decode cX0_at 10 = .ok (.if_icmp .ge 12, 3) := by decide +kernel
theorem dX0_at_13 : decode cX0_at 13 = .ok (.aload_n 0, 1) := by decide +kernel
theorem dX0_at_14 : decode cX0_at 14 = .ok (.getfield 9, 3) := by decide +kernel
theorem dX0_at_17 : decode cX0_at 17 = .ok (.iload_n 1, 1) := by decide +kernel
theorem dX0_at_18 : decode cX0_at 18 = .ok (.iaload, 1) := by decide +kernel
theorem dX0_at_19 : decode cX0_at 19 = .ok (.goto 4, 3) := by decide +kernel
theorem dX0_at_22 : decode cX0_at 22 = .ok (.iconst 0, 1) := by decide +kernel
theorem dX0_at_23 : decode cX0_at 23 = .ok (.ireturn, 1) := by decide +kernel
theorem dX0_add_0 : decode cX0_add 0 = .ok (.aload_n 0, 1) := by decide +kernel
theorem dX0_add_1 : decode cX0_add 1 = .ok (.getfield 15, 3) := by decide +kernel
theorem dX0_add_4 : decode cX0_add 4 = .ok (.ifCond .lt 35, 3) := by decide +kernel
theorem dX0_add_7 : decode cX0_add 7 = .ok (.aload_n 0, 1) := by decide +kernel
theorem dX0_add_8 : decode cX0_add 8 = .ok (.getfield 15, 3) := by decide +kernel
theorem dX0_add_11 : decode cX0_add 11 = .ok (.aload_n 0, 1) := by decide +kernel
theorem dX0_add_12 : decode cX0_add 12 = .ok (.getfield 9, 3) := by decide +kernel
theorem dX0_add_15 : decode cX0_add 15 = .ok (.arraylength, 1) := by decide +kernel
theorem dX0_add_16 : decode cX0_add 16 = .ok (.if_icmp .ge 23, 3) := by decide +kernel
theorem dX0_add_19 : decode cX0_add 19 = .ok (.aload_n 0, 1) := by decide +kernel
theorem dX0_add_20 : decode cX0_add 20 = .ok (.getfield 9, 3) := by decide +kernel
theorem dX0_add_23 : decode cX0_add 23 = .ok (.aload_n 0, 1) := by decide +kernel
theorem dX0_add_24 : decode cX0_add 24 = .ok (.getfield 15, 3) := by decide +kernel
theorem dX0_add_27 : decode cX0_add 27 = .ok (.iload_n 1, 1) := by decide +kernel
theorem dX0_add_28 : decode cX0_add 28 = .ok (.iastore, 1) := by decide +kernel
theorem dX0_add_29 : decode cX0_add 29 = .ok (.aload_n 0, 1) := by decide +kernel
theorem dX0_add_30 : decode cX0_add 30 = .ok (.dup, 1) := by decide +kernel
theorem dX0_add_31 : decode cX0_add 31 = .ok (.getfield 15, 3) := by decide +kernel
theorem dX0_add_34 : decode cX0_add 34 = .ok (.iconst 1, 1) := by decide +kernel
theorem dX0_add_35 : decode cX0_add 35 = .ok (.iadd, 1) := by decide +kernel
theorem dX0_add_36 : decode cX0_add 36 = .ok (.putfield 15, 3) := by decide +kernel
theorem dX0_add_39 : decode cX0_add 39 = .ok (.return_, 1) := by decide +kernel
theorem dX0_clear_0 : decode cX0_clear 0 = .ok (.aload_n 0, 1) := by decide +kernel
theorem dX0_clear_1 : decode cX0_clear 1 = .ok (.iconst 0, 1) := by decide +kernel
theorem dX0_clear_2 : decode cX0_clear 2 = .ok (.putfield 15, 3) := by decide +kernel
theorem dX0_clear_5 : decode cX0_clear 5 = .ok (.return_, 1) := by decide +kernel
theorem dX0_put_0 : decode cX0_put 0 = .ok (.iload_n 1, 1) := by decide +kernel
theorem dX0_put_1 : decode cX0_put 1 = .ok (.ifCond .lt 19, 3) := by decide +kernel
theorem dX0_put_4 : decode cX0_put 4 = .ok (.iload_n 1, 1) := by decide +kernel
theorem dX0_put_5 : decode cX0_put 5 = .ok (.aload_n 0, 1) := by decide +kernel
theorem dX0_put_6 : decode cX0_put 6 = .ok (.getfield 9, 3) := by decide +kernel
theorem dX0_put_9 : decode cX0_put 9 = .ok (.arraylength, 1) := by decide +kernel
theorem dX0_put_10 : decode cX0_put 10 = .ok (.if_icmp .ge 10, 3) := by decide +kernel
theorem dX0_put_13 : decode cX0_put 13 = .ok (.aload_n 0, 1) := by decide +kernel
theorem dX0_put_14 : decode cX0_put 14 = .ok (.getfield 9, 3) := by decide +kernel
theorem dX0_put_17 : decode cX0_put 17 = .ok (.iload_n 1, 1) := by decide +kernel
theorem dX0_put_18 : decode cX0_put 18 = .ok (.iload_n 2, 1) := by decide +kernel
theorem dX0_put_19 : decode cX0_put 19 = .ok (.iastore, 1) := by decide +kernel
theorem dX0_put_20 : decode cX0_put 20 = .ok (.return_, 1) := by decide +kernel
theorem dX0_copyFrom_0 : decode cX0_copyFrom 0 = .ok (.aload_n 0, 1) := by decide +kernel
theorem dX0_copyFrom_1 : decode cX0_copyFrom 1 = .ok (.invokevirtual 19, 3) := by decide +kernel
theorem dX0_copyFrom_4 : decode cX0_copyFrom 4 = .ok (.iconst 0, 1) := by decide +kernel
theorem dX0_copyFrom_5 : decode cX0_copyFrom 5 = .ok (.istore_n 2, 1) := by decide +kernel
theorem dX0_copyFrom_6 : decode cX0_copyFrom 6 = .ok (.iload_n 2, 1) := by decide +kernel
theorem dX0_copyFrom_7 : decode cX0_copyFrom 7 = .ok (.aload_n 1, 1) := by decide +kernel
theorem dX0_copyFrom_8 : decode cX0_copyFrom 8 = .ok (.invokevirtual 22, 3) := by decide +kernel
theorem dX0_copyFrom_11 : decode cX0_copyFrom 11 = .ok (.if_icmp .ge 18, 3) := by decide +kernel
theorem dX0_copyFrom_14 : decode cX0_copyFrom 14 = .ok (.aload_n 0, 1) := by decide +kernel
theorem dX0_copyFrom_15 : decode cX0_copyFrom 15 = .ok (.aload_n 1, 1) := by decide +kernel
theorem dX0_copyFrom_16 : decode cX0_copyFrom 16 = .ok (.iload_n 2, 1) := by decide +kernel
theorem dX0_copyFrom_17 : decode cX0_copyFrom 17 = .ok (.invokevirtual 25, 3) := by decide +kernel
theorem dX0_copyFrom_20 : decode cX0_copyFrom 20 = .ok (.invokevirtual 29, 3) := by decide +kernel
theorem dX0_copyFrom_23 : decode cX0_copyFrom 23 = .ok (.iinc 2 1, 3) := by decide +kernel
theorem dX0_copyFrom_26 : decode cX0_copyFrom 26 = .ok (.goto (-20), 3) := by decide +kernel
theorem dX0_copyFrom_29 : decode cX0_copyFrom 29 = .ok (.return_, 1) := by decide +kernel
theorem dX1_init_0 : decode cX1_init 0 = .ok (.aload_n 0, 1) := by decide +kernel
theorem dX1_init_1 : decode cX1_init 1 = .ok (.invokespecial 1, 3) := by decide +kernel
theorem dX1_init_4 : decode cX1_init 4 = .ok (.aload_n 0, 1) := by decide +kernel
theorem dX1_init_5 : decode cX1_init 5 = .ok (.new 7, 3) := by decide +kernel
theorem dX1_init_8 : decode cX1_init 8 = .ok (.dup, 1) := by decide +kernel
theorem dX1_init_9 : decode cX1_init 9 = .ok (.invokespecial 9, 3) := by decide +kernel
theorem dX1_init_12 : decode cX1_init 12 = .ok (.putfield 10, 3) := by decide +kernel
theorem dX1_init_15 : decode cX1_init 15 = .ok (.aload_n 0, 1) := by decide +kernel
theorem dX1_init_16 : decode cX1_init 16 = .ok (.new 7, 3) := by decide +kernel
theorem dX1_init_19 : decode cX1_init 19 = .ok (.dup, 1) := by decide +kernel
theorem dX1_init_20 : decode cX1_init 20 = .ok (.invokespecial 9, 3) := by decide +kernel
theorem dX1_init_23 : decode cX1_init 23 = .ok (.putfield 16, 3) := by decide +kernel
theorem dX1_init_26 : decode cX1_init 26 = .ok (.aload_n 0, 1) := by decide +kernel
theorem dX1_init_27 : decode cX1_init 27 = .ok (.iconst 5, 1) := by decide +kernel
theorem dX1_init_28 : decode cX1_init 28 = .ok (.newarray .int, 2) := by decide +kernel
theorem dX1_init_30 : decode cX1_init 30 = .ok (.putfield 19, 3) := by decide +kernel
theorem dX1_init_33 : decode cX1_init 33 = .ok (.aload_n 0, 1) := by decide +kernel
theorem dX1_init_34 : decode cX1_init 34 = .ok (.sipush 1024, 3) := by decide +kernel
theorem dX1_init_37 : decode cX1_init 37 = .ok (.newarray .int, 2) := by decide +kernel
theorem dX1_init_39 : decode cX1_init 39 = .ok (.putfield 23, 3) := by decide +kernel
theorem dX1_init_42 : decode cX1_init 42 = .ok (.aload_n 0, 1) := by decide +kernel
theorem dX1_init_43 : decode cX1_init 43 = .ok (.iconst 0, 1) := by decide +kernel
theorem dX1_init_44 : decode cX1_init 44 = .ok (.putfield 26, 3) := by decide +kernel
theorem dX1_init_47 : decode cX1_init 47 = .ok (.aload_n 0, 1) := by decide +kernel
theorem dX1_init_48 : decode cX1_init 48 = .ok (.iconst 0, 1) := by decide +kernel
theorem dX1_init_49 : decode cX1_init 49 = .ok (.putfield 30, 3) := by decide +kernel
theorem dX1_init_52 : decode cX1_init 52 = .ok (.aload_n 0, 1) := by decide +kernel
theorem dX1_init_53 : decode cX1_init 53 = .ok (.iconst 0, 1) := by decide +kernel
theorem dX1_init_54 : decode cX1_init 54 = .ok (.putfield 33, 3) := by decide +kernel
theorem dX1_init_57 : decode cX1_init 57 = .ok (.aload_n 0, 1) := by decide +kernel
theorem dX1_init_58 : decode cX1_init 58 = .ok (.iconst 0, 1) := by decide +kernel
theorem dX1_init_59 : decode cX1_init 59 = .ok (.putfield 36, 3) := by decide +kernel
theorem dX1_init_62 : decode cX1_init 62 = .ok (.aload_n 0, 1) := by decide +kernel
theorem dX1_init_63 : decode cX1_init 63 = .ok (.iconst 0, 1) := by decide +kernel
theorem dX1_init_64 : decode cX1_init 64 = .ok (.putfield 39, 3) := by decide +kernel
theorem dX1_init_67 : decode cX1_init 67 = .ok (.aload_n 0, 1) := by decide +kernel
theorem dX1_init_68 : decode cX1_init 68 = .ok (.iconst 0, 1) := by decide +kernel
theorem dX1_init_69 : decode cX1_init 69 = .ok (.putfield 42, 3) := by decide +kernel
theorem dX1_init_72 : decode cX1_init 72 = .ok (.aload_n 0, 1) := by decide +kernel
theorem dX1_init_73 : decode cX1_init 73 = .ok (.getfield 10, 3) := by decide +kernel
theorem dX1_init_76 : decode cX1_init 76 = .ok (.iconst 0, 1) := by decide +kernel
theorem dX1_init_77 : decode cX1_init 77 = .ok (.invokevirtual 46, 3) := by decide +kernel
theorem dX1_init_80 : decode cX1_init 80 = .ok (.return_, 1) := by decide +kernel
theorem dX1_addPlayer_0 : decode cX1_addPlayer 0 = .ok (.iload_n 1, 1) := by decide +kernel
theorem dX1_addPlayer_1 : decode cX1_addPlayer 1 = .ok (.invokestatic 50, 3) := by decide +kernel
theorem dX1_addPlayer_4 : decode cX1_addPlayer 4 = .ok (.aload_n 0, 1) := by decide +kernel
theorem dX1_addPlayer_5 : decode cX1_addPlayer 5 = .ok (.getfield 26, 3) := by decide +kernel
theorem dX1_addPlayer_8 : decode cX1_addPlayer 8 = .ok (.iconst 5, 1) := by decide +kernel
theorem dX1_addPlayer_9 : decode cX1_addPlayer 9 = .ok (.if_icmp .ge 10, 3) := by decide +kernel
theorem dX1_addPlayer_12 : decode cX1_addPlayer 12 = .ok (.aload_n 0, 1) := by decide +kernel
theorem dX1_addPlayer_13 : decode cX1_addPlayer 13 = .ok (.getfield 42, 3) := by decide +kernel
theorem dX1_addPlayer_16 : decode cX1_addPlayer 16 = .ok (.ifCond .eq 13, 3) := by decide +kernel
theorem dX1_addPlayer_19 : decode cX1_addPlayer 19 = .ok (.new 53, 3) := by decide +kernel
theorem dX1_addPlayer_22 : decode cX1_addPlayer 22 = .ok (.dup, 1) := by decide +kernel
theorem dX1_addPlayer_23 : decode cX1_addPlayer 23 = .ok (.ldc 55, 2) := by decide +kernel
theorem dX1_addPlayer_25 : decode cX1_addPlayer 25 = .ok (.invokespecial 57, 3) := by decide +kernel
theorem dX1_addPlayer_28 : decode cX1_addPlayer 28 = .ok (.athrow, 1) := by decide +kernel
theorem dX1_addPlayer_29 : decode cX1_addPlayer 29 = .ok (.aload_n 0, 1) := by decide +kernel
theorem dX1_addPlayer_30 : decode cX1_addPlayer 30 = .ok (.getfield 26, 3) := by decide +kernel
theorem dX1_addPlayer_33 : decode cX1_addPlayer 33 = .ok (.istore_n 2, 1) := by decide +kernel
theorem dX1_addPlayer_34 : decode cX1_addPlayer 34 = .ok (.aload_n 0, 1) := by decide +kernel
theorem dX1_addPlayer_35 : decode cX1_addPlayer 35 = .ok (.dup, 1) := by decide +kernel
theorem dX1_addPlayer_36 : decode cX1_addPlayer 36 = .ok (.getfield 26, 3) := by decide +kernel
theorem dX1_addPlayer_39 : decode cX1_addPlayer 39 = .ok (.iconst 1, 1) := by decide +kernel
theorem dX1_addPlayer_40 : decode cX1_addPlayer 40 = .ok (.iadd, 1) := by decide +kernel
theorem dX1_addPlayer_41 : decode cX1_addPlayer 41 = .ok (.putfield 26, 3) := by decide +kernel
theorem dX1_addPlayer_44 : decode cX1_addPlayer 44 = .ok (.aload_n 0, 1) := by decide +kernel
theorem dX1_addPlayer_45 : decode cX1_addPlayer 45 = .ok (.aload_n 0, 1) := by decide +kernel
theorem dX1_addPlayer_46 : decode cX1_addPlayer 46 = .ok (.getfield 30, 3) := by decide +kernel
theorem dX1_addPlayer_49 : decode cX1_addPlayer 49 = .ok (.iload_n 1, 1) := by decide +kernel
theorem dX1_addPlayer_50 : decode cX1_addPlayer 50 = .ok (.iload_n 2, 1) := by decide +kernel
theorem dX1_addPlayer_51 : decode cX1_addPlayer 51 = .ok (.invokestatic 60, 3) := by decide +kernel
theorem dX1_addPlayer_54 : decode cX1_addPlayer 54 = .ok (.ishl, 1) := by decide +kernel
theorem dX1_addPlayer_55 : decode cX1_addPlayer 55 = .ok (.ior, 1) := by decide +kernel
theorem dX1_addPlayer_56 : decode cX1_addPlayer 56 = .ok (.putfield 30, 3) := by decide +kernel
theorem dX1_addPlayer_59 : decode cX1_addPlayer 59 = .ok (.aload_n 0, 1) := by decide +kernel
theorem dX1_addPlayer_60 : decode cX1_addPlayer 60 = .ok (.iload_n 2, 1) := by decide +kernel
theorem dX1_addPlayer_61 : decode cX1_addPlayer 61 = .ok (.invokevirtual 64, 3) := by decide +kernel
theorem dX1_addPlayer_64 : decode cX1_addPlayer 64 = .ok (.aload_n 0, 1) := by decide +kernel
theorem dX1_addPlayer_65 : decode cX1_addPlayer 65 = .ok (.iload_n 2, 1) := by decide +kernel
theorem dX1_addPlayer_66 : decode cX1_addPlayer 66 = .ok (.invokevirtual 67, 3) := by decide +kernel
theorem dX1_addPlayer_69 : decode cX1_addPlayer 69 = .ok (.iload_n 2, 1) := by decide +kernel
theorem dX1_addPlayer_70 : decode cX1_addPlayer 70 = .ok (.ireturn, 1) := by decide +kernel
theorem dX1_turnAway_0 : decode cX1_turnAway 0 = .ok (.aload_n 0, 1) := by decide +kernel
theorem dX1_turnAway_1 : decode cX1_turnAway 1 = .ok (.iload_n 1, 1) := by decide +kernel
theorem dX1_turnAway_2 : decode cX1_turnAway 2 = .ok (.iload_n 2, 1) := by decide +kernel
theorem dX1_turnAway_3 : decode cX1_turnAway 3 = .ok (.invokevirtual 70, 3) := by decide +kernel
theorem dX1_turnAway_6 : decode cX1_turnAway 6 = .ok (.aload_n 0, 1) := by decide +kernel
theorem dX1_turnAway_7 : decode cX1_turnAway 7 = .ok (.iload_n 1, 1) := by decide +kernel
theorem dX1_turnAway_8 : decode cX1_turnAway 8 = .ok (.aload_n 0, 1) := by decide +kernel
theorem dX1_turnAway_9 : decode cX1_turnAway 9 = .ok (.iload_n 1, 1) := by decide +kernel
theorem dX1_turnAway_10 : decode cX1_turnAway 10 = .ok (.invokevirtual 74, 3) := by decide +kernel
theorem dX1_turnAway_13 : decode cX1_turnAway 13 = .ok (.iload_n 2, 1) := by decide +kernel
theorem dX1_turnAway_14 : decode cX1_turnAway 14 = .ok (.invokestatic 77, 3) := by decide +kernel
theorem dX1_turnAway_17 : decode cX1_turnAway 17 = .ok (.ixor, 1) := by decide +kernel
theorem dX1_turnAway_18 : decode cX1_turnAway 18 = .ok (.invokevirtual 80, 3) := by decide +kernel
theorem dX1_turnAway_21 : decode cX1_turnAway 21 = .ok (.aload_n 0, 1) := by decide +kernel
theorem dX1_turnAway_22 : decode cX1_turnAway 22 = .ok (.iload_n 1, 1) := by decide +kernel
theorem dX1_turnAway_23 : decode cX1_turnAway 23 = .ok (.iload_n 2, 1) := by decide +kernel
theorem dX1_turnAway_24 : decode cX1_turnAway 24 = .ok (.invokevirtual 83, 3) := by decide +kernel
theorem dX1_turnAway_27 : decode cX1_turnAway 27 = .ok (.ireturn, 1) := by decide +kernel
theorem dX1_borrow_0 : decode cX1_borrow 0 = .ok (.aload_n 0, 1) := by decide +kernel
theorem dX1_borrow_1 : decode cX1_borrow 1 = .ok (.iload_n 1, 1) := by decide +kernel
theorem dX1_borrow_2 : decode cX1_borrow 2 = .ok (.iload_n 2, 1) := by decide +kernel
theorem dX1_borrow_3 : decode cX1_borrow 3 = .ok (.invokevirtual 70, 3) := by decide +kernel
theorem dX1_borrow_6 : decode cX1_borrow 6 = .ok (.aload_n 0, 1) := by decide +kernel
theorem dX1_borrow_7 : decode cX1_borrow 7 = .ok (.iconst 1, 1) := by decide +kernel
theorem dX1_borrow_8 : decode cX1_borrow 8 = .ok (.putfield 42, 3) := by decide +kernel
theorem dX1_borrow_11 : decode cX1_borrow 11 = .ok (.aload_n 0, 1) := by decide +kernel
theorem dX1_borrow_12 : decode cX1_borrow 12 = .ok (.aload_n 0, 1) := by decide +kernel
theorem dX1_borrow_13 : decode cX1_borrow 13 = .ok (.getfield 30, 3) := by decide +kernel
theorem dX1_borrow_16 : decode cX1_borrow 16 = .ok (.iload_n 1, 1) := by decide +kernel
theorem dX1_borrow_17 : decode cX1_borrow 17 = .ok (.iload_n 2, 1) := by decide +kernel
theorem dX1_borrow_18 : decode cX1_borrow 18 = .ok (.invokestatic 87, 3) := by decide +kernel
theorem dX1_borrow_21 : decode cX1_borrow 21 = .ok (.putfield 30, 3) := by decide +kernel
theorem dX1_borrow_24 : decode cX1_borrow 24 = .ok (.iconst 0, 1) := by decide +kernel
theorem dX1_borrow_25 : decode cX1_borrow 25 = .ok (.istore_n 3, 1) := by decide +kernel
theorem dX1_borrow_26 : decode cX1_borrow 26 = .ok (.iload_n 3, 1) := by decide +kernel
theorem dX1_borrow_27 : decode cX1_borrow 27 = .ok (.aload_n 0, 1) := by decide +kernel
theorem dX1_borrow_28 : decode cX1_borrow 28 = .ok (.getfield 10, 3) := by decide +kernel
theorem dX1_borrow_31 : decode cX1_borrow 31 = .ok (.invokevirtual 91, 3) := by decide +kernel
theorem dX1_borrow_34 : decode cX1_borrow 34 = .ok (.if_icmp .ge 30, 3) := by decide +kernel
theorem dX1_borrow_37 : decode cX1_borrow 37 = .ok (.aload_n 0, 1) := by decide +kernel
theorem dX1_borrow_38 : decode cX1_borrow 38 = .ok (.getfield 10, 3) := by decide +kernel
theorem dX1_borrow_41 : decode cX1_borrow 41 = .ok (.iload_n 3, 1) := by decide +kernel
theorem dX1_borrow_42 : decode cX1_borrow 42 = .ok (.aload_n 0, 1) := by decide +kernel
theorem dX1_borrow_43 : decode cX1_borrow 43 = .ok (.getfield 10, 3) := by decide +kernel
theorem dX1_borrow_46 : decode cX1_borrow 46 = .ok (.iload_n 3, 1) := by decide +kernel
theorem dX1_borrow_47 : decode cX1_borrow 47 = .ok (.invokevirtual 95, 3) := by decide +kernel
theorem dX1_borrow_50 : decode cX1_borrow 50 = .ok (.iload_n 1, 1) := by decide +kernel
theorem dX1_borrow_51 : decode cX1_borrow 51 = .ok (.iload_n 2, 1) := by decide +kernel
theorem dX1_borrow_52 : decode cX1_borrow 52 = .ok (.invokestatic 87, 3) := by decide +kernel
theorem dX1_borrow_55 : decode cX1_borrow 55 = .ok (.invokevirtual 98, 3) := by decide +kernel
theorem dX1_borrow_58 : decode cX1_borrow 58 = .ok (.iinc 3 1, 3) := by decide +kernel
theorem dX1_borrow_61 : decode cX1_borrow 61 = .ok (.goto (-35), 3) := by decide +kernel
theorem dX1_borrow_64 : decode cX1_borrow 64 = .ok (.aload_n 0, 1) := by decide +kernel
theorem dX1_borrow_65 : decode cX1_borrow 65 = .ok (.getfield 30, 3) := by decide +kernel
theorem dX1_borrow_68 : decode cX1_borrow 68 = .ok (.iload_n 1, 1) := by decide +kernel
theorem dX1_borrow_69 : decode cX1_borrow 69 = .ok (.invokestatic 101, 3) := by decide +kernel
theorem dX1_borrow_72 : decode cX1_borrow 72 = .ok (.ireturn, 1) := by decide +kernel
theorem dX1_takeTurn_0 : decode cX1_takeTurn 0 = .ok (.aload_n 0, 1) := by decide +kernel
theorem dX1_takeTurn_1 : decode cX1_takeTurn 1 = .ok (.invokevirtual 105, 3) := by decide +kernel
theorem dX1_takeTurn_4 : decode cX1_takeTurn 4 = .ok (.aload_n 0, 1) := by decide +kernel
theorem dX1_takeTurn_5 : decode cX1_takeTurn 5 = .ok (.getfield 33, 3) := by decide +kernel
theorem dX1_takeTurn_8 : decode cX1_takeTurn 8 = .ok (.istore_n 1, 1) := by decide +kernel
theorem dX1_takeTurn_9 : decode cX1_takeTurn 9 = .ok (.aload_n 0, 1) := by decide +kernel
theorem dX1_takeTurn_10 : decode cX1_takeTurn 10 = .ok (.aload_n 0, 1) := by decide +kernel
theorem dX1_takeTurn_11 : decode cX1_takeTurn 11 = .ok (.getfield 10, 3) := by decide +kernel
theorem dX1_takeTurn_14 : decode cX1_takeTurn 14 = .ok (.iload_n 1, 1) := by decide +kernel
theorem dX1_takeTurn_15 : decode cX1_takeTurn 15 = .ok (.invokevirtual 108, 3) := by decide +kernel
theorem dX1_takeTurn_18 : decode cX1_takeTurn 18 = .ok (.istore_n 2, 1) := by decide +kernel
theorem dX1_takeTurn_19 : decode cX1_takeTurn 19 = .ok (.aload_n 0, 1) := by decide +kernel
theorem dX1_takeTurn_20 : decode cX1_takeTurn 20 = .ok (.iconst 1, 1) := by decide +kernel
theorem dX1_takeTurn_21 : decode cX1_takeTurn 21 = .ok (.putfield 42, 3) := by decide +kernel
theorem dX1_takeTurn_24 : decode cX1_takeTurn 24 = .ok (.aload_n 0, 1) := by decide +kernel
theorem dX1_takeTurn_25 : decode cX1_takeTurn 25 = .ok (.aload_n 0, 1) := by decide +kernel
theorem dX1_takeTurn_26 : decode cX1_takeTurn 26 = .ok (.iload_n 1, 1) := by decide +kernel
theorem dX1_takeTurn_27 : decode cX1_takeTurn 27 = .ok (.invokevirtual 112, 3) := by decide +kernel
theorem dX1_takeTurn_30 : decode cX1_takeTurn 30 = .ok (.putfield 33, 3) := by decide +kernel
theorem dX1_takeTurn_33 : decode cX1_takeTurn 33 = .ok (.aload_n 0, 1) := by decide +kernel
theorem dX1_takeTurn_34 : decode cX1_takeTurn 34 = .ok (.dup, 1) := by decide +kernel
theorem dX1_takeTurn_35 : decode cX1_takeTurn 35 = .ok (.getfield 36, 3) := by decide +kernel
theorem dX1_takeTurn_38 : decode cX1_takeTurn 38 = .ok (.iconst 1, 1) := by decide +kernel
theorem dX1_takeTurn_39 : decode cX1_takeTurn 39 = .ok (.iadd, 1) := by decide +kernel
theorem dX1_takeTurn_40 : decode cX1_takeTurn 40 = .ok (.putfield 36, 3) := by decide +kernel
theorem dX1_takeTurn_43 : decode cX1_takeTurn 43 = .ok (.iload_n 2, 1) := by decide +kernel
theorem dX1_takeTurn_44 : decode cX1_takeTurn 44 = .ok (.ifCond .eq 12, 3) := by decide +kernel
theorem dX1_takeTurn_47 : decode cX1_takeTurn 47 = .ok (.aload_n 0, 1) := by decide +kernel
theorem dX1_takeTurn_48 : decode cX1_takeTurn 48 = .ok (.getfield 30, 3) := by decide +kernel
theorem dX1_takeTurn_51 : decode cX1_takeTurn 51 = .ok (.iload_n 1, 1) := by decide +kernel
theorem dX1_takeTurn_52 : decode cX1_takeTurn 52 = .ok (.invokestatic 101, 3) := by decide +kernel
theorem dX1_takeTurn_55 : decode cX1_takeTurn 55 = .ok (.ireturn, 1) := by decide +kernel
theorem dX1_takeTurn_56 : decode cX1_takeTurn 56 = .ok (.aload_n 0, 1) := by decide +kernel
theorem dX1_takeTurn_57 : decode cX1_takeTurn 57 = .ok (.dup, 1) := by decide +kernel
theorem dX1_takeTurn_58 : decode cX1_takeTurn 58 = .ok (.getfield 39, 3) := by decide +kernel
theorem dX1_takeTurn_61 : decode cX1_takeTurn 61 = .ok (.iconst 1, 1) := by decide +kernel
theorem dX1_takeTurn_62 : decode cX1_takeTurn 62 = .ok (.iadd, 1) := by decide +kernel
theorem dX1_takeTurn_63 : decode cX1_takeTurn 63 = .ok (.putfield 39, 3) := by decide +kernel
theorem dX1_takeTurn_66 : decode cX1_takeTurn 66 = .ok (.iconst (-1), 1) := by decide +kernel
theorem dX1_takeTurn_67 : decode cX1_takeTurn 67 = .ok (.ireturn, 1) := by decide +kernel
theorem dX1_sayAtLeast_0 : decode cX1_sayAtLeast 0 = .ok (.iload_n 1, 1) := by decide +kernel
theorem dX1_sayAtLeast_1 : decode cX1_sayAtLeast 1 = .ok (.invokestatic 50, 3) := by decide +kernel
theorem dX1_sayAtLeast_4 : decode cX1_sayAtLeast 4 = .ok (.iload_n 2, 1) := by decide +kernel
theorem dX1_sayAtLeast_5 : decode cX1_sayAtLeast 5 = .ok (.invokestatic 115, 3) := by decide +kernel
theorem dX1_sayAtLeast_8 : decode cX1_sayAtLeast 8 = .ok (.aload_n 0, 1) := by decide +kernel
theorem dX1_sayAtLeast_9 : decode cX1_sayAtLeast 9 = .ok (.iload_n 1, 1) := by decide +kernel
theorem dX1_sayAtLeast_10 : decode cX1_sayAtLeast 10 = .ok (.iload_n 2, 1) := by decide +kernel
theorem dX1_sayAtLeast_11 : decode cX1_sayAtLeast 11 = .ok (.iconst 5, 1) := by decide +kernel
theorem dX1_sayAtLeast_12 : decode cX1_sayAtLeast 12 = .ok (.invokevirtual 118, 3) := by decide +kernel
theorem dX1_sayAtLeast_15 : decode cX1_sayAtLeast 15 = .ok (.ireturn, 1) := by decide +kernel
theorem dX1_sayAtMost_0 : decode cX1_sayAtMost 0 = .ok (.iload_n 1, 1) := by decide +kernel
theorem dX1_sayAtMost_1 : decode cX1_sayAtMost 1 = .ok (.invokestatic 50, 3) := by decide +kernel
theorem dX1_sayAtMost_4 : decode cX1_sayAtMost 4 = .ok (.iload_n 2, 1) := by decide +kernel
theorem dX1_sayAtMost_5 : decode cX1_sayAtMost 5 = .ok (.invokestatic 115, 3) := by decide +kernel
theorem dX1_sayAtMost_8 : decode cX1_sayAtMost 8 = .ok (.aload_n 0, 1) := by decide +kernel
theorem dX1_sayAtMost_9 : decode cX1_sayAtMost 9 = .ok (.iload_n 1, 1) := by decide +kernel
theorem dX1_sayAtMost_10 : decode cX1_sayAtMost 10 = .ok (.iconst 0, 1) := by decide +kernel
theorem dX1_sayAtMost_11 : decode cX1_sayAtMost 11 = .ok (.iload_n 2, 1) := by decide +kernel
theorem dX1_sayAtMost_12 : decode cX1_sayAtMost 12 = .ok (.invokevirtual 118, 3) := by decide +kernel
theorem dX1_sayAtMost_15 : decode cX1_sayAtMost 15 = .ok (.ireturn, 1) := by decide +kernel
theorem dX1_begin_0 : decode cX1_begin 0 = .ok (.aload_n 0, 1) := by decide +kernel
theorem dX1_begin_1 : decode cX1_begin 1 = .ok (.getfield 10, 3) := by decide +kernel
theorem dX1_begin_4 : decode cX1_begin 4 = .ok (.invokevirtual 121, 3) := by decide +kernel
theorem dX1_begin_7 : decode cX1_begin 7 = .ok (.aload_n 0, 1) := by decide +kernel
theorem dX1_begin_8 : decode cX1_begin 8 = .ok (.getfield 10, 3) := by decide +kernel
theorem dX1_begin_11 : decode cX1_begin 11 = .ok (.iconst 0, 1) := by decide +kernel
theorem dX1_begin_12 : decode cX1_begin 12 = .ok (.invokevirtual 46, 3) := by decide +kernel
theorem dX1_begin_15 : decode cX1_begin 15 = .ok (.iconst 0, 1) := by decide +kernel
theorem dX1_begin_16 : decode cX1_begin 16 = .ok (.istore_n 1, 1) := by decide +kernel
theorem dX1_begin_17 : decode cX1_begin 17 = .ok (.iload_n 1, 1) := by decide +kernel
theorem dX1_begin_18 : decode cX1_begin 18 = .ok (.aload_n 0, 1) := by decide +kernel
theorem dX1_begin_19 : decode cX1_begin 19 = .ok (.getfield 26, 3) := by decide +kernel
theorem dX1_begin_22 : decode cX1_begin 22 = .ok (.if_icmp .ge 14, 3) := by decide +kernel
theorem dX1_begin_25 : decode cX1_begin 25 = .ok (.aload_n 0, 1) := by decide +kernel
theorem dX1_begin_26 : decode cX1_begin 26 = .ok (.iload_n 1, 1) := by decide +kernel
theorem dX1_begin_27 : decode cX1_begin 27 = .ok (.invokevirtual 67, 3) := by decide +kernel
theorem dX1_begin_30 : decode cX1_begin 30 = .ok (.iinc 1 1, 3) := by decide +kernel
theorem dX1_begin_33 : decode cX1_begin 33 = .ok (.goto (-16), 3) := by decide +kernel
theorem dX1_begin_36 : decode cX1_begin 36 = .ok (.aload_n 0, 1) := by decide +kernel
theorem dX1_begin_37 : decode cX1_begin 37 = .ok (.iconst 0, 1) := by decide +kernel
theorem dX1_begin_38 : decode cX1_begin 38 = .ok (.putfield 33, 3) := by decide +kernel
theorem dX1_begin_41 : decode cX1_begin 41 = .ok (.aload_n 0, 1) := by decide +kernel
theorem dX1_begin_42 : decode cX1_begin 42 = .ok (.iconst 0, 1) := by decide +kernel
theorem dX1_begin_43 : decode cX1_begin 43 = .ok (.putfield 36, 3) := by decide +kernel
theorem dX1_begin_46 : decode cX1_begin 46 = .ok (.aload_n 0, 1) := by decide +kernel
theorem dX1_begin_47 : decode cX1_begin 47 = .ok (.iconst 0, 1) := by decide +kernel
theorem dX1_begin_48 : decode cX1_begin 48 = .ok (.putfield 39, 3) := by decide +kernel
theorem dX1_begin_51 : decode cX1_begin 51 = .ok (.aload_n 0, 1) := by decide +kernel
theorem dX1_begin_52 : decode cX1_begin 52 = .ok (.iconst 0, 1) := by decide +kernel
theorem dX1_begin_53 : decode cX1_begin 53 = .ok (.putfield 42, 3) := by decide +kernel
theorem dX1_begin_56 : decode cX1_begin 56 = .ok (.aload_n 0, 1) := by decide +kernel
theorem dX1_begin_57 : decode cX1_begin 57 = .ok (.getfield 10, 3) := by decide +kernel
theorem dX1_begin_60 : decode cX1_begin 60 = .ok (.invokevirtual 91, 3) := by decide +kernel
theorem dX1_begin_63 : decode cX1_begin 63 = .ok (.ireturn, 1) := by decide +kernel
theorem dX1_players_0 : decode cX1_players 0 = .ok (.aload_n 0, 1) := by decide +kernel
theorem dX1_players_1 : decode cX1_players 1 = .ok (.getfield 26, 3) := by decide +kernel
theorem dX1_players_4 : decode cX1_players 4 = .ok (.ireturn, 1) := by decide +kernel
theorem dX1_turnsTaken_0 : decode cX1_turnsTaken 0 = .ok (.aload_n 0, 1) := by decide +kernel
theorem dX1_turnsTaken_1 : decode cX1_turnsTaken 1 = .ok (.getfield 36, 3) := by decide +kernel
theorem dX1_turnsTaken_4 : decode cX1_turnsTaken 4 = .ok (.ireturn, 1) := by decide +kernel
theorem dX1_silentTurns_0 : decode cX1_silentTurns 0 = .ok (.aload_n 0, 1) := by decide +kernel
theorem dX1_silentTurns_1 : decode cX1_silentTurns 1 = .ok (.getfield 39, 3) := by decide +kernel
theorem dX1_silentTurns_4 : decode cX1_silentTurns 4 = .ok (.ireturn, 1) := by decide +kernel
theorem dX1_playerInTurn_0 : decode cX1_playerInTurn 0 = .ok (.aload_n 0, 1) := by decide +kernel
theorem dX1_playerInTurn_1 : decode cX1_playerInTurn 1 = .ok (.getfield 26, 3) := by decide +kernel
theorem dX1_playerInTurn_4 : decode cX1_playerInTurn 4 = .ok (.ifCond .le 10, 3) := by decide +kernel
theorem dX1_playerInTurn_7 : decode cX1_playerInTurn 7 = .ok (.aload_n 0, 1) := by decide +kernel
theorem dX1_playerInTurn_8 : decode cX1_playerInTurn 8 = .ok (.getfield 33, 3) := by decide +kernel
theorem dX1_playerInTurn_11 : decode cX1_playerInTurn 11 = .ok (.goto 4, 3) := by decide +kernel
theorem dX1_playerInTurn_14 : decode cX1_playerInTurn 14 = .ok (.iconst (-1), 1) := by decide +kernel
theorem dX1_playerInTurn_15 : decode cX1_playerInTurn 15 = .ok (.ireturn, 1) := by decide +kernel
theorem dX1_hatOf_0 : decode cX1_hatOf 0 = .ok (.aload_n 0, 1) := by decide +kernel
theorem dX1_hatOf_1 : decode cX1_hatOf 1 = .ok (.iload_n 1, 1) := by decide +kernel
theorem dX1_hatOf_2 : decode cX1_hatOf 2 = .ok (.invokevirtual 124, 3) := by decide +kernel
theorem dX1_hatOf_5 : decode cX1_hatOf 5 = .ok (.aload_n 0, 1) := by decide +kernel
theorem dX1_hatOf_6 : decode cX1_hatOf 6 = .ok (.getfield 30, 3) := by decide +kernel
theorem dX1_hatOf_9 : decode cX1_hatOf 9 = .ok (.iload_n 1, 1) := by decide +kernel
theorem dX1_hatOf_10 : decode cX1_hatOf 10 = .ok (.invokestatic 101, 3) := by decide +kernel
theorem dX1_hatOf_13 : decode cX1_hatOf 13 = .ok (.ireturn, 1) := by decide +kernel
theorem dX1_sees_0 : decode cX1_sees 0 = .ok (.aload_n 0, 1) := by decide +kernel
theorem dX1_sees_1 : decode cX1_sees 1 = .ok (.iload_n 1, 1) := by decide +kernel
theorem dX1_sees_2 : decode cX1_sees 2 = .ok (.invokevirtual 124, 3) := by decide +kernel
theorem dX1_sees_5 : decode cX1_sees 5 = .ok (.aload_n 0, 1) := by decide +kernel
theorem dX1_sees_6 : decode cX1_sees 6 = .ok (.iload_n 2, 1) := by decide +kernel
theorem dX1_sees_7 : decode cX1_sees 7 = .ok (.invokevirtual 124, 3) := by decide +kernel
theorem dX1_sees_10 : decode cX1_sees 10 = .ok (.aload_n 0, 1) := by decide +kernel
theorem dX1_sees_11 : decode cX1_sees 11 = .ok (.iload_n 1, 1) := by decide +kernel
theorem dX1_sees_12 : decode cX1_sees 12 = .ok (.iload_n 2, 1) := by decide +kernel
theorem dX1_sees_13 : decode cX1_sees 13 = .ok (.invokevirtual 83, 3) := by decide +kernel
theorem dX1_sees_16 : decode cX1_sees 16 = .ok (.ireturn, 1) := by decide +kernel
theorem dX1_hatsOf_0 : decode cX1_hatsOf 0 = .ok (.iload_n 1, 1) := by decide +kernel
theorem dX1_hatsOf_1 : decode cX1_hatsOf 1 = .ok (.invokestatic 50, 3) := by decide +kernel
theorem dX1_hatsOf_4 : decode cX1_hatsOf 4 = .ok (.aload_n 0, 1) := by decide +kernel
theorem dX1_hatsOf_5 : decode cX1_hatsOf 5 = .ok (.aload_n 0, 1) := by decide +kernel
theorem dX1_hatsOf_6 : decode cX1_hatsOf 6 = .ok (.getfield 30, 3) := by decide +kernel
theorem dX1_hatsOf_9 : decode cX1_hatsOf 9 = .ok (.iload_n 1, 1) := by decide +kernel
theorem dX1_hatsOf_10 : decode cX1_hatsOf 10 = .ok (.invokevirtual 127, 3) := by decide +kernel
theorem dX1_hatsOf_13 : decode cX1_hatsOf 13 = .ok (.ireturn, 1) := by decide +kernel
theorem dX1_openWays_0 : decode cX1_openWays 0 = .ok (.aload_n 0, 1) := by decide +kernel
theorem dX1_openWays_1 : decode cX1_openWays 1 = .ok (.getfield 10, 3) := by decide +kernel
theorem dX1_openWays_4 : decode cX1_openWays 4 = .ok (.invokevirtual 91, 3) := by decide +kernel
theorem dX1_openWays_7 : decode cX1_openWays 7 = .ok (.ireturn, 1) := by decide +kernel
theorem dX1_openWaysWith_0 : decode cX1_openWaysWith 0 = .ok (.aload_n 0, 1) := by decide +kernel
theorem dX1_openWaysWith_1 : decode cX1_openWaysWith 1 = .ok (.iload_n 1, 1) := by decide +kernel
theorem dX1_openWaysWith_2 : decode cX1_openWaysWith 2 = .ok (.invokevirtual 124, 3) := by decide +kernel
theorem dX1_openWaysWith_5 : decode cX1_openWaysWith 5 = .ok (.iload_n 2, 1) := by decide +kernel
theorem dX1_openWaysWith_6 : decode cX1_openWaysWith 6 = .ok (.invokestatic 50, 3) := by decide +kernel
theorem dX1_openWaysWith_9 : decode cX1_openWaysWith 9 = .ok (.aload_n 0, 1) := by decide +kernel
theorem dX1_openWaysWith_10 : decode cX1_openWaysWith 10 = .ok (.iload_n 1, 1) := by decide +kernel
theorem dX1_openWaysWith_11 : decode cX1_openWaysWith 11 = .ok (.iload_n 2, 1) := by decide +kernel
theorem dX1_openWaysWith_12 : decode cX1_openWaysWith 12 = .ok (.invokevirtual 130, 3) := by decide +kernel
theorem dX1_openWaysWith_15 : decode cX1_openWaysWith 15 = .ok (.ireturn, 1) := by decide +kernel
theorem dX1_isKnownToAll_0 : decode cX1_isKnownToAll 0 = .ok (.aload_n 0, 1) := by decide +kernel
theorem dX1_isKnownToAll_1 : decode cX1_isKnownToAll 1 = .ok (.iload_n 1, 1) := by decide +kernel
theorem dX1_isKnownToAll_2 : decode cX1_isKnownToAll 2 = .ok (.invokevirtual 124, 3) := by decide +kernel
theorem dX1_isKnownToAll_5 : decode cX1_isKnownToAll 5 = .ok (.aload_n 0, 1) := by decide +kernel
theorem dX1_isKnownToAll_6 : decode cX1_isKnownToAll 6 = .ok (.iload_n 1, 1) := by decide +kernel
theorem dX1_isKnownToAll_7 : decode cX1_isKnownToAll 7 = .ok (.aload_n 0, 1) := by decide +kernel
theorem dX1_isKnownToAll_8 : decode cX1_isKnownToAll 8 = .ok (.getfield 30, 3) := by decide +kernel
theorem dX1_isKnownToAll_11 : decode cX1_isKnownToAll 11 = .ok (.iload_n 1, 1) := by decide +kernel
theorem dX1_isKnownToAll_12 : decode cX1_isKnownToAll 12 = .ok (.invokestatic 101, 3) := by decide +kernel
theorem dX1_isKnownToAll_15 : decode cX1_isKnownToAll 15 = .ok (.invokevirtual 130, 3) := by decide +kernel
theorem dX1_isKnownToAll_18 : decode cX1_isKnownToAll 18 = .ok (.aload_n 0, 1) := by decide +kernel
theorem dX1_isKnownToAll_19 : decode cX1_isKnownToAll 19 = .ok (.getfield 10, 3) := by decide +kernel
theorem dX1_isKnownToAll_22 : decode cX1_isKnownToAll 22 = .ok (.invokevirtual 91, 3) := by decide +kernel
theorem dX1_isKnownToAll_25 : decode cX1_isKnownToAll 25 = .ok (.if_icmp .ne 7, 3) := by decide +kernel
theorem dX1_isKnownToAll_28 : decode cX1_isKnownToAll 28 = .ok (.iconst 1, 1) := by decide +kernel
theorem dX1_isKnownToAll_29 : decode cX1_isKnownToAll 29 = .ok (.goto 4, 3) := by decide +kernel
theorem dX1_isKnownToAll_32 : decode cX1_isKnownToAll 32 = .ok (.iconst 0, 1) := by decide +kernel
theorem dX1_isKnownToAll_33 : decode cX1_isKnownToAll 33 = .ok (.ireturn, 1) := by decide +kernel
theorem dX1_possibleWays_0 : decode cX1_possibleWays 0 = .ok (.aload_n 0, 1) := by decide +kernel
theorem dX1_possibleWays_1 : decode cX1_possibleWays 1 = .ok (.iload_n 1, 1) := by decide +kernel
theorem dX1_possibleWays_2 : decode cX1_possibleWays 2 = .ok (.invokevirtual 124, 3) := by decide +kernel
theorem dX1_possibleWays_5 : decode cX1_possibleWays 5 = .ok (.aload_n 0, 1) := by decide +kernel
theorem dX1_possibleWays_6 : decode cX1_possibleWays 6 = .ok (.iload_n 1, 1) := by decide +kernel
theorem dX1_possibleWays_7 : decode cX1_possibleWays 7 = .ok (.invokevirtual 133, 3) := by decide +kernel
theorem dX1_possibleWays_10 : decode cX1_possibleWays 10 = .ok (.ireturn, 1) := by decide +kernel
theorem dX1_holdsPossible_0 : decode cX1_holdsPossible 0 = .ok (.aload_n 0, 1) := by decide +kernel
theorem dX1_holdsPossible_1 : decode cX1_holdsPossible 1 = .ok (.iload_n 1, 1) := by decide +kernel
theorem dX1_holdsPossible_2 : decode cX1_holdsPossible 2 = .ok (.invokevirtual 124, 3) := by decide +kernel
theorem dX1_holdsPossible_5 : decode cX1_holdsPossible 5 = .ok (.aload_n 0, 1) := by decide +kernel
theorem dX1_holdsPossible_6 : decode cX1_holdsPossible 6 = .ok (.iload_n 2, 1) := by decide +kernel
theorem dX1_holdsPossible_7 : decode cX1_holdsPossible 7 = .ok (.invokevirtual 124, 3) := by decide +kernel
theorem dX1_holdsPossible_10 : decode cX1_holdsPossible 10 = .ok (.iload_n 3, 1) := by decide +kernel
theorem dX1_holdsPossible_11 : decode cX1_holdsPossible 11 = .ok (.invokestatic 50, 3) := by decide +kernel
theorem dX1_holdsPossible_14 : decode cX1_holdsPossible 14 = .ok (.aload_n 0, 1) := by decide +kernel
theorem dX1_holdsPossible_15 : decode cX1_holdsPossible 15 = .ok (.aload_n 0, 1) := by decide +kernel
theorem dX1_holdsPossible_16 : decode cX1_holdsPossible 16 = .ok (.getfield 10, 3) := by decide +kernel
theorem dX1_holdsPossible_19 : decode cX1_holdsPossible 19 = .ok (.iload_n 1, 1) := by decide +kernel
theorem dX1_holdsPossible_20 : decode cX1_holdsPossible 20 = .ok (.iload_n 2, 1) := by decide +kernel
theorem dX1_holdsPossible_21 : decode cX1_holdsPossible 21 = .ok (.invokevirtual 136, 3) := by decide +kernel
theorem dX1_holdsPossible_24 : decode cX1_holdsPossible 24 = .ok (.iconst 1, 1) := by decide +kernel
theorem dX1_holdsPossible_25 : decode cX1_holdsPossible 25 = .ok (.iload_n 3, 1) := by decide +kernel
theorem dX1_holdsPossible_26 : decode cX1_holdsPossible 26 = .ok (.ishl, 1) := by decide +kernel
theorem dX1_holdsPossible_27 : decode cX1_holdsPossible 27 = .ok (.iand, 1) := by decide +kernel
theorem dX1_holdsPossible_28 : decode cX1_holdsPossible 28 = .ok (.ifCond .eq 7, 3) := by decide +kernel
theorem dX1_holdsPossible_31 : decode cX1_holdsPossible 31 = .ok (.iconst 1, 1) := by decide +kernel
theorem dX1_holdsPossible_32 : decode cX1_holdsPossible 32 = .ok (.goto 4, 3) := by decide +kernel
theorem dX1_holdsPossible_35 : decode cX1_holdsPossible 35 = .ok (.iconst 0, 1) := by decide +kernel
theorem dX1_holdsPossible_36 : decode cX1_holdsPossible 36 = .ok (.ireturn, 1) := by decide +kernel
theorem dX1_isCertain_0 : decode cX1_isCertain 0 = .ok (.aload_n 0, 1) := by decide +kernel
theorem dX1_isCertain_1 : decode cX1_isCertain 1 = .ok (.iload_n 1, 1) := by decide +kernel
theorem dX1_isCertain_2 : decode cX1_isCertain 2 = .ok (.invokevirtual 124, 3) := by decide +kernel
theorem dX1_isCertain_5 : decode cX1_isCertain 5 = .ok (.aload_n 0, 1) := by decide +kernel
theorem dX1_isCertain_6 : decode cX1_isCertain 6 = .ok (.aload_n 0, 1) := by decide +kernel
theorem dX1_isCertain_7 : decode cX1_isCertain 7 = .ok (.getfield 10, 3) := by decide +kernel
theorem dX1_isCertain_10 : decode cX1_isCertain 10 = .ok (.iload_n 1, 1) := by decide +kernel
theorem dX1_isCertain_11 : decode cX1_isCertain 11 = .ok (.invokevirtual 140, 3) := by decide +kernel
theorem dX1_isCertain_14 : decode cX1_isCertain 14 = .ok (.ireturn, 1) := by decide +kernel
theorem dX1_knowsHatOf_0 : decode cX1_knowsHatOf 0 = .ok (.aload_n 0, 1) := by decide +kernel
theorem dX1_knowsHatOf_1 : decode cX1_knowsHatOf 1 = .ok (.iload_n 1, 1) := by decide +kernel
theorem dX1_knowsHatOf_2 : decode cX1_knowsHatOf 2 = .ok (.invokevirtual 124, 3) := by decide +kernel
theorem dX1_knowsHatOf_5 : decode cX1_knowsHatOf 5 = .ok (.aload_n 0, 1) := by decide +kernel
theorem dX1_knowsHatOf_6 : decode cX1_knowsHatOf 6 = .ok (.iload_n 2, 1) := by decide +kernel
theorem dX1_knowsHatOf_7 : decode cX1_knowsHatOf 7 = .ok (.invokevirtual 124, 3) := by decide +kernel
theorem dX1_knowsHatOf_10 : decode cX1_knowsHatOf 10 = .ok (.aload_n 0, 1) := by decide +kernel
theorem dX1_knowsHatOf_11 : decode cX1_knowsHatOf 11 = .ok (.aload_n 0, 1) := by decide +kernel
theorem dX1_knowsHatOf_12 : decode cX1_knowsHatOf 12 = .ok (.getfield 10, 3) := by decide +kernel
theorem dX1_knowsHatOf_15 : decode cX1_knowsHatOf 15 = .ok (.iload_n 1, 1) := by decide +kernel
theorem dX1_knowsHatOf_16 : decode cX1_knowsHatOf 16 = .ok (.iload_n 2, 1) := by decide +kernel
theorem dX1_knowsHatOf_17 : decode cX1_knowsHatOf 17 = .ok (.invokevirtual 136, 3) := by decide +kernel
theorem dX1_knowsHatOf_20 : decode cX1_knowsHatOf 20 = .ok (.invokestatic 143, 3) := by decide +kernel
theorem dX1_knowsHatOf_23 : decode cX1_knowsHatOf 23 = .ok (.ireturn, 1) := by decide +kernel
theorem dX1_knowsCertain_0 : decode cX1_knowsCertain 0 = .ok (.aload_n 0, 1) := by decide +kernel
theorem dX1_knowsCertain_1 : decode cX1_knowsCertain 1 = .ok (.iload_n 1, 1) := by decide +kernel
theorem dX1_knowsCertain_2 : decode cX1_knowsCertain 2 = .ok (.invokevirtual 124, 3) := by decide +kernel
theorem dX1_knowsCertain_5 : decode cX1_knowsCertain 5 = .ok (.aload_n 0, 1) := by decide +kernel
theorem dX1_knowsCertain_6 : decode cX1_knowsCertain 6 = .ok (.iload_n 2, 1) := by decide +kernel
theorem dX1_knowsCertain_7 : decode cX1_knowsCertain 7 = .ok (.invokevirtual 124, 3) := by decide +kernel
theorem dX1_knowsCertain_10 : decode cX1_knowsCertain 10 = .ok (.aload_n 0, 1) := by decide +kernel
theorem dX1_knowsCertain_11 : decode cX1_knowsCertain 11 = .ok (.aload_n 0, 1) := by decide +kernel
theorem dX1_knowsCertain_12 : decode cX1_knowsCertain 12 = .ok (.getfield 10, 3) := by decide +kernel
theorem dX1_knowsCertain_15 : decode cX1_knowsCertain 15 = .ok (.iload_n 2, 1) := by decide +kernel
theorem dX1_knowsCertain_16 : decode cX1_knowsCertain 16 = .ok (.invokevirtual 147, 3) := by decide +kernel
theorem dX1_knowsCertain_19 : decode cX1_knowsCertain 19 = .ok (.aload_n 0, 1) := by decide +kernel
theorem dX1_knowsCertain_20 : decode cX1_knowsCertain 20 = .ok (.iload_n 1, 1) := by decide +kernel
theorem dX1_knowsCertain_21 : decode cX1_knowsCertain 21 = .ok (.invokevirtual 74, 3) := by decide +kernel
theorem dX1_knowsCertain_24 : decode cX1_knowsCertain 24 = .ok (.istore_n 3, 1) := by decide +kernel
theorem dX1_knowsCertain_25 : decode cX1_knowsCertain 25 = .ok (.iconst 0, 1) := by decide +kernel
theorem dX1_knowsCertain_26 : decode cX1_knowsCertain 26 = .ok (.istore 4, 2) := by decide +kernel
theorem dX1_knowsCertain_28 : decode cX1_knowsCertain 28 = .ok (.iload 4, 2) := by decide +kernel
theorem dX1_knowsCertain_30 : decode cX1_knowsCertain 30 = .ok (.aload_n 0, 1) := by decide +kernel
theorem dX1_knowsCertain_31 : decode cX1_knowsCertain 31 = .ok (.getfield 10, 3) := by decide +kernel
theorem dX1_knowsCertain_34 : decode cX1_knowsCertain 34 = .ok (.invokevirtual 91, 3) := by decide +kernel
theorem dX1_knowsCertain_37 : decode cX1_knowsCertain 37 = .ok (.if_icmp .ge 42, 3) := by decide +kernel
theorem dX1_knowsCertain_40 : decode cX1_knowsCertain 40 = .ok (.aload_n 0, 1) := by decide +kernel
theorem dX1_knowsCertain_41 : decode cX1_knowsCertain 41 = .ok (.getfield 10, 3) := by decide +kernel
theorem dX1_knowsCertain_44 : decode cX1_knowsCertain 44 = .ok (.iload 4, 2) := by decide +kernel
theorem dX1_knowsCertain_46 : decode cX1_knowsCertain 46 = .ok (.invokevirtual 95, 3) := by decide +kernel
theorem dX1_knowsCertain_49 : decode cX1_knowsCertain 49 = .ok (.istore 5, 2) := by decide +kernel
theorem dX1_knowsCertain_51 : decode cX1_knowsCertain 51 = .ok (.aload_n 0, 1) := by decide +kernel
theorem dX1_knowsCertain_52 : decode cX1_knowsCertain 52 = .ok (.iload 5, 2) := by decide +kernel
theorem dX1_knowsCertain_54 : decode cX1_knowsCertain 54 = .ok (.iload_n 3, 1) := by decide +kernel
theorem dX1_knowsCertain_55 : decode cX1_knowsCertain 55 = .ok (.invokevirtual 151, 3) := by decide +kernel
theorem dX1_knowsCertain_58 : decode cX1_knowsCertain 58 = .ok (.ifCond .eq 15, 3) := by decide +kernel
theorem dX1_knowsCertain_61 : decode cX1_knowsCertain 61 = .ok (.aload_n 0, 1) := by decide +kernel
theorem dX1_knowsCertain_62 : decode cX1_knowsCertain 62 = .ok (.iload 5, 2) := by decide +kernel
theorem dX1_knowsCertain_64 : decode cX1_knowsCertain 64 = .ok (.iload_n 2, 1) := by decide +kernel
theorem dX1_knowsCertain_65 : decode cX1_knowsCertain 65 = .ok (.invokevirtual 154, 3) := by decide +kernel
theorem dX1_knowsCertain_68 : decode cX1_knowsCertain 68 = .ok (.ifCond .ne 5, 3) := by decide +kernel
theorem dX1_knowsCertain_71 : decode cX1_knowsCertain 71 = .ok (.iconst 0, 1) := by decide +kernel
theorem dX1_knowsCertain_72 : decode cX1_knowsCertain 72 = .ok (.ireturn, 1) := by decide +kernel
theorem dX1_knowsCertain_73 : decode cX1_knowsCertain 73 = .ok (.iinc 4 1, 3) := by decide +kernel
theorem dX1_knowsCertain_76 : decode cX1_knowsCertain 76 = .ok (.goto (-48), 3) := by decide +kernel
theorem dX1_knowsCertain_79 : decode cX1_knowsCertain 79 = .ok (.iconst 1, 1) := by decide +kernel
theorem dX1_knowsCertain_80 : decode cX1_knowsCertain 80 = .ok (.ireturn, 1) := by decide +kernel
theorem dX1_certainPlayers_0 : decode cX1_certainPlayers 0 = .ok (.aload_n 0, 1) := by decide +kernel
theorem dX1_certainPlayers_1 : decode cX1_certainPlayers 1 = .ok (.aload_n 0, 1) := by decide +kernel
theorem dX1_certainPlayers_2 : decode cX1_certainPlayers 2 = .ok (.getfield 10, 3) := by decide +kernel
theorem dX1_certainPlayers_5 : decode cX1_certainPlayers 5 = .ok (.invokevirtual 157, 3) := by decide +kernel
theorem dX1_certainPlayers_8 : decode cX1_certainPlayers 8 = .ok (.ireturn, 1) := by decide +kernel
theorem dX1_certainIfTold_0 : decode cX1_certainIfTold 0 = .ok (.aload_n 0, 1) := by decide +kernel
theorem dX1_certainIfTold_1 : decode cX1_certainIfTold 1 = .ok (.iload_n 1, 1) := by decide +kernel
theorem dX1_certainIfTold_2 : decode cX1_certainIfTold 2 = .ok (.invokevirtual 124, 3) := by decide +kernel
theorem dX1_certainIfTold_5 : decode cX1_certainIfTold 5 = .ok (.aload_n 0, 1) := by decide +kernel
theorem dX1_certainIfTold_6 : decode cX1_certainIfTold 6 = .ok (.getfield 16, 3) := by decide +kernel
theorem dX1_certainIfTold_9 : decode cX1_certainIfTold 9 = .ok (.aload_n 0, 1) := by decide +kernel
theorem dX1_certainIfTold_10 : decode cX1_certainIfTold 10 = .ok (.getfield 10, 3) := by decide +kernel
theorem dX1_certainIfTold_13 : decode cX1_certainIfTold 13 = .ok (.invokevirtual 161, 3) := by decide +kernel
theorem dX1_certainIfTold_16 : decode cX1_certainIfTold 16 = .ok (.aload_n 0, 1) := by decide +kernel
theorem dX1_certainIfTold_17 : decode cX1_certainIfTold 17 = .ok (.getfield 16, 3) := by decide +kernel
theorem dX1_certainIfTold_20 : decode cX1_certainIfTold 20 = .ok (.iload_n 1, 1) := by decide +kernel
theorem dX1_certainIfTold_21 : decode cX1_certainIfTold 21 = .ok (.aload_n 0, 1) := by decide +kernel
theorem dX1_certainIfTold_22 : decode cX1_certainIfTold 22 = .ok (.getfield 30, 3) := by decide +kernel
theorem dX1_certainIfTold_25 : decode cX1_certainIfTold 25 = .ok (.iload_n 1, 1) := by decide +kernel
theorem dX1_certainIfTold_26 : decode cX1_certainIfTold 26 = .ok (.invokestatic 101, 3) := by decide +kernel
theorem dX1_certainIfTold_29 : decode cX1_certainIfTold 29 = .ok (.invokestatic 171, 3) := by decide +kernel
theorem dX1_certainIfTold_32 : decode cX1_certainIfTold 32 = .ok (.aload_n 0, 1) := by decide +kernel
theorem dX1_certainIfTold_33 : decode cX1_certainIfTold 33 = .ok (.aload_n 0, 1) := by decide +kernel
theorem dX1_certainIfTold_34 : decode cX1_certainIfTold 34 = .ok (.getfield 16, 3) := by decide +kernel
theorem dX1_certainIfTold_37 : decode cX1_certainIfTold 37 = .ok (.invokevirtual 157, 3) := by decide +kernel
theorem dX1_certainIfTold_40 : decode cX1_certainIfTold 40 = .ok (.ireturn, 1) := by decide +kernel
theorem dX1_meanPossible_0 : decode cX1_meanPossible 0 = .ok (.aload_n 0, 1) := by decide +kernel
theorem dX1_meanPossible_1 : decode cX1_meanPossible 1 = .ok (.getfield 26, 3) := by decide +kernel
theorem dX1_meanPossible_4 : decode cX1_meanPossible 4 = .ok (.ifCond .gt 5, 3) := by decide +kernel
theorem dX1_meanPossible_7 : decode cX1_meanPossible 7 = .ok (.dconst 0, 1) := by decide +kernel
theorem dX1_meanPossible_8 : decode cX1_meanPossible 8 = .ok (.dreturn, 1) := by decide +kernel
theorem dX1_meanPossible_9 : decode cX1_meanPossible 9 = .ok (.iconst 0, 1) := by decide +kernel
theorem dX1_meanPossible_10 : decode cX1_meanPossible 10 = .ok (.istore_n 1, 1) := by decide +kernel
theorem dX1_meanPossible_11 : decode cX1_meanPossible 11 = .ok (.iconst 0, 1) := by decide +kernel
theorem dX1_meanPossible_12 : decode cX1_meanPossible 12 = .ok (.istore_n 2, 1) := by decide +kernel
theorem dX1_meanPossible_13 : decode cX1_meanPossible 13 = .ok (.iload_n 2, 1) := by decide +kernel
theorem dX1_meanPossible_14 : decode cX1_meanPossible 14 = .ok (.aload_n 0, 1) := by decide +kernel
theorem dX1_meanPossible_15 : decode cX1_meanPossible 15 = .ok (.getfield 26, 3) := by decide +kernel
theorem dX1_meanPossible_18 : decode cX1_meanPossible 18 = .ok (.if_icmp .ge 17, 3) := by decide +kernel
theorem dX1_meanPossible_21 : decode cX1_meanPossible 21 = .ok (.iload_n 1, 1) := by decide +kernel
theorem dX1_meanPossible_22 : decode cX1_meanPossible 22 = .ok (.aload_n 0, 1) := by decide +kernel
theorem dX1_meanPossible_23 : decode cX1_meanPossible 23 = .ok (.iload_n 2, 1) := by decide +kernel
theorem dX1_meanPossible_24 : decode cX1_meanPossible 24 = .ok (.invokevirtual 133, 3) := by decide +kernel
theorem dX1_meanPossible_27 : decode cX1_meanPossible 27 = .ok (.iadd, 1) := by decide +kernel
theorem dX1_meanPossible_28 : decode cX1_meanPossible 28 = .ok (.istore_n 1, 1) := by decide +kernel
theorem dX1_meanPossible_29 : decode cX1_meanPossible 29 = .ok (.iinc 2 1, 3) := by decide +kernel
theorem dX1_meanPossible_32 : decode cX1_meanPossible 32 = .ok (.goto (-19), 3) := by decide +kernel
theorem dX1_meanPossible_35 : decode cX1_meanPossible 35 = .ok (.iload_n 1, 1) := by decide +kernel
theorem dX1_meanPossible_36 : decode cX1_meanPossible 36 = .ok (.i2d, 1) := by decide +kernel
theorem dX1_meanPossible_37 : decode cX1_meanPossible 37 = .ok (.aload_n 0, 1) := by decide +kernel
theorem dX1_meanPossible_38 : decode cX1_meanPossible 38 = .ok (.getfield 26, 3) := by decide +kernel
theorem dX1_meanPossible_41 : decode cX1_meanPossible 41 = .ok (.i2d, 1) := by decide +kernel
theorem dX1_meanPossible_42 : decode cX1_meanPossible 42 = .ok (.ddiv, 1) := by decide +kernel
theorem dX1_meanPossible_43 : decode cX1_meanPossible 43 = .ok (.dreturn, 1) := by decide +kernel
theorem dX1_requirePlayer_0 : decode cX1_requirePlayer 0 = .ok (.iload_n 1, 1) := by decide +kernel
theorem dX1_requirePlayer_1 : decode cX1_requirePlayer 1 = .ok (.ifCond .lt 11, 3) := by decide +kernel
theorem dX1_requirePlayer_4 : decode cX1_requirePlayer 4 = .ok (.iload_n 1, 1) := by decide +kernel
theorem dX1_requirePlayer_5 : decode cX1_requirePlayer 5 = .ok (.aload_n 0, 1) := by decide +kernel
theorem dX1_requirePlayer_6 : decode cX1_requirePlayer 6 = .ok (.getfield 26, 3) := by decide +kernel
theorem dX1_requirePlayer_9 : decode cX1_requirePlayer 9 = .ok (.if_icmp .lt 13, 3) := by decide +kernel
theorem dX1_requirePlayer_12 : decode cX1_requirePlayer 12 = .ok (.new 209, 3) := by decide +kernel
theorem dX1_requirePlayer_15 : decode cX1_requirePlayer 15 = .ok (.dup, 1) := by decide +kernel
theorem dX1_requirePlayer_16 : decode cX1_requirePlayer 16 = .ok (.ldc 211, 2) := by decide +kernel
theorem dX1_requirePlayer_18 : decode cX1_requirePlayer 18 = .ok (.invokespecial 213, 3) := by decide +kernel
theorem dX1_requirePlayer_21 : decode cX1_requirePlayer 21 = .ok (.athrow, 1) := by decide +kernel
theorem dX1_requirePlayer_22 : decode cX1_requirePlayer 22 = .ok (.return_, 1) := by decide +kernel
theorem dX1_requireTwoPlayers_0 : decode cX1_requireTwoPlayers 0 = .ok (.aload_n 0, 1) := by decide +kernel
theorem dX1_requireTwoPlayers_1 : decode cX1_requireTwoPlayers 1 = .ok (.iload_n 1, 1) := by decide +kernel
theorem dX1_requireTwoPlayers_2 : decode cX1_requireTwoPlayers 2 = .ok (.invokevirtual 124, 3) := by decide +kernel
theorem dX1_requireTwoPlayers_5 : decode cX1_requireTwoPlayers 5 = .ok (.aload_n 0, 1) := by decide +kernel
theorem dX1_requireTwoPlayers_6 : decode cX1_requireTwoPlayers 6 = .ok (.iload_n 2, 1) := by decide +kernel
theorem dX1_requireTwoPlayers_7 : decode cX1_requireTwoPlayers 7 = .ok (.invokevirtual 124, 3) := by decide +kernel
theorem dX1_requireTwoPlayers_10 : decode cX1_requireTwoPlayers 10 = .ok (.iload_n 1, 1) := by decide +kernel
theorem dX1_requireTwoPlayers_11 : decode cX1_requireTwoPlayers 11 = .ok (.iload_n 2, 1) := by decide +kernel
theorem dX1_requireTwoPlayers_12 : decode cX1_requireTwoPlayers 12 = .ok (.if_icmp .ne 13, 3) := by decide +kernel
theorem dX1_requireTwoPlayers_15 : decode cX1_requireTwoPlayers 15 = .ok (.new 214, 3) := by decide +kernel
theorem dX1_requireTwoPlayers_18 : decode cX1_requireTwoPlayers 18 = .ok (.dup, 1) := by decide +kernel
theorem dX1_requireTwoPlayers_19 : decode cX1_requireTwoPlayers 19 = .ok (.ldc 216, 2) := by decide +kernel
theorem dX1_requireTwoPlayers_21 : decode cX1_requireTwoPlayers 21 = .ok (.invokespecial 218, 3) := by decide +kernel
theorem dX1_requireTwoPlayers_24 : decode cX1_requireTwoPlayers 24 = .ok (.athrow, 1) := by decide +kernel
theorem dX1_requireTwoPlayers_25 : decode cX1_requireTwoPlayers 25 = .ok (.return_, 1) := by decide +kernel
theorem dX1_requireSomePlayer_0 : decode cX1_requireSomePlayer 0 = .ok (.aload_n 0, 1) := by decide +kernel
theorem dX1_requireSomePlayer_1 : decode cX1_requireSomePlayer 1 = .ok (.getfield 26, 3) := by decide +kernel
theorem dX1_requireSomePlayer_4 : decode cX1_requireSomePlayer 4 = .ok (.ifCond .gt 13, 3) := by decide +kernel
theorem dX1_requireSomePlayer_7 : decode cX1_requireSomePlayer 7 = .ok (.new 53, 3) := by decide +kernel
theorem dX1_requireSomePlayer_10 : decode cX1_requireSomePlayer 10 = .ok (.dup, 1) := by decide +kernel
theorem dX1_requireSomePlayer_11 : decode cX1_requireSomePlayer 11 = .ok (.ldc 219, 2) := by decide +kernel
theorem dX1_requireSomePlayer_13 : decode cX1_requireSomePlayer 13 = .ok (.invokespecial 57, 3) := by decide +kernel
theorem dX1_requireSomePlayer_16 : decode cX1_requireSomePlayer 16 = .ok (.athrow, 1) := by decide +kernel
theorem dX1_requireSomePlayer_17 : decode cX1_requireSomePlayer 17 = .ok (.return_, 1) := by decide +kernel
theorem dX1_requireColour_0 : decode cX1_requireColour 0 = .ok (.iload_n 0, 1) := by decide +kernel
theorem dX1_requireColour_1 : decode cX1_requireColour 1 = .ok (.ifCond .lt 8, 3) := by decide +kernel
theorem dX1_requireColour_4 : decode cX1_requireColour 4 = .ok (.iload_n 0, 1) := by decide +kernel
theorem dX1_requireColour_5 : decode cX1_requireColour 5 = .ok (.iconst 3, 1) := by decide +kernel
theorem dX1_requireColour_6 : decode cX1_requireColour 6 = .ok (.if_icmp .lt 13, 3) := by decide +kernel
theorem dX1_requireColour_9 : decode cX1_requireColour 9 = .ok (.new 209, 3) := by decide +kernel
theorem dX1_requireColour_12 : decode cX1_requireColour 12 = .ok (.dup, 1) := by decide +kernel
theorem dX1_requireColour_13 : decode cX1_requireColour 13 = .ok (.ldc 221, 2) := by decide +kernel
theorem dX1_requireColour_15 : decode cX1_requireColour 15 = .ok (.invokespecial 213, 3) := by decide +kernel
theorem dX1_requireColour_18 : decode cX1_requireColour 18 = .ok (.athrow, 1) := by decide +kernel
theorem dX1_requireColour_19 : decode cX1_requireColour 19 = .ok (.return_, 1) := by decide +kernel
theorem dX1_requireMany_0 : decode cX1_requireMany 0 = .ok (.iload_n 0, 1) := by decide +kernel
theorem dX1_requireMany_1 : decode cX1_requireMany 1 = .ok (.ifCond .lt 8, 3) := by decide +kernel
theorem dX1_requireMany_4 : decode cX1_requireMany 4 = .ok (.iload_n 0, 1) := by decide +kernel
theorem dX1_requireMany_5 : decode cX1_requireMany 5 = .ok (.iconst 5, 1) := by decide +kernel
theorem dX1_requireMany_6 : decode cX1_requireMany 6 = .ok (.if_icmp .le 13, 3) := by decide +kernel
theorem dX1_requireMany_9 : decode cX1_requireMany 9 = .ok (.new 214, 3) := by decide +kernel
theorem dX1_requireMany_12 : decode cX1_requireMany 12 = .ok (.dup, 1) := by decide +kernel
theorem dX1_requireMany_13 : decode cX1_requireMany 13 = .ok (.ldc 223, 2) := by decide +kernel
theorem dX1_requireMany_15 : decode cX1_requireMany 15 = .ok (.invokespecial 218, 3) := by decide +kernel
theorem dX1_requireMany_18 : decode cX1_requireMany 18 = .ok (.athrow, 1) := by decide +kernel
theorem dX1_requireMany_19 : decode cX1_requireMany 19 = .ok (.return_, 1) := by decide +kernel
theorem dX1_shiftOf_0 : decode cX1_shiftOf 0 = .ok (.iload_n 0, 1) := by decide +kernel
theorem dX1_shiftOf_1 : decode cX1_shiftOf 1 = .ok (.iconst 2, 1) := by decide +kernel
theorem dX1_shiftOf_2 : decode cX1_shiftOf 2 = .ok (.imul, 1) := by decide +kernel
theorem dX1_shiftOf_3 : decode cX1_shiftOf 3 = .ok (.ireturn, 1) := by decide +kernel
theorem dX1_hatMask_0 : decode cX1_hatMask 0 = .ok (.iconst 3, 1) := by decide +kernel
theorem dX1_hatMask_1 : decode cX1_hatMask 1 = .ok (.iload_n 0, 1) := by decide +kernel
theorem dX1_hatMask_2 : decode cX1_hatMask 2 = .ok (.invokestatic 60, 3) := by decide +kernel
theorem dX1_hatMask_5 : decode cX1_hatMask 5 = .ok (.ishl, 1) := by decide +kernel
theorem dX1_hatMask_6 : decode cX1_hatMask 6 = .ok (.ireturn, 1) := by decide +kernel
theorem dX1_colourIn_0 : decode cX1_colourIn 0 = .ok (.iload_n 0, 1) := by decide +kernel
theorem dX1_colourIn_1 : decode cX1_colourIn 1 = .ok (.iload_n 1, 1) := by decide +kernel
theorem dX1_colourIn_2 : decode cX1_colourIn 2 = .ok (.iconst 2, 1) := by decide +kernel
theorem dX1_colourIn_3 : decode cX1_colourIn 3 = .ok (.imul, 1) := by decide +kernel
theorem dX1_colourIn_4 : decode cX1_colourIn 4 = .ok (.ishr, 1) := by decide +kernel
theorem dX1_colourIn_5 : decode cX1_colourIn 5 = .ok (.iconst 3, 1) := by decide +kernel
theorem dX1_colourIn_6 : decode cX1_colourIn 6 = .ok (.iand, 1) := by decide +kernel
theorem dX1_colourIn_7 : decode cX1_colourIn 7 = .ok (.ireturn, 1) := by decide +kernel
theorem dX1_exchanged_0 : decode cX1_exchanged 0 = .ok (.iload_n 0, 1) := by decide +kernel
theorem dX1_exchanged_1 : decode cX1_exchanged 1 = .ok (.iload_n 1, 1) := by decide +kernel
theorem dX1_exchanged_2 : decode cX1_exchanged 2 = .ok (.invokestatic 101, 3) := by decide +kernel
theorem dX1_exchanged_5 : decode cX1_exchanged 5 = .ok (.iload_n 0, 1) := by decide +kernel
theorem dX1_exchanged_6 : decode cX1_exchanged 6 = .ok (.iload_n 2, 1) := by decide +kernel
theorem dX1_exchanged_7 : decode cX1_exchanged 7 = .ok (.invokestatic 101, 3) := by decide +kernel
theorem dX1_exchanged_10 : decode cX1_exchanged 10 = .ok (.ixor, 1) := by decide +kernel
theorem dX1_exchanged_11 : decode cX1_exchanged 11 = .ok (.istore_n 3, 1) := by decide +kernel
theorem dX1_exchanged_12 : decode cX1_exchanged 12 = .ok (.iload_n 0, 1) := by decide +kernel
theorem dX1_exchanged_13 : decode cX1_exchanged 13 = .ok (.iload_n 3, 1) := by decide +kernel
theorem dX1_exchanged_14 : decode cX1_exchanged 14 = .ok (.iload_n 1, 1) := by decide +kernel
theorem dX1_exchanged_15 : decode cX1_exchanged 15 = .ok (.invokestatic 60, 3) := by decide +kernel
theorem dX1_exchanged_18 : decode cX1_exchanged 18 = .ok (.ishl, 1) := by decide +kernel
theorem dX1_exchanged_19 : decode cX1_exchanged 19 = .ok (.ixor, 1) := by decide +kernel
theorem dX1_exchanged_20 : decode cX1_exchanged 20 = .ok (.iload_n 3, 1) := by decide +kernel
theorem dX1_exchanged_21 : decode cX1_exchanged 21 = .ok (.iload_n 2, 1) := by decide +kernel
theorem dX1_exchanged_22 : decode cX1_exchanged 22 = .ok (.invokestatic 60, 3) := by decide +kernel
theorem dX1_exchanged_25 : decode cX1_exchanged 25 = .ok (.ishl, 1) := by decide +kernel
theorem dX1_exchanged_26 : decode cX1_exchanged 26 = .ok (.ixor, 1) := by decide +kernel
theorem dX1_exchanged_27 : decode cX1_exchanged 27 = .ok (.ireturn, 1) := by decide +kernel
theorem dX1_hatsIn_0 : decode cX1_hatsIn 0 = .ok (.iconst 0, 1) := by decide +kernel
theorem dX1_hatsIn_1 : decode cX1_hatsIn 1 = .ok (.istore_n 3, 1) := by decide +kernel
theorem dX1_hatsIn_2 : decode cX1_hatsIn 2 = .ok (.iconst 0, 1) := by decide +kernel
theorem dX1_hatsIn_3 : decode cX1_hatsIn 3 = .ok (.istore 4, 2) := by decide +kernel
theorem dX1_hatsIn_5 : decode cX1_hatsIn 5 = .ok (.iload 4, 2) := by decide +kernel
theorem dX1_hatsIn_7 : decode cX1_hatsIn 7 = .ok (.aload_n 0, 1) := by decide +kernel
theorem dX1_hatsIn_8 : decode cX1_hatsIn 8 = .ok (.getfield 26, 3) := by decide +kernel
theorem dX1_hatsIn_11 : decode cX1_hatsIn 11 = .ok (.if_icmp .ge 22, 3) := by decide +kernel
theorem dX1_hatsIn_14 : decode cX1_hatsIn 14 = .ok (.iload_n 1, 1) := by decide +kernel
theorem dX1_hatsIn_15 : decode cX1_hatsIn 15 = .ok (.iload 4, 2) := by decide +kernel
theorem dX1_hatsIn_17 : decode cX1_hatsIn 17 = .ok (.invokestatic 101, 3) := by decide +kernel
theorem dX1_hatsIn_20 : decode cX1_hatsIn 20 = .ok (.iload_n 2, 1) := by decide +kernel
theorem dX1_hatsIn_21 : decode cX1_hatsIn 21 = .ok (.if_icmp .ne 6, 3) := by decide +kernel
theorem dX1_hatsIn_24 : decode cX1_hatsIn 24 = .ok (.iinc 3 1, 3) := by decide +kernel
theorem dX1_hatsIn_27 : decode cX1_hatsIn 27 = .ok (.iinc 4 1, 3) := by decide +kernel
theorem dX1_hatsIn_30 : decode cX1_hatsIn 30 = .ok (.goto (-25), 3) := by decide +kernel
theorem dX1_hatsIn_33 : decode cX1_hatsIn 33 = .ok (.iload_n 3, 1) := by decide +kernel
theorem dX1_hatsIn_34 : decode cX1_hatsIn 34 = .ok (.ireturn, 1) := by decide +kernel
theorem dX1_seenHatsOf_0 : decode cX1_seenHatsOf 0 = .ok (.iload_n 1, 1) := by decide +kernel
theorem dX1_seenHatsOf_1 : decode cX1_seenHatsOf 1 = .ok (.ifCond .lt 21, 3) := by decide +kernel
theorem dX1_seenHatsOf_4 : decode cX1_seenHatsOf 4 = .ok (.iload_n 1, 1) := by decide +kernel
theorem dX1_seenHatsOf_5 : decode cX1_seenHatsOf 5 = .ok (.aload_n 0, 1) := by decide +kernel
theorem dX1_seenHatsOf_6 : decode cX1_seenHatsOf 6 = .ok (.getfield 19, 3) := by decide +kernel
theorem dX1_seenHatsOf_9 : decode cX1_seenHatsOf 9 = .ok (.arraylength, 1) := by decide +kernel
theorem dX1_seenHatsOf_10 : decode cX1_seenHatsOf 10 = .ok (.if_icmp .ge 12, 3) := by decide +kernel
theorem dX1_seenHatsOf_13 : decode cX1_seenHatsOf 13 = .ok (.aload_n 0, 1) := by decide +kernel
theorem dX1_seenHatsOf_14 : decode cX1_seenHatsOf 14 = .ok (.getfield 19, 3) := by decide +kernel
theorem dX1_seenHatsOf_17 : decode cX1_seenHatsOf 17 = .ok (.iload_n 1, 1) := by decide +kernel
theorem dX1_seenHatsOf_18 : decode cX1_seenHatsOf 18 = .ok (.iaload, 1) := by decide +kernel
theorem dX1_seenHatsOf_19 : decode cX1_seenHatsOf 19 = .ok (.goto 4, 3) := by decide +kernel
theorem dX1_seenHatsOf_22 : decode cX1_seenHatsOf 22 = .ok (.iconst 0, 1) := by decide +kernel
theorem dX1_seenHatsOf_23 : decode cX1_seenHatsOf 23 = .ok (.ireturn, 1) := by decide +kernel
theorem dX1_setSeenHatsOf_0 : decode cX1_setSeenHatsOf 0 = .ok (.iload_n 1, 1) := by decide +kernel
theorem dX1_setSeenHatsOf_1 : decode cX1_setSeenHatsOf 1 = .ok (.ifCond .lt 19, 3) := by decide +kernel
theorem dX1_setSeenHatsOf_4 : decode cX1_setSeenHatsOf 4 = .ok (.iload_n 1, 1) := by decide +kernel
theorem dX1_setSeenHatsOf_5 : decode cX1_setSeenHatsOf 5 = .ok (.aload_n 0, 1) := by decide +kernel
theorem dX1_setSeenHatsOf_6 : decode cX1_setSeenHatsOf 6 = .ok (.getfield 19, 3) := by decide +kernel
theorem dX1_setSeenHatsOf_9 : decode cX1_setSeenHatsOf 9 = .ok (.arraylength, 1) := by decide +kernel
theorem dX1_setSeenHatsOf_10 : decode cX1_setSeenHatsOf 10 = .ok (.if_icmp .ge 10, 3) := by decide +kernel
theorem dX1_setSeenHatsOf_13 : decode cX1_setSeenHatsOf 13 = .ok (.aload_n 0, 1) := by decide +kernel
theorem dX1_setSeenHatsOf_14 : decode cX1_setSeenHatsOf 14 = .ok (.getfield 19, 3) := by decide +kernel
theorem dX1_setSeenHatsOf_17 : decode cX1_setSeenHatsOf 17 = .ok (.iload_n 1, 1) := by decide +kernel
theorem dX1_setSeenHatsOf_18 : decode cX1_setSeenHatsOf 18 = .ok (.iload_n 2, 1) := by decide +kernel
theorem dX1_setSeenHatsOf_19 : decode cX1_setSeenHatsOf 19 = .ok (.iastore, 1) := by decide +kernel
theorem dX1_setSeenHatsOf_20 : decode cX1_setSeenHatsOf 20 = .ok (.return_, 1) := by decide +kernel
theorem dX1_seesHat_0 : decode cX1_seesHat 0 = .ok (.aload_n 0, 1) := by decide +kernel
theorem dX1_seesHat_1 : decode cX1_seesHat 1 = .ok (.iload_n 1, 1) := by decide +kernel
theorem dX1_seesHat_2 : decode cX1_seesHat 2 = .ok (.invokevirtual 74, 3) := by decide +kernel
theorem dX1_seesHat_5 : decode cX1_seesHat 5 = .ok (.iload_n 2, 1) := by decide +kernel
theorem dX1_seesHat_6 : decode cX1_seesHat 6 = .ok (.invokestatic 77, 3) := by decide +kernel
theorem dX1_seesHat_9 : decode cX1_seesHat 9 = .ok (.iand, 1) := by decide +kernel
theorem dX1_seesHat_10 : decode cX1_seesHat 10 = .ok (.ifCond .eq 7, 3) := by decide +kernel
theorem dX1_seesHat_13 : decode cX1_seesHat 13 = .ok (.iconst 1, 1) := by decide +kernel
theorem dX1_seesHat_14 : decode cX1_seesHat 14 = .ok (.goto 4, 3) := by decide +kernel
theorem dX1_seesHat_17 : decode cX1_seesHat 17 = .ok (.iconst 0, 1) := by decide +kernel
theorem dX1_seesHat_18 : decode cX1_seesHat 18 = .ok (.ireturn, 1) := by decide +kernel
theorem dX1_lookAtEachOther_0 : decode cX1_lookAtEachOther 0 = .ok (.iconst 0, 1) := by decide +kernel
theorem dX1_lookAtEachOther_1 : decode cX1_lookAtEachOther 1 = .ok (.istore_n 2, 1) := by decide +kernel
theorem dX1_lookAtEachOther_2 : decode cX1_lookAtEachOther 2 = .ok (.iconst 0, 1) := by decide +kernel
theorem dX1_lookAtEachOther_3 : decode cX1_lookAtEachOther 3 = .ok (.istore_n 3, 1) := by decide +kernel
theorem dX1_lookAtEachOther_4 : decode cX1_lookAtEachOther 4 = .ok (.iload_n 3, 1) := by decide +kernel
theorem dX1_lookAtEachOther_5 : decode cX1_lookAtEachOther 5 = .ok (.iload_n 1, 1) := by decide +kernel
theorem dX1_lookAtEachOther_6 : decode cX1_lookAtEachOther 6 = .ok (.if_icmp .ge 31, 3) := by decide +kernel
theorem dX1_lookAtEachOther_9 : decode cX1_lookAtEachOther 9 = .ok (.aload_n 0, 1) := by decide +kernel
theorem dX1_lookAtEachOther_10 : decode cX1_lookAtEachOther 10 = .ok (.iload_n 3, 1) := by decide +kernel
theorem dX1_lookAtEachOther_11 : decode cX1_lookAtEachOther 11 = .ok (.aload_n 0, 1) := by decide +kernel
theorem dX1_lookAtEachOther_12 : decode cX1_lookAtEachOther 12 = .ok (.iload_n 3, 1) := by decide +kernel
theorem dX1_lookAtEachOther_13 : decode cX1_lookAtEachOther 13 = .ok (.invokevirtual 74, 3) := by decide +kernel
theorem dX1_lookAtEachOther_16 : decode cX1_lookAtEachOther 16 = .ok (.iload_n 1, 1) := by decide +kernel
theorem dX1_lookAtEachOther_17 : decode cX1_lookAtEachOther 17 = .ok (.invokestatic 77, 3) := by decide +kernel
theorem dX1_lookAtEachOther_20 : decode cX1_lookAtEachOther 20 = .ok (.ior, 1) := by decide +kernel
theorem dX1_lookAtEachOther_21 : decode cX1_lookAtEachOther 21 = .ok (.invokevirtual 80, 3) := by decide +kernel
theorem dX1_lookAtEachOther_24 : decode cX1_lookAtEachOther 24 = .ok (.iload_n 2, 1) := by decide +kernel
theorem dX1_lookAtEachOther_25 : decode cX1_lookAtEachOther 25 = .ok (.iload_n 3, 1) := by decide +kernel
theorem dX1_lookAtEachOther_26 : decode cX1_lookAtEachOther 26 = .ok (.invokestatic 77, 3) := by decide +kernel
theorem dX1_lookAtEachOther_29 : decode cX1_lookAtEachOther 29 = .ok (.ior, 1) := by decide +kernel
theorem dX1_lookAtEachOther_30 : decode cX1_lookAtEachOther 30 = .ok (.istore_n 2, 1) := by decide +kernel
theorem dX1_lookAtEachOther_31 : decode cX1_lookAtEachOther 31 = .ok (.iinc 3 1, 3) := by decide +kernel
theorem dX1_lookAtEachOther_34 : decode cX1_lookAtEachOther 34 = .ok (.goto (-30), 3) := by decide +kernel
theorem dX1_lookAtEachOther_37 : decode cX1_lookAtEachOther 37 = .ok (.aload_n 0, 1) := by decide +kernel
theorem dX1_lookAtEachOther_38 : decode cX1_lookAtEachOther 38 = .ok (.iload_n 1, 1) := by decide +kernel
theorem dX1_lookAtEachOther_39 : decode cX1_lookAtEachOther 39 = .ok (.iload_n 2, 1) := by decide +kernel
theorem dX1_lookAtEachOther_40 : decode cX1_lookAtEachOther 40 = .ok (.invokevirtual 80, 3) := by decide +kernel
theorem dX1_lookAtEachOther_43 : decode cX1_lookAtEachOther 43 = .ok (.return_, 1) := by decide +kernel
theorem dX1_viewOf_0 : decode cX1_viewOf 0 = .ok (.iload_n 1, 1) := by decide +kernel
theorem dX1_viewOf_1 : decode cX1_viewOf 1 = .ok (.aload_n 0, 1) := by decide +kernel
theorem dX1_viewOf_2 : decode cX1_viewOf 2 = .ok (.iload_n 2, 1) := by decide +kernel
theorem dX1_viewOf_3 : decode cX1_viewOf 3 = .ok (.invokevirtual 74, 3) := by decide +kernel
theorem dX1_viewOf_6 : decode cX1_viewOf 6 = .ok (.iand, 1) := by decide +kernel
theorem dX1_viewOf_7 : decode cX1_viewOf 7 = .ok (.sipush 1023, 3) := by decide +kernel
theorem dX1_viewOf_10 : decode cX1_viewOf 10 = .ok (.iand, 1) := by decide +kernel
theorem dX1_viewOf_11 : decode cX1_viewOf 11 = .ok (.ireturn, 1) := by decide +kernel
theorem dX1_agreesWithNow_0 : decode cX1_agreesWithNow 0 = .ok (.iload_n 1, 1) := by decide +kernel
theorem dX1_agreesWithNow_1 : decode cX1_agreesWithNow 1 = .ok (.aload_n 0, 1) := by decide +kernel
theorem dX1_agreesWithNow_2 : decode cX1_agreesWithNow 2 = .ok (.getfield 30, 3) := by decide +kernel
theorem dX1_agreesWithNow_5 : decode cX1_agreesWithNow 5 = .ok (.ixor, 1) := by decide +kernel
theorem dX1_agreesWithNow_6 : decode cX1_agreesWithNow 6 = .ok (.iload_n 2, 1) := by decide +kernel
theorem dX1_agreesWithNow_7 : decode cX1_agreesWithNow 7 = .ok (.iand, 1) := by decide +kernel
theorem dX1_agreesWithNow_8 : decode cX1_agreesWithNow 8 = .ok (.ifCond .ne 7, 3) := by decide +kernel
theorem dX1_agreesWithNow_11 : decode cX1_agreesWithNow 11 = .ok (.iconst 1, 1) := by decide +kernel
theorem dX1_agreesWithNow_12 : decode cX1_agreesWithNow 12 = .ok (.goto 4, 3) := by decide +kernel
theorem dX1_agreesWithNow_15 : decode cX1_agreesWithNow 15 = .ok (.iconst 0, 1) := by decide +kernel
theorem dX1_agreesWithNow_16 : decode cX1_agreesWithNow 16 = .ok (.ireturn, 1) := by decide +kernel
theorem dX1_openColoursOf_0 : decode cX1_openColoursOf 0 = .ok (.aload_n 0, 1) := by decide +kernel
theorem dX1_openColoursOf_1 : decode cX1_openColoursOf 1 = .ok (.getfield 10, 3) := by decide +kernel
theorem dX1_openColoursOf_4 : decode cX1_openColoursOf 4 = .ok (.invokevirtual 91, 3) := by decide +kernel
theorem dX1_openColoursOf_7 : decode cX1_openColoursOf 7 = .ok (.istore_n 2, 1) := by decide +kernel
theorem dX1_openColoursOf_8 : decode cX1_openColoursOf 8 = .ok (.iconst 1, 1) := by decide +kernel
theorem dX1_openColoursOf_9 : decode cX1_openColoursOf 9 = .ok (.istore_n 3, 1) := by decide +kernel
theorem dX1_openColoursOf_10 : decode cX1_openColoursOf 10 = .ok (.iload_n 3, 1) := by decide +kernel
theorem dX1_openColoursOf_11 : decode cX1_openColoursOf 11 = .ok (.iconst 3, 1) := by decide +kernel
theorem dX1_openColoursOf_12 : decode cX1_openColoursOf 12 = .ok (.if_icmp .ge 47, 3) := by decide +kernel
theorem dX1_openColoursOf_15 : decode cX1_openColoursOf 15 = .ok (.iconst 0, 1) := by decide +kernel
theorem dX1_openColoursOf_16 : decode cX1_openColoursOf 16 = .ok (.istore 4, 2) := by decide +kernel
theorem dX1_openColoursOf_18 : decode cX1_openColoursOf 18 = .ok (.iload 4, 2) := by decide +kernel
theorem dX1_openColoursOf_20 : decode cX1_openColoursOf 20 = .ok (.iload_n 2, 1) := by decide +kernel
theorem dX1_openColoursOf_21 : decode cX1_openColoursOf 21 = .ok (.if_icmp .ge 32, 3) := by decide +kernel
theorem dX1_openColoursOf_24 : decode cX1_openColoursOf 24 = .ok (.aload_n 0, 1) := by decide +kernel
theorem dX1_openColoursOf_25 : decode cX1_openColoursOf 25 = .ok (.getfield 10, 3) := by decide +kernel
theorem dX1_openColoursOf_28 : decode cX1_openColoursOf 28 = .ok (.aload_n 0, 1) := by decide +kernel
theorem dX1_openColoursOf_29 : decode cX1_openColoursOf 29 = .ok (.getfield 10, 3) := by decide +kernel
theorem dX1_openColoursOf_32 : decode cX1_openColoursOf 32 = .ok (.iload 4, 2) := by decide +kernel
theorem dX1_openColoursOf_34 : decode cX1_openColoursOf 34 = .ok (.invokevirtual 95, 3) := by decide +kernel
theorem dX1_openColoursOf_37 : decode cX1_openColoursOf 37 = .ok (.iload_n 3, 1) := by decide +kernel
theorem dX1_openColoursOf_38 : decode cX1_openColoursOf 38 = .ok (.iload_n 1, 1) := by decide +kernel
theorem dX1_openColoursOf_39 : decode cX1_openColoursOf 39 = .ok (.invokestatic 60, 3) := by decide +kernel
theorem dX1_openColoursOf_42 : decode cX1_openColoursOf 42 = .ok (.ishl, 1) := by decide +kernel
theorem dX1_openColoursOf_43 : decode cX1_openColoursOf 43 = .ok (.ior, 1) := by decide +kernel
theorem dX1_openColoursOf_44 : decode cX1_openColoursOf 44 = .ok (.invokevirtual 46, 3) := by decide +kernel
theorem dX1_openColoursOf_47 : decode cX1_openColoursOf 47 = .ok (.iinc 4 1, 3) := by decide +kernel
theorem dX1_openColoursOf_50 : decode cX1_openColoursOf 50 = .ok (.goto (-32), 3) := by decide +kernel
theorem dX1_openColoursOf_53 : decode cX1_openColoursOf 53 = .ok (.iinc 3 1, 3) := by decide +kernel
theorem dX1_openColoursOf_56 : decode cX1_openColoursOf 56 = .ok (.goto (-46), 3) := by decide +kernel
theorem dX1_openColoursOf_59 : decode cX1_openColoursOf 59 = .ok (.return_, 1) := by decide +kernel
theorem dX1_sayBetween_0 : decode cX1_sayBetween 0 = .ok (.aload_n 0, 1) := by decide +kernel
theorem dX1_sayBetween_1 : decode cX1_sayBetween 1 = .ok (.aload_n 0, 1) := by decide +kernel
theorem dX1_sayBetween_2 : decode cX1_sayBetween 2 = .ok (.getfield 30, 3) := by decide +kernel
theorem dX1_sayBetween_5 : decode cX1_sayBetween 5 = .ok (.iload_n 1, 1) := by decide +kernel
theorem dX1_sayBetween_6 : decode cX1_sayBetween 6 = .ok (.invokevirtual 127, 3) := by decide +kernel
theorem dX1_sayBetween_9 : decode cX1_sayBetween 9 = .ok (.istore 4, 2) := by decide +kernel
theorem dX1_sayBetween_11 : decode cX1_sayBetween 11 = .ok (.iload 4, 2) := by decide +kernel
theorem dX1_sayBetween_13 : decode cX1_sayBetween 13 = .ok (.iload_n 2, 1) := by decide +kernel
theorem dX1_sayBetween_14 : decode cX1_sayBetween 14 = .ok (.if_icmp .lt 9, 3) := by decide +kernel
theorem dX1_sayBetween_17 : decode cX1_sayBetween 17 = .ok (.iload 4, 2) := by decide +kernel
theorem dX1_sayBetween_19 : decode cX1_sayBetween 19 = .ok (.iload_n 3, 1) := by decide +kernel
theorem dX1_sayBetween_20 : decode cX1_sayBetween 20 = .ok (.if_icmp .le 13, 3) := by decide +kernel
theorem dX1_sayBetween_23 : decode cX1_sayBetween 23 = .ok (.new 53, 3) := by decide +kernel
theorem dX1_sayBetween_26 : decode cX1_sayBetween 26 = .ok (.dup, 1) := by decide +kernel
theorem dX1_sayBetween_27 : decode cX1_sayBetween 27 = .ok (.ldc 225, 2) := by decide +kernel
theorem dX1_sayBetween_29 : decode cX1_sayBetween 29 = .ok (.invokespecial 57, 3) := by decide +kernel
theorem dX1_sayBetween_32 : decode cX1_sayBetween 32 = .ok (.athrow, 1) := by decide +kernel
theorem dX1_sayBetween_33 : decode cX1_sayBetween 33 = .ok (.aload_n 0, 1) := by decide +kernel
theorem dX1_sayBetween_34 : decode cX1_sayBetween 34 = .ok (.aload_n 0, 1) := by decide +kernel
theorem dX1_sayBetween_35 : decode cX1_sayBetween 35 = .ok (.getfield 10, 3) := by decide +kernel
theorem dX1_sayBetween_38 : decode cX1_sayBetween 38 = .ok (.iload_n 1, 1) := by decide +kernel
theorem dX1_sayBetween_39 : decode cX1_sayBetween 39 = .ok (.iload_n 2, 1) := by decide +kernel
theorem dX1_sayBetween_40 : decode cX1_sayBetween 40 = .ok (.iload_n 3, 1) := by decide +kernel
theorem dX1_sayBetween_41 : decode cX1_sayBetween 41 = .ok (.invokevirtual 227, 3) := by decide +kernel
theorem dX1_sayBetween_44 : decode cX1_sayBetween 44 = .ok (.aload_n 0, 1) := by decide +kernel
theorem dX1_sayBetween_45 : decode cX1_sayBetween 45 = .ok (.iconst 1, 1) := by decide +kernel
theorem dX1_sayBetween_46 : decode cX1_sayBetween 46 = .ok (.putfield 42, 3) := by decide +kernel
theorem dX1_sayBetween_49 : decode cX1_sayBetween 49 = .ok (.aload_n 0, 1) := by decide +kernel
theorem dX1_sayBetween_50 : decode cX1_sayBetween 50 = .ok (.getfield 10, 3) := by decide +kernel
theorem dX1_sayBetween_53 : decode cX1_sayBetween 53 = .ok (.invokevirtual 91, 3) := by decide +kernel
theorem dX1_sayBetween_56 : decode cX1_sayBetween 56 = .ok (.ireturn, 1) := by decide +kernel
theorem dX1_keepWithHats_0 : decode cX1_keepWithHats 0 = .ok (.aload_n 1, 1) := by decide +kernel
theorem dX1_keepWithHats_1 : decode cX1_keepWithHats 1 = .ok (.invokevirtual 91, 3) := by decide +kernel
theorem dX1_keepWithHats_4 : decode cX1_keepWithHats 4 = .ok (.istore 5, 2) := by decide +kernel
theorem dX1_keepWithHats_6 : decode cX1_keepWithHats 6 = .ok (.aload_n 1, 1) := by decide +kernel
theorem dX1_keepWithHats_7 : decode cX1_keepWithHats 7 = .ok (.invokevirtual 121, 3) := by decide +kernel
theorem dX1_keepWithHats_10 : decode cX1_keepWithHats 10 = .ok (.iconst 0, 1) := by decide +kernel
theorem dX1_keepWithHats_11 : decode cX1_keepWithHats 11 = .ok (.istore 6, 2) := by decide +kernel
theorem dX1_keepWithHats_13 : decode cX1_keepWithHats 13 = .ok (.iload 6, 2) := by decide +kernel
theorem dX1_keepWithHats_15 : decode cX1_keepWithHats 15 = .ok (.iload 5, 2) := by decide +kernel
theorem dX1_keepWithHats_17 : decode cX1_keepWithHats 17 = .ok (.if_icmp .ge 45, 3) := by decide +kernel
theorem dX1_keepWithHats_20 : decode cX1_keepWithHats 20 = .ok (.aload_n 1, 1) := by decide +kernel
theorem dX1_keepWithHats_21 : decode cX1_keepWithHats 21 = .ok (.iload 6, 2) := by decide +kernel
theorem dX1_keepWithHats_23 : decode cX1_keepWithHats 23 = .ok (.invokevirtual 95, 3) := by decide +kernel
theorem dX1_keepWithHats_26 : decode cX1_keepWithHats 26 = .ok (.istore 7, 2) := by decide +kernel
theorem dX1_keepWithHats_28 : decode cX1_keepWithHats 28 = .ok (.aload_n 0, 1) := by decide +kernel
theorem dX1_keepWithHats_29 : decode cX1_keepWithHats 29 = .ok (.iload 7, 2) := by decide +kernel
theorem dX1_keepWithHats_31 : decode cX1_keepWithHats 31 = .ok (.iload_n 2, 1) := by decide +kernel
theorem dX1_keepWithHats_32 : decode cX1_keepWithHats 32 = .ok (.invokevirtual 127, 3) := by decide +kernel
theorem dX1_keepWithHats_35 : decode cX1_keepWithHats 35 = .ok (.istore 8, 2) := by decide +kernel
theorem dX1_keepWithHats_37 : decode cX1_keepWithHats 37 = .ok (.iload 8, 2) := by decide +kernel
theorem dX1_keepWithHats_39 : decode cX1_keepWithHats 39 = .ok (.iload_n 3, 1) := by decide +kernel
theorem dX1_keepWithHats_40 : decode cX1_keepWithHats 40 = .ok (.if_icmp .lt 16, 3) := by decide +kernel
theorem dX1_keepWithHats_43 : decode cX1_keepWithHats 43 = .ok (.iload 8, 2) := by decide +kernel
theorem dX1_keepWithHats_45 : decode cX1_keepWithHats 45 = .ok (.iload 4, 2) := by decide +kernel
theorem dX1_keepWithHats_47 : decode cX1_keepWithHats 47 = .ok (.if_icmp .gt 9, 3) := by decide +kernel
theorem dX1_keepWithHats_50 : decode cX1_keepWithHats 50 = .ok (.aload_n 1, 1) := by decide +kernel
theorem dX1_keepWithHats_51 : decode cX1_keepWithHats 51 = .ok (.iload 7, 2) := by decide +kernel
theorem dX1_keepWithHats_53 : decode cX1_keepWithHats 53 = .ok (.invokevirtual 46, 3) := by decide +kernel
theorem dX1_keepWithHats_56 : decode cX1_keepWithHats 56 = .ok (.iinc 6 1, 3) := by decide +kernel
theorem dX1_keepWithHats_59 : decode cX1_keepWithHats 59 = .ok (.goto (-46), 3) := by decide +kernel
theorem dX1_keepWithHats_62 : decode cX1_keepWithHats 62 = .ok (.return_, 1) := by decide +kernel
theorem dX1_keepWithHat_0 : decode cX1_keepWithHat 0 = .ok (.aload_n 0, 1) := by decide +kernel
theorem dX1_keepWithHat_1 : decode cX1_keepWithHat 1 = .ok (.invokevirtual 91, 3) := by decide +kernel
theorem dX1_keepWithHat_4 : decode cX1_keepWithHat 4 = .ok (.istore_n 3, 1) := by decide +kernel
theorem dX1_keepWithHat_5 : decode cX1_keepWithHat 5 = .ok (.aload_n 0, 1) := by decide +kernel
theorem dX1_keepWithHat_6 : decode cX1_keepWithHat 6 = .ok (.invokevirtual 121, 3) := by decide +kernel
theorem dX1_keepWithHat_9 : decode cX1_keepWithHat 9 = .ok (.iconst 0, 1) := by decide +kernel
theorem dX1_keepWithHat_10 : decode cX1_keepWithHat 10 = .ok (.istore 4, 2) := by decide +kernel
theorem dX1_keepWithHat_12 : decode cX1_keepWithHat 12 = .ok (.iload 4, 2) := by decide +kernel
theorem dX1_keepWithHat_14 : decode cX1_keepWithHat 14 = .ok (.iload_n 3, 1) := by decide +kernel
theorem dX1_keepWithHat_15 : decode cX1_keepWithHat 15 = .ok (.if_icmp .ge 33, 3) := by decide +kernel
theorem dX1_keepWithHat_18 : decode cX1_keepWithHat 18 = .ok (.aload_n 0, 1) := by decide +kernel
theorem dX1_keepWithHat_19 : decode cX1_keepWithHat 19 = .ok (.iload 4, 2) := by decide +kernel
theorem dX1_keepWithHat_21 : decode cX1_keepWithHat 21 = .ok (.invokevirtual 95, 3) := by decide +kernel
theorem dX1_keepWithHat_24 : decode cX1_keepWithHat 24 = .ok (.istore 5, 2) := by decide +kernel
theorem dX1_keepWithHat_26 : decode cX1_keepWithHat 26 = .ok (.iload 5, 2) := by decide +kernel
theorem dX1_keepWithHat_28 : decode cX1_keepWithHat 28 = .ok (.iload_n 1, 1) := by decide +kernel
theorem dX1_keepWithHat_29 : decode cX1_keepWithHat 29 = .ok (.invokestatic 101, 3) := by decide +kernel
theorem dX1_keepWithHat_32 : decode cX1_keepWithHat 32 = .ok (.iload_n 2, 1) := by decide +kernel
theorem dX1_keepWithHat_33 : decode cX1_keepWithHat 33 = .ok (.if_icmp .ne 9, 3) := by decide +kernel
theorem dX1_keepWithHat_36 : decode cX1_keepWithHat 36 = .ok (.aload_n 0, 1) := by decide +kernel
theorem dX1_keepWithHat_37 : decode cX1_keepWithHat 37 = .ok (.iload 5, 2) := by decide +kernel
theorem dX1_keepWithHat_39 : decode cX1_keepWithHat 39 = .ok (.invokevirtual 46, 3) := by decide +kernel
theorem dX1_keepWithHat_42 : decode cX1_keepWithHat 42 = .ok (.iinc 4 1, 3) := by decide +kernel
theorem dX1_keepWithHat_45 : decode cX1_keepWithHat 45 = .ok (.goto (-33), 3) := by decide +kernel
theorem dX1_keepWithHat_48 : decode cX1_keepWithHat 48 = .ok (.return_, 1) := by decide +kernel
theorem dX1_keepByCertainty_0 : decode cX1_keepByCertainty 0 = .ok (.aload_n 0, 1) := by decide +kernel
theorem dX1_keepByCertainty_1 : decode cX1_keepByCertainty 1 = .ok (.aload_n 1, 1) := by decide +kernel
theorem dX1_keepByCertainty_2 : decode cX1_keepByCertainty 2 = .ok (.iload_n 2, 1) := by decide +kernel
theorem dX1_keepByCertainty_3 : decode cX1_keepByCertainty 3 = .ok (.invokevirtual 147, 3) := by decide +kernel
theorem dX1_keepByCertainty_6 : decode cX1_keepByCertainty 6 = .ok (.aload_n 1, 1) := by decide +kernel
theorem dX1_keepByCertainty_7 : decode cX1_keepByCertainty 7 = .ok (.invokevirtual 91, 3) := by decide +kernel
theorem dX1_keepByCertainty_10 : decode cX1_keepByCertainty 10 = .ok (.istore 4, 2) := by decide +kernel
theorem dX1_keepByCertainty_12 : decode cX1_keepByCertainty 12 = .ok (.aload_n 1, 1) := by decide +kernel
theorem dX1_keepByCertainty_13 : decode cX1_keepByCertainty 13 = .ok (.invokevirtual 121, 3) := by decide +kernel
theorem dX1_keepByCertainty_16 : decode cX1_keepByCertainty 16 = .ok (.iconst 0, 1) := by decide +kernel
theorem dX1_keepByCertainty_17 : decode cX1_keepByCertainty 17 = .ok (.istore 5, 2) := by decide +kernel
theorem dX1_keepByCertainty_19 : decode cX1_keepByCertainty 19 = .ok (.iload 5, 2) := by decide +kernel
theorem dX1_keepByCertainty_21 : decode cX1_keepByCertainty 21 = .ok (.iload 4, 2) := by decide +kernel
theorem dX1_keepByCertainty_23 : decode cX1_keepByCertainty 23 = .ok (.if_icmp .ge 34, 3) := by decide +kernel
theorem dX1_keepByCertainty_26 : decode cX1_keepByCertainty 26 = .ok (.aload_n 1, 1) := by decide +kernel
theorem dX1_keepByCertainty_27 : decode cX1_keepByCertainty 27 = .ok (.iload 5, 2) := by decide +kernel
theorem dX1_keepByCertainty_29 : decode cX1_keepByCertainty 29 = .ok (.invokevirtual 95, 3) := by decide +kernel
theorem dX1_keepByCertainty_32 : decode cX1_keepByCertainty 32 = .ok (.istore 6, 2) := by decide +kernel
theorem dX1_keepByCertainty_34 : decode cX1_keepByCertainty 34 = .ok (.aload_n 0, 1) := by decide +kernel
theorem dX1_keepByCertainty_35 : decode cX1_keepByCertainty 35 = .ok (.iload 6, 2) := by decide +kernel
theorem dX1_keepByCertainty_37 : decode cX1_keepByCertainty 37 = .ok (.iload_n 2, 1) := by decide +kernel
theorem dX1_keepByCertainty_38 : decode cX1_keepByCertainty 38 = .ok (.invokevirtual 154, 3) := by decide +kernel
theorem dX1_keepByCertainty_41 : decode cX1_keepByCertainty 41 = .ok (.iload_n 3, 1) := by decide +kernel
theorem dX1_keepByCertainty_42 : decode cX1_keepByCertainty 42 = .ok (.if_icmp .ne 9, 3) := by decide +kernel
theorem dX1_keepByCertainty_45 : decode cX1_keepByCertainty 45 = .ok (.aload_n 1, 1) := by decide +kernel
theorem dX1_keepByCertainty_46 : decode cX1_keepByCertainty 46 = .ok (.iload 6, 2) := by decide +kernel
theorem dX1_keepByCertainty_48 : decode cX1_keepByCertainty 48 = .ok (.invokevirtual 46, 3) := by decide +kernel
theorem dX1_keepByCertainty_51 : decode cX1_keepByCertainty 51 = .ok (.iinc 5 1, 3) := by decide +kernel
theorem dX1_keepByCertainty_54 : decode cX1_keepByCertainty 54 = .ok (.goto (-35), 3) := by decide +kernel
theorem dX1_keepByCertainty_57 : decode cX1_keepByCertainty 57 = .ok (.return_, 1) := by decide +kernel
theorem dX1_countWithHat_0 : decode cX1_countWithHat 0 = .ok (.iconst 0, 1) := by decide +kernel
theorem dX1_countWithHat_1 : decode cX1_countWithHat 1 = .ok (.istore_n 3, 1) := by decide +kernel
theorem dX1_countWithHat_2 : decode cX1_countWithHat 2 = .ok (.iconst 0, 1) := by decide +kernel
theorem dX1_countWithHat_3 : decode cX1_countWithHat 3 = .ok (.istore 4, 2) := by decide +kernel
theorem dX1_countWithHat_5 : decode cX1_countWithHat 5 = .ok (.iload 4, 2) := by decide +kernel
theorem dX1_countWithHat_7 : decode cX1_countWithHat 7 = .ok (.aload_n 0, 1) := by decide +kernel
theorem dX1_countWithHat_8 : decode cX1_countWithHat 8 = .ok (.getfield 10, 3) := by decide +kernel
theorem dX1_countWithHat_11 : decode cX1_countWithHat 11 = .ok (.invokevirtual 91, 3) := by decide +kernel
theorem dX1_countWithHat_14 : decode cX1_countWithHat 14 = .ok (.if_icmp .ge 29, 3) := by decide +kernel
theorem dX1_countWithHat_17 : decode cX1_countWithHat 17 = .ok (.aload_n 0, 1) := by decide +kernel
theorem dX1_countWithHat_18 : decode cX1_countWithHat 18 = .ok (.getfield 10, 3) := by decide +kernel
theorem dX1_countWithHat_21 : decode cX1_countWithHat 21 = .ok (.iload 4, 2) := by decide +kernel
theorem dX1_countWithHat_23 : decode cX1_countWithHat 23 = .ok (.invokevirtual 95, 3) := by decide +kernel
theorem dX1_countWithHat_26 : decode cX1_countWithHat 26 = .ok (.iload_n 1, 1) := by decide +kernel
theorem dX1_countWithHat_27 : decode cX1_countWithHat 27 = .ok (.invokestatic 101, 3) := by decide +kernel
theorem dX1_countWithHat_30 : decode cX1_countWithHat 30 = .ok (.iload_n 2, 1) := by decide +kernel
theorem dX1_countWithHat_31 : decode cX1_countWithHat 31 = .ok (.if_icmp .ne 6, 3) := by decide +kernel
theorem dX1_countWithHat_34 : decode cX1_countWithHat 34 = .ok (.iinc 3 1, 3) := by decide +kernel
theorem dX1_countWithHat_37 : decode cX1_countWithHat 37 = .ok (.iinc 4 1, 3) := by decide +kernel
theorem dX1_countWithHat_40 : decode cX1_countWithHat 40 = .ok (.goto (-35), 3) := by decide +kernel
theorem dX1_countWithHat_43 : decode cX1_countWithHat 43 = .ok (.iload_n 3, 1) := by decide +kernel
theorem dX1_countWithHat_44 : decode cX1_countWithHat 44 = .ok (.ireturn, 1) := by decide +kernel
theorem dX1_countPossible_0 : decode cX1_countPossible 0 = .ok (.iconst 0, 1) := by decide +kernel
theorem dX1_countPossible_1 : decode cX1_countPossible 1 = .ok (.istore_n 2, 1) := by decide +kernel
theorem dX1_countPossible_2 : decode cX1_countPossible 2 = .ok (.aload_n 0, 1) := by decide +kernel
theorem dX1_countPossible_3 : decode cX1_countPossible 3 = .ok (.iload_n 1, 1) := by decide +kernel
theorem dX1_countPossible_4 : decode cX1_countPossible 4 = .ok (.invokevirtual 74, 3) := by decide +kernel
theorem dX1_countPossible_7 : decode cX1_countPossible 7 = .ok (.istore_n 3, 1) := by decide +kernel
theorem dX1_countPossible_8 : decode cX1_countPossible 8 = .ok (.iconst 0, 1) := by decide +kernel
theorem dX1_countPossible_9 : decode cX1_countPossible 9 = .ok (.istore 4, 2) := by decide +kernel
theorem dX1_countPossible_11 : decode cX1_countPossible 11 = .ok (.iload 4, 2) := by decide +kernel
theorem dX1_countPossible_13 : decode cX1_countPossible 13 = .ok (.aload_n 0, 1) := by decide +kernel
theorem dX1_countPossible_14 : decode cX1_countPossible 14 = .ok (.getfield 10, 3) := by decide +kernel
theorem dX1_countPossible_17 : decode cX1_countPossible 17 = .ok (.invokevirtual 91, 3) := by decide +kernel
theorem dX1_countPossible_20 : decode cX1_countPossible 20 = .ok (.if_icmp .ge 29, 3) := by decide +kernel
theorem dX1_countPossible_23 : decode cX1_countPossible 23 = .ok (.aload_n 0, 1) := by decide +kernel
theorem dX1_countPossible_24 : decode cX1_countPossible 24 = .ok (.aload_n 0, 1) := by decide +kernel
theorem dX1_countPossible_25 : decode cX1_countPossible 25 = .ok (.getfield 10, 3) := by decide +kernel
theorem dX1_countPossible_28 : decode cX1_countPossible 28 = .ok (.iload 4, 2) := by decide +kernel
theorem dX1_countPossible_30 : decode cX1_countPossible 30 = .ok (.invokevirtual 95, 3) := by decide +kernel
theorem dX1_countPossible_33 : decode cX1_countPossible 33 = .ok (.iload_n 3, 1) := by decide +kernel
theorem dX1_countPossible_34 : decode cX1_countPossible 34 = .ok (.invokevirtual 151, 3) := by decide +kernel
theorem dX1_countPossible_37 : decode cX1_countPossible 37 = .ok (.ifCond .eq 6, 3) := by decide +kernel
theorem dX1_countPossible_40 : decode cX1_countPossible 40 = .ok (.iinc 2 1, 3) := by decide +kernel
theorem dX1_countPossible_43 : decode cX1_countPossible 43 = .ok (.iinc 4 1, 3) := by decide +kernel
theorem dX1_countPossible_46 : decode cX1_countPossible 46 = .ok (.goto (-35), 3) := by decide +kernel
theorem dX1_countPossible_49 : decode cX1_countPossible 49 = .ok (.iload_n 2, 1) := by decide +kernel
theorem dX1_countPossible_50 : decode cX1_countPossible 50 = .ok (.ireturn, 1) := by decide +kernel
theorem dX1_possibleColours_0 : decode cX1_possibleColours 0 = .ok (.iconst 0, 1) := by decide +kernel
theorem dX1_possibleColours_1 : decode cX1_possibleColours 1 = .ok (.istore 4, 2) := by decide +kernel
theorem dX1_possibleColours_3 : decode cX1_possibleColours 3 = .ok (.aload_n 0, 1) := by decide +kernel
theorem dX1_possibleColours_4 : decode cX1_possibleColours 4 = .ok (.iload_n 2, 1) := by decide +kernel
theorem dX1_possibleColours_5 : decode cX1_possibleColours 5 = .ok (.invokevirtual 74, 3) := by decide +kernel
theorem dX1_possibleColours_8 : decode cX1_possibleColours 8 = .ok (.istore 5, 2) := by decide +kernel
theorem dX1_possibleColours_10 : decode cX1_possibleColours 10 = .ok (.iconst 0, 1) := by decide +kernel
theorem dX1_possibleColours_11 : decode cX1_possibleColours 11 = .ok (.istore 6, 2) := by decide +kernel
theorem dX1_possibleColours_13 : decode cX1_possibleColours 13 = .ok (.iload 6, 2) := by decide +kernel
theorem dX1_possibleColours_15 : decode cX1_possibleColours 15 = .ok (.aload_n 1, 1) := by decide +kernel
theorem dX1_possibleColours_16 : decode cX1_possibleColours 16 = .ok (.invokevirtual 91, 3) := by decide +kernel
theorem dX1_possibleColours_19 : decode cX1_possibleColours 19 = .ok (.if_icmp .ge 41, 3) := by decide +kernel
theorem dX1_possibleColours_22 : decode cX1_possibleColours 22 = .ok (.aload_n 1, 1) := by decide +kernel
theorem dX1_possibleColours_23 : decode cX1_possibleColours 23 = .ok (.iload 6, 2) := by decide +kernel
theorem dX1_possibleColours_25 : decode cX1_possibleColours 25 = .ok (.invokevirtual 95, 3) := by decide +kernel
theorem dX1_possibleColours_28 : decode cX1_possibleColours 28 = .ok (.istore 7, 2) := by decide +kernel
theorem dX1_possibleColours_30 : decode cX1_possibleColours 30 = .ok (.aload_n 0, 1) := by decide +kernel
theorem dX1_possibleColours_31 : decode cX1_possibleColours 31 = .ok (.iload 7, 2) := by decide +kernel
theorem dX1_possibleColours_33 : decode cX1_possibleColours 33 = .ok (.iload 5, 2) := by decide +kernel
theorem dX1_possibleColours_35 : decode cX1_possibleColours 35 = .ok (.invokevirtual 151, 3) := by decide +kernel
theorem dX1_possibleColours_38 : decode cX1_possibleColours 38 = .ok (.ifCond .eq 16, 3) := by decide +kernel
theorem dX1_possibleColours_41 : decode cX1_possibleColours 41 = .ok (.iload 4, 2) := by decide +kernel
theorem dX1_possibleColours_43 : decode cX1_possibleColours 43 = .ok (.iconst 1, 1) := by decide +kernel
theorem dX1_possibleColours_44 : decode cX1_possibleColours 44 = .ok (.iload 7, 2) := by decide +kernel
theorem dX1_possibleColours_46 : decode cX1_possibleColours 46 = .ok (.iload_n 3, 1) := by decide +kernel
theorem dX1_possibleColours_47 : decode cX1_possibleColours 47 = .ok (.invokestatic 101, 3) := by decide +kernel
theorem dX1_possibleColours_50 : decode cX1_possibleColours 50 = .ok (.ishl, 1) := by decide +kernel
theorem dX1_possibleColours_51 : decode cX1_possibleColours 51 = .ok (.ior, 1) := by decide +kernel
theorem dX1_possibleColours_52 : decode cX1_possibleColours 52 = .ok (.istore 4, 2) := by decide +kernel
theorem dX1_possibleColours_54 : decode cX1_possibleColours 54 = .ok (.iinc 6 1, 3) := by decide +kernel
theorem dX1_possibleColours_57 : decode cX1_possibleColours 57 = .ok (.goto (-44), 3) := by decide +kernel
theorem dX1_possibleColours_60 : decode cX1_possibleColours 60 = .ok (.iload 4, 2) := by decide +kernel
theorem dX1_possibleColours_62 : decode cX1_possibleColours 62 = .ok (.ireturn, 1) := by decide +kernel
theorem dX1_isOneColour_0 : decode cX1_isOneColour 0 = .ok (.iload_n 0, 1) := by decide +kernel
theorem dX1_isOneColour_1 : decode cX1_isOneColour 1 = .ok (.invokestatic 231, 3) := by decide +kernel
theorem dX1_isOneColour_4 : decode cX1_isOneColour 4 = .ok (.iconst 1, 1) := by decide +kernel
theorem dX1_isOneColour_5 : decode cX1_isOneColour 5 = .ok (.if_icmp .ne 7, 3) := by decide +kernel
theorem dX1_isOneColour_8 : decode cX1_isOneColour 8 = .ok (.iconst 1, 1) := by decide +kernel
theorem dX1_isOneColour_9 : decode cX1_isOneColour 9 = .ok (.goto 4, 3) := by decide +kernel
theorem dX1_isOneColour_12 : decode cX1_isOneColour 12 = .ok (.iconst 0, 1) := by decide +kernel
theorem dX1_isOneColour_13 : decode cX1_isOneColour 13 = .ok (.ireturn, 1) := by decide +kernel
theorem dX1_isCertainBy_0 : decode cX1_isCertainBy 0 = .ok (.aload_n 0, 1) := by decide +kernel
theorem dX1_isCertainBy_1 : decode cX1_isCertainBy 1 = .ok (.aload_n 1, 1) := by decide +kernel
theorem dX1_isCertainBy_2 : decode cX1_isCertainBy 2 = .ok (.iload_n 2, 1) := by decide +kernel
theorem dX1_isCertainBy_3 : decode cX1_isCertainBy 3 = .ok (.iload_n 2, 1) := by decide +kernel
theorem dX1_isCertainBy_4 : decode cX1_isCertainBy 4 = .ok (.invokevirtual 136, 3) := by decide +kernel
theorem dX1_isCertainBy_7 : decode cX1_isCertainBy 7 = .ok (.invokestatic 143, 3) := by decide +kernel
theorem dX1_isCertainBy_10 : decode cX1_isCertainBy 10 = .ok (.ireturn, 1) := by decide +kernel
theorem dX1_countCertain_0 : decode cX1_countCertain 0 = .ok (.iconst 0, 1) := by decide +kernel
theorem dX1_countCertain_1 : decode cX1_countCertain 1 = .ok (.istore_n 2, 1) := by decide +kernel
theorem dX1_countCertain_2 : decode cX1_countCertain 2 = .ok (.iconst 0, 1) := by decide +kernel
theorem dX1_countCertain_3 : decode cX1_countCertain 3 = .ok (.istore_n 3, 1) := by decide +kernel
theorem dX1_countCertain_4 : decode cX1_countCertain 4 = .ok (.iload_n 3, 1) := by decide +kernel
theorem dX1_countCertain_5 : decode cX1_countCertain 5 = .ok (.aload_n 0, 1) := by decide +kernel
theorem dX1_countCertain_6 : decode cX1_countCertain 6 = .ok (.getfield 26, 3) := by decide +kernel
theorem dX1_countCertain_9 : decode cX1_countCertain 9 = .ok (.if_icmp .ge 21, 3) := by decide +kernel
theorem dX1_countCertain_12 : decode cX1_countCertain 12 = .ok (.aload_n 0, 1) := by decide +kernel
theorem dX1_countCertain_13 : decode cX1_countCertain 13 = .ok (.aload_n 1, 1) := by decide +kernel
theorem dX1_countCertain_14 : decode cX1_countCertain 14 = .ok (.iload_n 3, 1) := by decide +kernel
theorem dX1_countCertain_15 : decode cX1_countCertain 15 = .ok (.invokevirtual 140, 3) := by decide +kernel
theorem dX1_countCertain_18 : decode cX1_countCertain 18 = .ok (.ifCond .eq 6, 3) := by decide +kernel
theorem dX1_countCertain_21 : decode cX1_countCertain 21 = .ok (.iinc 2 1, 3) := by decide +kernel
theorem dX1_countCertain_24 : decode cX1_countCertain 24 = .ok (.iinc 3 1, 3) := by decide +kernel
theorem dX1_countCertain_27 : decode cX1_countCertain 27 = .ok (.goto (-23), 3) := by decide +kernel
theorem dX1_countCertain_30 : decode cX1_countCertain 30 = .ok (.iload_n 2, 1) := by decide +kernel
theorem dX1_countCertain_31 : decode cX1_countCertain 31 = .ok (.ireturn, 1) := by decide +kernel
theorem dX1_noteOwnColours_0 : decode cX1_noteOwnColours 0 = .ok (.iconst 0, 1) := by decide +kernel
theorem dX1_noteOwnColours_1 : decode cX1_noteOwnColours 1 = .ok (.istore_n 3, 1) := by decide +kernel
theorem dX1_noteOwnColours_2 : decode cX1_noteOwnColours 2 = .ok (.iload_n 3, 1) := by decide +kernel
theorem dX1_noteOwnColours_3 : decode cX1_noteOwnColours 3 = .ok (.aload_n 1, 1) := by decide +kernel
theorem dX1_noteOwnColours_4 : decode cX1_noteOwnColours 4 = .ok (.invokevirtual 91, 3) := by decide +kernel
theorem dX1_noteOwnColours_7 : decode cX1_noteOwnColours 7 = .ok (.if_icmp .ge 24, 3) := by decide +kernel
theorem dX1_noteOwnColours_10 : decode cX1_noteOwnColours 10 = .ok (.aload_n 0, 1) := by decide +kernel
theorem dX1_noteOwnColours_11 : decode cX1_noteOwnColours 11 = .ok (.aload_n 0, 1) := by decide +kernel
theorem dX1_noteOwnColours_12 : decode cX1_noteOwnColours 12 = .ok (.aload_n 1, 1) := by decide +kernel
theorem dX1_noteOwnColours_13 : decode cX1_noteOwnColours 13 = .ok (.iload_n 3, 1) := by decide +kernel
theorem dX1_noteOwnColours_14 : decode cX1_noteOwnColours 14 = .ok (.invokevirtual 95, 3) := by decide +kernel
theorem dX1_noteOwnColours_17 : decode cX1_noteOwnColours 17 = .ok (.iload_n 2, 1) := by decide +kernel
theorem dX1_noteOwnColours_18 : decode cX1_noteOwnColours 18 = .ok (.invokevirtual 236, 3) := by decide +kernel
theorem dX1_noteOwnColours_21 : decode cX1_noteOwnColours 21 = .ok (.iconst 0, 1) := by decide +kernel
theorem dX1_noteOwnColours_22 : decode cX1_noteOwnColours 22 = .ok (.invokevirtual 239, 3) := by decide +kernel
theorem dX1_noteOwnColours_25 : decode cX1_noteOwnColours 25 = .ok (.iinc 3 1, 3) := by decide +kernel
theorem dX1_noteOwnColours_28 : decode cX1_noteOwnColours 28 = .ok (.goto (-26), 3) := by decide +kernel
theorem dX1_noteOwnColours_31 : decode cX1_noteOwnColours 31 = .ok (.iconst 0, 1) := by decide +kernel
theorem dX1_noteOwnColours_32 : decode cX1_noteOwnColours 32 = .ok (.istore_n 3, 1) := by decide +kernel
theorem dX1_noteOwnColours_33 : decode cX1_noteOwnColours 33 = .ok (.iload_n 3, 1) := by decide +kernel
theorem dX1_noteOwnColours_34 : decode cX1_noteOwnColours 34 = .ok (.aload_n 1, 1) := by decide +kernel
theorem dX1_noteOwnColours_35 : decode cX1_noteOwnColours 35 = .ok (.invokevirtual 91, 3) := by decide +kernel
theorem dX1_noteOwnColours_38 : decode cX1_noteOwnColours 38 = .ok (.if_icmp .ge 46, 3) := by decide +kernel
theorem dX1_noteOwnColours_41 : decode cX1_noteOwnColours 41 = .ok (.aload_n 1, 1) := by decide +kernel
theorem dX1_noteOwnColours_42 : decode cX1_noteOwnColours 42 = .ok (.iload_n 3, 1) := by decide +kernel
theorem dX1_noteOwnColours_43 : decode cX1_noteOwnColours 43 = .ok (.invokevirtual 95, 3) := by decide +kernel
theorem dX1_noteOwnColours_46 : decode cX1_noteOwnColours 46 = .ok (.istore 4, 2) := by decide +kernel
theorem dX1_noteOwnColours_48 : decode cX1_noteOwnColours 48 = .ok (.aload_n 0, 1) := by decide +kernel
theorem dX1_noteOwnColours_49 : decode cX1_noteOwnColours 49 = .ok (.iload 4, 2) := by decide +kernel
theorem dX1_noteOwnColours_51 : decode cX1_noteOwnColours 51 = .ok (.iload_n 2, 1) := by decide +kernel
theorem dX1_noteOwnColours_52 : decode cX1_noteOwnColours 52 = .ok (.invokevirtual 236, 3) := by decide +kernel
theorem dX1_noteOwnColours_55 : decode cX1_noteOwnColours 55 = .ok (.istore 5, 2) := by decide +kernel
theorem dX1_noteOwnColours_57 : decode cX1_noteOwnColours 57 = .ok (.aload_n 0, 1) := by decide +kernel
theorem dX1_noteOwnColours_58 : decode cX1_noteOwnColours 58 = .ok (.iload 5, 2) := by decide +kernel
theorem dX1_noteOwnColours_60 : decode cX1_noteOwnColours 60 = .ok (.aload_n 0, 1) := by decide +kernel
theorem dX1_noteOwnColours_61 : decode cX1_noteOwnColours 61 = .ok (.iload 5, 2) := by decide +kernel
theorem dX1_noteOwnColours_63 : decode cX1_noteOwnColours 63 = .ok (.invokevirtual 242, 3) := by decide +kernel
theorem dX1_noteOwnColours_66 : decode cX1_noteOwnColours 66 = .ok (.iconst 1, 1) := by decide +kernel
theorem dX1_noteOwnColours_67 : decode cX1_noteOwnColours 67 = .ok (.iload 4, 2) := by decide +kernel
theorem dX1_noteOwnColours_69 : decode cX1_noteOwnColours 69 = .ok (.iload_n 2, 1) := by decide +kernel
theorem dX1_noteOwnColours_70 : decode cX1_noteOwnColours 70 = .ok (.invokestatic 101, 3) := by decide +kernel
theorem dX1_noteOwnColours_73 : decode cX1_noteOwnColours 73 = .ok (.ishl, 1) := by decide +kernel
theorem dX1_noteOwnColours_74 : decode cX1_noteOwnColours 74 = .ok (.ior, 1) := by decide +kernel
theorem dX1_noteOwnColours_75 : decode cX1_noteOwnColours 75 = .ok (.invokevirtual 239, 3) := by decide +kernel
theorem dX1_noteOwnColours_78 : decode cX1_noteOwnColours 78 = .ok (.iinc 3 1, 3) := by decide +kernel
theorem dX1_noteOwnColours_81 : decode cX1_noteOwnColours 81 = .ok (.goto (-48), 3) := by decide +kernel
theorem dX1_noteOwnColours_84 : decode cX1_noteOwnColours 84 = .ok (.return_, 1) := by decide +kernel
theorem dX1_ownColours_0 : decode cX1_ownColours 0 = .ok (.iload_n 1, 1) := by decide +kernel
theorem dX1_ownColours_1 : decode cX1_ownColours 1 = .ok (.ifCond .lt 21, 3) := by decide +kernel
theorem dX1_ownColours_4 : decode cX1_ownColours 4 = .ok (.iload_n 1, 1) := by decide +kernel
theorem dX1_ownColours_5 : decode cX1_ownColours 5 = .ok (.aload_n 0, 1) := by decide +kernel
theorem dX1_ownColours_6 : decode cX1_ownColours 6 = .ok (.getfield 23, 3) := by decide +kernel
theorem dX1_ownColours_9 : decode cX1_ownColours 9 = .ok (.arraylength, 1) := by decide +kernel
theorem dX1_ownColours_10 : decode cX1_ownColours 10 = .ok (.if_icmp .ge 12, 3) := by decide +kernel
theorem dX1_ownColours_13 : decode cX1_ownColours 13 = .ok (.aload_n 0, 1) := by decide +kernel
theorem dX1_ownColours_14 : decode cX1_ownColours 14 = .ok (.getfield 23, 3) := by decide +kernel
theorem dX1_ownColours_17 : decode cX1_ownColours 17 = .ok (.iload_n 1, 1) := by decide +kernel
theorem dX1_ownColours_18 : decode cX1_ownColours 18 = .ok (.iaload, 1) := by decide +kernel
theorem dX1_ownColours_19 : decode cX1_ownColours 19 = .ok (.goto 4, 3) := by decide +kernel
theorem dX1_ownColours_22 : decode cX1_ownColours 22 = .ok (.iconst 0, 1) := by decide +kernel
theorem dX1_ownColours_23 : decode cX1_ownColours 23 = .ok (.ireturn, 1) := by decide +kernel
theorem dX1_setOwnColours_0 : decode cX1_setOwnColours 0 = .ok (.iload_n 1, 1) := by decide +kernel
theorem dX1_setOwnColours_1 : decode cX1_setOwnColours 1 = .ok (.ifCond .lt 19, 3) := by decide +kernel
theorem dX1_setOwnColours_4 : decode cX1_setOwnColours 4 = .ok (.iload_n 1, 1) := by decide +kernel
theorem dX1_setOwnColours_5 : decode cX1_setOwnColours 5 = .ok (.aload_n 0, 1) := by decide +kernel
theorem dX1_setOwnColours_6 : decode cX1_setOwnColours 6 = .ok (.getfield 23, 3) := by decide +kernel
theorem dX1_setOwnColours_9 : decode cX1_setOwnColours 9 = .ok (.arraylength, 1) := by decide +kernel
theorem dX1_setOwnColours_10 : decode cX1_setOwnColours 10 = .ok (.if_icmp .ge 10, 3) := by decide +kernel
theorem dX1_setOwnColours_13 : decode cX1_setOwnColours 13 = .ok (.aload_n 0, 1) := by decide +kernel
theorem dX1_setOwnColours_14 : decode cX1_setOwnColours 14 = .ok (.getfield 23, 3) := by decide +kernel
theorem dX1_setOwnColours_17 : decode cX1_setOwnColours 17 = .ok (.iload_n 1, 1) := by decide +kernel
theorem dX1_setOwnColours_18 : decode cX1_setOwnColours 18 = .ok (.iload_n 2, 1) := by decide +kernel
theorem dX1_setOwnColours_19 : decode cX1_setOwnColours 19 = .ok (.iastore, 1) := by decide +kernel
theorem dX1_setOwnColours_20 : decode cX1_setOwnColours 20 = .ok (.return_, 1) := by decide +kernel
theorem dX1_wouldBeCertain_0 : decode cX1_wouldBeCertain 0 = .ok (.aload_n 0, 1) := by decide +kernel
theorem dX1_wouldBeCertain_1 : decode cX1_wouldBeCertain 1 = .ok (.aload_n 0, 1) := by decide +kernel
theorem dX1_wouldBeCertain_2 : decode cX1_wouldBeCertain 2 = .ok (.iload_n 1, 1) := by decide +kernel
theorem dX1_wouldBeCertain_3 : decode cX1_wouldBeCertain 3 = .ok (.iload_n 2, 1) := by decide +kernel
theorem dX1_wouldBeCertain_4 : decode cX1_wouldBeCertain 4 = .ok (.invokevirtual 236, 3) := by decide +kernel
theorem dX1_wouldBeCertain_7 : decode cX1_wouldBeCertain 7 = .ok (.invokevirtual 242, 3) := by decide +kernel
theorem dX1_wouldBeCertain_10 : decode cX1_wouldBeCertain 10 = .ok (.invokestatic 143, 3) := by decide +kernel
theorem dX1_wouldBeCertain_13 : decode cX1_wouldBeCertain 13 = .ok (.ireturn, 1) := by decide +kernel
theorem dX1_playerAfter_0 : decode cX1_playerAfter 0 = .ok (.iload_n 1, 1) := by decide +kernel
theorem dX1_playerAfter_1 : decode cX1_playerAfter 1 = .ok (.iconst 1, 1) := by decide +kernel
theorem dX1_playerAfter_2 : decode cX1_playerAfter 2 = .ok (.iadd, 1) := by decide +kernel
theorem dX1_playerAfter_3 : decode cX1_playerAfter 3 = .ok (.aload_n 0, 1) := by decide +kernel
theorem dX1_playerAfter_4 : decode cX1_playerAfter 4 = .ok (.getfield 26, 3) := by decide +kernel
theorem dX1_playerAfter_7 : decode cX1_playerAfter 7 = .ok (.if_icmp .ge 9, 3) := by decide +kernel
theorem dX1_playerAfter_10 : decode cX1_playerAfter 10 = .ok (.iload_n 1, 1) := by decide +kernel
theorem dX1_playerAfter_11 : decode cX1_playerAfter 11 = .ok (.iconst 1, 1) := by decide +kernel
theorem dX1_playerAfter_12 : decode cX1_playerAfter 12 = .ok (.iadd, 1) := by decide +kernel
theorem dX1_playerAfter_13 : decode cX1_playerAfter 13 = .ok (.goto 4, 3) := by decide +kernel
theorem dX1_playerAfter_16 : decode cX1_playerAfter 16 = .ok (.iconst 0, 1) := by decide +kernel
theorem dX1_playerAfter_17 : decode cX1_playerAfter 17 = .ok (.ireturn, 1) := by decide +kernel
theorem dX1_passTurn_0 : decode cX1_passTurn 0 = .ok (.aload_n 0, 1) := by decide +kernel
theorem dX1_passTurn_1 : decode cX1_passTurn 1 = .ok (.aload_n 1, 1) := by decide +kernel
theorem dX1_passTurn_2 : decode cX1_passTurn 2 = .ok (.iload_n 2, 1) := by decide +kernel
theorem dX1_passTurn_3 : decode cX1_passTurn 3 = .ok (.invokevirtual 140, 3) := by decide +kernel
theorem dX1_passTurn_6 : decode cX1_passTurn 6 = .ok (.istore_n 3, 1) := by decide +kernel
theorem dX1_passTurn_7 : decode cX1_passTurn 7 = .ok (.aload_n 0, 1) := by decide +kernel
theorem dX1_passTurn_8 : decode cX1_passTurn 8 = .ok (.aload_n 1, 1) := by decide +kernel
theorem dX1_passTurn_9 : decode cX1_passTurn 9 = .ok (.iload_n 2, 1) := by decide +kernel
theorem dX1_passTurn_10 : decode cX1_passTurn 10 = .ok (.iload_n 3, 1) := by decide +kernel
theorem dX1_passTurn_11 : decode cX1_passTurn 11 = .ok (.invokevirtual 245, 3) := by decide +kernel
theorem dX1_passTurn_14 : decode cX1_passTurn 14 = .ok (.iload_n 3, 1) := by decide +kernel
theorem dX1_passTurn_15 : decode cX1_passTurn 15 = .ok (.ifCond .eq 16, 3) := by decide +kernel
theorem dX1_passTurn_18 : decode cX1_passTurn 18 = .ok (.aload_n 1, 1) := by decide +kernel
theorem dX1_passTurn_19 : decode cX1_passTurn 19 = .ok (.iload_n 2, 1) := by decide +kernel
theorem dX1_passTurn_20 : decode cX1_passTurn 20 = .ok (.aload_n 0, 1) := by decide +kernel
theorem dX1_passTurn_21 : decode cX1_passTurn 21 = .ok (.getfield 30, 3) := by decide +kernel
theorem dX1_passTurn_24 : decode cX1_passTurn 24 = .ok (.iload_n 2, 1) := by decide +kernel
theorem dX1_passTurn_25 : decode cX1_passTurn 25 = .ok (.invokestatic 101, 3) := by decide +kernel
theorem dX1_passTurn_28 : decode cX1_passTurn 28 = .ok (.invokestatic 171, 3) := by decide +kernel
theorem dX1_passTurn_31 : decode cX1_passTurn 31 = .ok (.iload_n 3, 1) := by decide +kernel
theorem dX1_passTurn_32 : decode cX1_passTurn 32 = .ok (.ireturn, 1) := by decide +kernel
theorem dX2_init_0 : decode cX2_init 0 = .ok (.aload_n 0, 1) := by decide +kernel
theorem dX2_init_1 : decode cX2_init 1 = .ok (.invokespecial 1, 3) := by decide +kernel
theorem dX2_init_4 : decode cX2_init 4 = .ok (.aload_n 0, 1) := by decide +kernel
theorem dX2_init_5 : decode cX2_init 5 = .ok (.iconst 0, 1) := by decide +kernel
theorem dX2_init_6 : decode cX2_init 6 = .ok (.newarray .int, 2) := by decide +kernel
theorem dX2_init_8 : decode cX2_init 8 = .ok (.putfield 7, 3) := by decide +kernel
theorem dX2_init_11 : decode cX2_init 11 = .ok (.aload_n 0, 1) := by decide +kernel
theorem dX2_init_12 : decode cX2_init 12 = .ok (.iconst 0, 1) := by decide +kernel
theorem dX2_init_13 : decode cX2_init 13 = .ok (.anewarray 13, 3) := by decide +kernel
theorem dX2_init_16 : decode cX2_init 16 = .ok (.putfield 15, 3) := by decide +kernel
theorem dX2_init_19 : decode cX2_init 19 = .ok (.aload_n 0, 1) := by decide +kernel
theorem dX2_init_20 : decode cX2_init 20 = .ok (.iconst 1, 1) := by decide +kernel
theorem dX2_init_21 : decode cX2_init 21 = .ok (.anewarray 19, 3) := by decide +kernel
theorem dX2_init_24 : decode cX2_init 24 = .ok (.dup, 1) := by decide +kernel
theorem dX2_init_25 : decode cX2_init 25 = .ok (.iconst 0, 1) := by decide +kernel
theorem dX2_init_26 : decode cX2_init 26 = .ok (.iconst 0, 1) := by decide +kernel
theorem dX2_init_27 : decode cX2_init 27 = .ok (.newarray .int, 2) := by decide +kernel
theorem dX2_init_29 : decode cX2_init 29 = .ok (.aastore, 1) := by decide +kernel
theorem dX2_init_30 : decode cX2_init 30 = .ok (.putfield 20, 3) := by decide +kernel
theorem dX2_init_33 : decode cX2_init 33 = .ok (.aload_n 0, 1) := by decide +kernel
theorem dX2_init_34 : decode cX2_init 34 = .ok (.iconst 1, 1) := by decide +kernel
theorem dX2_init_35 : decode cX2_init 35 = .ok (.newarray .boolean, 2) := by decide +kernel
theorem dX2_init_37 : decode cX2_init 37 = .ok (.dup, 1) := by decide +kernel
theorem dX2_init_38 : decode cX2_init 38 = .ok (.iconst 0, 1) := by decide +kernel
theorem dX2_init_39 : decode cX2_init 39 = .ok (.iconst 1, 1) := by decide +kernel
theorem dX2_init_40 : decode cX2_init 40 = .ok (.bastore, 1) := by decide +kernel
theorem dX2_init_41 : decode cX2_init 41 = .ok (.putfield 24, 3) := by decide +kernel
theorem dX2_init_44 : decode cX2_init 44 = .ok (.return_, 1) := by decide +kernel
theorem dX2_add_0 : decode cX2_add 0 = .ok (.aload_n 0, 1) := by decide +kernel
theorem dX2_add_1 : decode cX2_add 1 = .ok (.getfield 27, 3) := by decide +kernel
theorem dX2_add_4 : decode cX2_add 4 = .ok (.iconst 1, 1) := by decide +kernel
theorem dX2_add_5 : decode cX2_add 5 = .ok (.iadd, 1) := by decide +kernel
theorem dX2_add_6 : decode cX2_add 6 = .ok (.newarray .int, 2) := by decide +kernel
theorem dX2_add_8 : decode cX2_add 8 = .ok (.astore_n 2, 1) := by decide +kernel
theorem dX2_add_9 : decode cX2_add 9 = .ok (.iconst 0, 1) := by decide +kernel
theorem dX2_add_10 : decode cX2_add 10 = .ok (.istore_n 3, 1) := by decide +kernel
theorem dX2_add_11 : decode cX2_add 11 = .ok (.iload_n 3, 1) := by decide +kernel
theorem dX2_add_12 : decode cX2_add 12 = .ok (.aload_n 0, 1) := by decide +kernel
theorem dX2_add_13 : decode cX2_add 13 = .ok (.getfield 27, 3) := by decide +kernel
theorem dX2_add_16 : decode cX2_add 16 = .ok (.if_icmp .ge 18, 3) := by decide +kernel
theorem dX2_add_19 : decode cX2_add 19 = .ok (.aload_n 2, 1) := by decide +kernel
theorem dX2_add_20 : decode cX2_add 20 = .ok (.iload_n 3, 1) := by decide +kernel
theorem dX2_add_21 : decode cX2_add 21 = .ok (.aload_n 0, 1) := by decide +kernel
theorem dX2_add_22 : decode cX2_add 22 = .ok (.getfield 7, 3) := by decide +kernel
theorem dX2_add_25 : decode cX2_add 25 = .ok (.iload_n 3, 1) := by decide +kernel
theorem dX2_add_26 : decode cX2_add 26 = .ok (.iaload, 1) := by decide +kernel
theorem dX2_add_27 : decode cX2_add 27 = .ok (.iastore, 1) := by decide +kernel
theorem dX2_add_28 : decode cX2_add 28 = .ok (.iinc 3 1, 3) := by decide +kernel
theorem dX2_add_31 : decode cX2_add 31 = .ok (.goto (-20), 3) := by decide +kernel
theorem dX2_add_34 : decode cX2_add 34 = .ok (.aload_n 2, 1) := by decide +kernel
theorem dX2_add_35 : decode cX2_add 35 = .ok (.aload_n 0, 1) := by decide +kernel
theorem dX2_add_36 : decode cX2_add 36 = .ok (.getfield 27, 3) := by decide +kernel
theorem dX2_add_39 : decode cX2_add 39 = .ok (.iload_n 1, 1) := by decide +kernel
theorem dX2_add_40 : decode cX2_add 40 = .ok (.iastore, 1) := by decide +kernel
theorem dX2_add_41 : decode cX2_add 41 = .ok (.aload_n 0, 1) := by decide +kernel
theorem dX2_add_42 : decode cX2_add 42 = .ok (.aload_n 2, 1) := by decide +kernel
theorem dX2_add_43 : decode cX2_add 43 = .ok (.putfield 7, 3) := by decide +kernel
theorem dX2_add_46 : decode cX2_add 46 = .ok (.aload_n 0, 1) := by decide +kernel
theorem dX2_add_47 : decode cX2_add 47 = .ok (.getfield 27, 3) := by decide +kernel
theorem dX2_add_50 : decode cX2_add 50 = .ok (.iconst 1, 1) := by decide +kernel
theorem dX2_add_51 : decode cX2_add 51 = .ok (.iadd, 1) := by decide +kernel
theorem dX2_add_52 : decode cX2_add 52 = .ok (.aload_n 0, 1) := by decide +kernel
theorem dX2_add_53 : decode cX2_add 53 = .ok (.getfield 27, 3) := by decide +kernel
theorem dX2_add_56 : decode cX2_add 56 = .ok (.iconst 1, 1) := by decide +kernel
theorem dX2_add_57 : decode cX2_add 57 = .ok (.iadd, 1) := by decide +kernel
theorem dX2_add_58 : decode cX2_add 58 = .ok (.multianewarray 31 2, 4) := by decide +kernel
theorem dX2_add_62 : decode cX2_add 62 = .ok (.astore_n 3, 1) := by decide +kernel
theorem dX2_add_63 : decode cX2_add 63 = .ok (.iconst 0, 1) := by decide +kernel
theorem dX2_add_64 : decode cX2_add 64 = .ok (.istore 4, 2) := by decide +kernel
theorem dX2_add_66 : decode cX2_add 66 = .ok (.iload 4, 2) := by decide +kernel
theorem dX2_add_68 : decode cX2_add 68 = .ok (.aload_n 0, 1) := by decide +kernel
theorem dX2_add_69 : decode cX2_add 69 = .ok (.getfield 27, 3) := by decide +kernel
theorem dX2_add_72 : decode cX2_add 72 = .ok (.if_icmp .gt 77, 3) := by decide +kernel
theorem dX2_add_75 : decode cX2_add 75 = .ok (.iconst 0, 1) := by decide +kernel
theorem dX2_add_76 : decode cX2_add 76 = .ok (.istore 5, 2) := by decide +kernel
theorem dX2_add_78 : decode cX2_add 78 = .ok (.iload 5, 2) := by decide +kernel
theorem dX2_add_80 : decode cX2_add 80 = .ok (.aload_n 0, 1) := by decide +kernel
theorem dX2_add_81 : decode cX2_add 81 = .ok (.getfield 27, 3) := by decide +kernel
theorem dX2_add_84 : decode cX2_add 84 = .ok (.if_icmp .gt 59, 3) := by decide +kernel
theorem dX2_add_87 : decode cX2_add 87 = .ok (.aload_n 3, 1) := by decide +kernel
theorem dX2_add_88 : decode cX2_add 88 = .ok (.iload 4, 2) := by decide +kernel
theorem dX2_add_90 : decode cX2_add 90 = .ok (.aaload, 1) := by decide +kernel
theorem dX2_add_91 : decode cX2_add 91 = .ok (.iload 5, 2) := by decide +kernel
theorem dX2_add_93 : decode cX2_add 93 = .ok (.iload 4, 2) := by decide +kernel
theorem dX2_add_95 : decode cX2_add 95 = .ok (.iload 5, 2) := by decide +kernel
theorem dX2_add_97 : decode cX2_add 97 = .ok (.if_icmp .eq 38, 3) := by decide +kernel
theorem dX2_add_100 : decode cX2_add 100 = .ok (.iload 4, 2) := by decide +kernel
theorem dX2_add_102 : decode cX2_add 102 = .ok (.aload_n 0, 1) := by decide +kernel
theorem dX2_add_103 : decode cX2_add 103 = .ok (.getfield 27, 3) := by decide +kernel
theorem dX2_add_106 : decode cX2_add 106 = .ok (.if_icmp .eq 25, 3) := by decide +kernel
theorem dX2_add_109 : decode cX2_add 109 = .ok (.iload 5, 2) := by decide +kernel
theorem dX2_add_111 : decode cX2_add 111 = .ok (.aload_n 0, 1) := by decide +kernel
theorem dX2_add_112 : decode cX2_add 112 = .ok (.getfield 27, 3) := by decide +kernel
theorem dX2_add_115 : decode cX2_add 115 = .ok (.if_icmp .eq 16, 3) := by decide +kernel
theorem dX2_add_118 : decode cX2_add 118 = .ok (.aload_n 0, 1) := by decide +kernel
theorem dX2_add_119 : decode cX2_add 119 = .ok (.getfield 15, 3) := by decide +kernel
theorem dX2_add_122 : decode cX2_add 122 = .ok (.iload 4, 2) := by decide +kernel
theorem dX2_add_124 : decode cX2_add 124 = .ok (.aaload, 1) := by decide +kernel
theorem dX2_add_125 : decode cX2_add 125 = .ok (.iload 5, 2) := by decide +kernel
theorem dX2_add_127 : decode cX2_add 127 = .ok (.baload, 1) := by decide +kernel
theorem dX2_add_128 : decode cX2_add 128 = .ok (.ifCond .eq 7, 3) := by decide +kernel
theorem dX2_add_131 : decode cX2_add 131 = .ok (.iconst 1, 1) := by decide +kernel
theorem dX2_add_132 : decode cX2_add 132 = .ok (.goto 4, 3) := by decide +kernel
theorem dX2_add_135 : decode cX2_add 135 = .ok (.iconst 0, 1) := by decide +kernel
theorem dX2_add_136 : decode cX2_add 136 = .ok (.bastore, 1) := by decide +kernel
theorem dX2_add_137 : decode cX2_add 137 = .ok (.iinc 5 1, 3) := by decide +kernel
theorem dX2_add_140 : decode cX2_add 140 = .ok (.goto (-62), 3) := by decide +kernel
theorem dX2_add_143 : decode cX2_add 143 = .ok (.iinc 4 1, 3) := by decide +kernel
theorem dX2_add_146 : decode cX2_add 146 = .ok (.goto (-80), 3) := by decide +kernel
theorem dX2_add_149 : decode cX2_add 149 = .ok (.aload_n 0, 1) := by decide +kernel
theorem dX2_add_150 : decode cX2_add 150 = .ok (.aload_n 3, 1) := by decide +kernel
theorem dX2_add_151 : decode cX2_add 151 = .ok (.putfield 15, 3) := by decide +kernel
theorem dX2_add_154 : decode cX2_add 154 = .ok (.aload_n 0, 1) := by decide +kernel
theorem dX2_add_155 : decode cX2_add 155 = .ok (.dup, 1) := by decide +kernel
theorem dX2_add_156 : decode cX2_add 156 = .ok (.getfield 27, 3) := by decide +kernel
theorem dX2_add_159 : decode cX2_add 159 = .ok (.iconst 1, 1) := by decide +kernel
theorem dX2_add_160 : decode cX2_add 160 = .ok (.iadd, 1) := by decide +kernel
theorem dX2_add_161 : decode cX2_add 161 = .ok (.putfield 27, 3) := by decide +kernel
theorem dX2_add_164 : decode cX2_add 164 = .ok (.aload_n 0, 1) := by decide +kernel
theorem dX2_add_165 : decode cX2_add 165 = .ok (.invokevirtual 32, 3) := by decide +kernel
theorem dX2_add_168 : decode cX2_add 168 = .ok (.return_, 1) := by decide +kernel
theorem dX2_all_0 : decode cX2_all 0 = .ok (.iconst 1, 1) := by decide +kernel
theorem dX2_all_1 : decode cX2_all 1 = .ok (.istore_n 1, 1) := by decide +kernel
theorem dX2_all_2 : decode cX2_all 2 = .ok (.iconst 0, 1) := by decide +kernel
theorem dX2_all_3 : decode cX2_all 3 = .ok (.istore_n 2, 1) := by decide +kernel
theorem dX2_all_4 : decode cX2_all 4 = .ok (.iload_n 2, 1) := by decide +kernel
theorem dX2_all_5 : decode cX2_all 5 = .ok (.aload_n 0, 1) := by decide +kernel
theorem dX2_all_6 : decode cX2_all 6 = .ok (.getfield 27, 3) := by decide +kernel
theorem dX2_all_9 : decode cX2_all 9 = .ok (.if_icmp .ge 13, 3) := by decide +kernel
theorem dX2_all_12 : decode cX2_all 12 = .ok (.iload_n 1, 1) := by decide +kernel
theorem dX2_all_13 : decode cX2_all 13 = .ok (.iconst 3, 1) := by decide +kernel
theorem dX2_all_14 : decode cX2_all 14 = .ok (.imul, 1) := by decide +kernel
theorem dX2_all_15 : decode cX2_all 15 = .ok (.istore_n 1, 1) := by decide +kernel
theorem dX2_all_16 : decode cX2_all 16 = .ok (.iinc 2 1, 3) := by decide +kernel
theorem dX2_all_19 : decode cX2_all 19 = .ok (.goto (-15), 3) := by decide +kernel
theorem dX2_all_22 : decode cX2_all 22 = .ok (.aload_n 0, 1) := by decide +kernel
theorem dX2_all_23 : decode cX2_all 23 = .ok (.iload_n 1, 1) := by decide +kernel
theorem dX2_all_24 : decode cX2_all 24 = .ok (.aload_n 0, 1) := by decide +kernel
theorem dX2_all_25 : decode cX2_all 25 = .ok (.getfield 27, 3) := by decide +kernel
theorem dX2_all_28 : decode cX2_all 28 = .ok (.multianewarray 35 2, 4) := by decide +kernel
theorem dX2_all_32 : decode cX2_all 32 = .ok (.putfield 20, 3) := by decide +kernel
theorem dX2_all_35 : decode cX2_all 35 = .ok (.aload_n 0, 1) := by decide +kernel
theorem dX2_all_36 : decode cX2_all 36 = .ok (.iload_n 1, 1) := by decide +kernel
theorem dX2_all_37 : decode cX2_all 37 = .ok (.newarray .boolean, 2) := by decide +kernel
theorem dX2_all_39 : decode cX2_all 39 = .ok (.putfield 24, 3) := by decide +kernel
theorem dX2_all_42 : decode cX2_all 42 = .ok (.iconst 0, 1) := by decide +kernel
theorem dX2_all_43 : decode cX2_all 43 = .ok (.istore_n 2, 1) := by decide +kernel
theorem dX2_all_44 : decode cX2_all 44 = .ok (.iload_n 2, 1) := by decide +kernel
theorem dX2_all_45 : decode cX2_all 45 = .ok (.iload_n 1, 1) := by decide +kernel
theorem dX2_all_46 : decode cX2_all 46 = .ok (.if_icmp .ge 52, 3) := by decide +kernel
theorem dX2_all_49 : decode cX2_all 49 = .ok (.iload_n 2, 1) := by decide +kernel
theorem dX2_all_50 : decode cX2_all 50 = .ok (.istore_n 3, 1) := by decide +kernel
theorem dX2_all_51 : decode cX2_all 51 = .ok (.aload_n 0, 1) := by decide +kernel
theorem dX2_all_52 : decode cX2_all 52 = .ok (.getfield 24, 3) := by decide +kernel
theorem dX2_all_55 : decode cX2_all 55 = .ok (.iload_n 2, 1) := by decide +kernel
theorem dX2_all_56 : decode cX2_all 56 = .ok (.iconst 1, 1) := by decide +kernel
theorem dX2_all_57 : decode cX2_all 57 = .ok (.bastore, 1) := by decide +kernel
theorem dX2_all_58 : decode cX2_all 58 = .ok (.iconst 0, 1) := by decide +kernel
theorem dX2_all_59 : decode cX2_all 59 = .ok (.istore 4, 2) := by decide +kernel
theorem dX2_all_61 : decode cX2_all 61 = .ok (.iload 4, 2) := by decide +kernel
theorem dX2_all_63 : decode cX2_all 63 = .ok (.aload_n 0, 1) := by decide +kernel
theorem dX2_all_64 : decode cX2_all 64 = .ok (.getfield 27, 3) := by decide +kernel
theorem dX2_all_67 : decode cX2_all 67 = .ok (.if_icmp .ge 25, 3) := by decide +kernel
theorem dX2_all_70 : decode cX2_all 70 = .ok (.aload_n 0, 1) := by decide +kernel
theorem dX2_all_71 : decode cX2_all 71 = .ok (.getfield 20, 3) := by decide +kernel
theorem dX2_all_74 : decode cX2_all 74 = .ok (.iload_n 2, 1) := by decide +kernel
theorem dX2_all_75 : decode cX2_all 75 = .ok (.aaload, 1) := by decide +kernel
theorem dX2_all_76 : decode cX2_all 76 = .ok (.iload 4, 2) := by decide +kernel
theorem dX2_all_78 : decode cX2_all 78 = .ok (.iload_n 3, 1) := by decide +kernel
theorem dX2_all_79 : decode cX2_all 79 = .ok (.iconst 3, 1) := by decide +kernel
theorem dX2_all_80 : decode cX2_all 80 = .ok (.irem, 1) := by decide +kernel
theorem dX2_all_81 : decode cX2_all 81 = .ok (.iastore, 1) := by decide +kernel
theorem dX2_all_82 : decode cX2_all 82 = .ok (.iload_n 3, 1) := by decide +kernel
theorem dX2_all_83 : decode cX2_all 83 = .ok (.iconst 3, 1) := by decide +kernel
theorem dX2_all_84 : decode cX2_all 84 = .ok (.idiv, 1) := by decide +kernel
theorem dX2_all_85 : decode cX2_all 85 = .ok (.istore_n 3, 1) := by decide +kernel
theorem dX2_all_86 : decode cX2_all 86 = .ok (.iinc 4 1, 3) := by decide +kernel
theorem dX2_all_89 : decode cX2_all 89 = .ok (.goto (-28), 3) := by decide +kernel
theorem dX2_all_92 : decode cX2_all 92 = .ok (.iinc 2 1, 3) := by decide +kernel
theorem dX2_all_95 : decode cX2_all 95 = .ok (.goto (-51), 3) := by decide +kernel
theorem dX2_all_98 : decode cX2_all 98 = .ok (.return_, 1) := by decide +kernel
theorem dX2_agree_0 : decode cX2_agree 0 = .ok (.iconst 0, 1) := by decide +kernel
theorem dX2_agree_1 : decode cX2_agree 1 = .ok (.istore 4, 2) := by decide +kernel
theorem dX2_agree_3 : decode cX2_agree 3 = .ok (.iload 4, 2) := by decide +kernel
theorem dX2_agree_5 : decode cX2_agree 5 = .ok (.aload_n 0, 1) := by decide +kernel
theorem dX2_agree_6 : decode cX2_agree 6 = .ok (.getfield 27, 3) := by decide +kernel
theorem dX2_agree_9 : decode cX2_agree 9 = .ok (.if_icmp .ge 34, 3) := by decide +kernel
theorem dX2_agree_12 : decode cX2_agree 12 = .ok (.aload_n 0, 1) := by decide +kernel
theorem dX2_agree_13 : decode cX2_agree 13 = .ok (.getfield 15, 3) := by decide +kernel
theorem dX2_agree_16 : decode cX2_agree 16 = .ok (.iload_n 1, 1) := by decide +kernel
theorem dX2_agree_17 : decode cX2_agree 17 = .ok (.aaload, 1) := by decide +kernel
theorem dX2_agree_18 : decode cX2_agree 18 = .ok (.iload 4, 2) := by decide +kernel
theorem dX2_agree_20 : decode cX2_agree 20 = .ok (.baload, 1) := by decide +kernel
theorem dX2_agree_21 : decode cX2_agree 21 = .ok (.ifCond .eq 16, 3) := by decide +kernel
theorem dX2_agree_24 : decode cX2_agree 24 = .ok (.aload_n 2, 1) := by decide +kernel
theorem dX2_agree_25 : decode cX2_agree 25 = .ok (.iload 4, 2) := by decide +kernel
theorem dX2_agree_27 : decode cX2_agree 27 = .ok (.iaload, 1) := by decide +kernel
theorem dX2_agree_28 : decode cX2_agree 28 = .ok (.aload_n 3, 1) := by decide +kernel
theorem dX2_agree_29 : decode cX2_agree 29 = .ok (.iload 4, 2) := by decide +kernel
theorem dX2_agree_31 : decode cX2_agree 31 = .ok (.iaload, 1) := by decide +kernel
theorem dX2_agree_32 : decode cX2_agree 32 = .ok (.if_icmp .eq 5, 3) := by decide +kernel
theorem dX2_agree_35 : decode cX2_agree 35 = .ok (.iconst 0, 1) := by decide +kernel
theorem dX2_agree_36 : decode cX2_agree 36 = .ok (.ireturn, 1) := by decide +kernel
theorem dX2_agree_37 : decode cX2_agree 37 = .ok (.iinc 4 1, 3) := by decide +kernel
theorem dX2_agree_40 : decode cX2_agree 40 = .ok (.goto (-37), 3) := by decide +kernel
theorem dX2_agree_43 : decode cX2_agree 43 = .ok (.iconst 1, 1) := by decide +kernel
theorem dX2_agree_44 : decode cX2_agree 44 = .ok (.ireturn, 1) := by decide +kernel
theorem dX2_isSure_0 : decode cX2_isSure 0 = .ok (.iconst (-1), 1) := by decide +kernel
theorem dX2_isSure_1 : decode cX2_isSure 1 = .ok (.istore 4, 2) := by decide +kernel
theorem dX2_isSure_3 : decode cX2_isSure 3 = .ok (.iconst 0, 1) := by decide +kernel
theorem dX2_isSure_4 : decode cX2_isSure 4 = .ok (.istore 5, 2) := by decide +kernel
theorem dX2_isSure_6 : decode cX2_isSure 6 = .ok (.iload 5, 2) := by decide +kernel
theorem dX2_isSure_8 : decode cX2_isSure 8 = .ok (.aload_n 0, 1) := by decide +kernel
theorem dX2_isSure_9 : decode cX2_isSure 9 = .ok (.getfield 20, 3) := by decide +kernel
theorem dX2_isSure_12 : decode cX2_isSure 12 = .ok (.arraylength, 1) := by decide +kernel
theorem dX2_isSure_13 : decode cX2_isSure 13 = .ok (.if_icmp .ge 70, 3) := by decide +kernel
theorem dX2_isSure_16 : decode cX2_isSure 16 = .ok (.aload_n 0, 1) := by decide +kernel
theorem dX2_isSure_17 : decode cX2_isSure 17 = .ok (.getfield 24, 3) := by decide +kernel
theorem dX2_isSure_20 : decode cX2_isSure 20 = .ok (.iload 5, 2) := by decide +kernel
theorem dX2_isSure_22 : decode cX2_isSure 22 = .ok (.baload, 1) := by decide +kernel
theorem dX2_isSure_23 : decode cX2_isSure 23 = .ok (.ifCond .eq 54, 3) := by decide +kernel
theorem dX2_isSure_26 : decode cX2_isSure 26 = .ok (.aload_n 0, 1) := by decide +kernel
theorem dX2_isSure_27 : decode cX2_isSure 27 = .ok (.iload_n 1, 1) := by decide +kernel
theorem dX2_isSure_28 : decode cX2_isSure 28 = .ok (.aload_n 3, 1) := by decide +kernel
theorem dX2_isSure_29 : decode cX2_isSure 29 = .ok (.aload_n 0, 1) := by decide +kernel
theorem dX2_isSure_30 : decode cX2_isSure 30 = .ok (.getfield 20, 3) := by decide +kernel
theorem dX2_isSure_33 : decode cX2_isSure 33 = .ok (.iload 5, 2) := by decide +kernel
theorem dX2_isSure_35 : decode cX2_isSure 35 = .ok (.aaload, 1) := by decide +kernel
theorem dX2_isSure_36 : decode cX2_isSure 36 = .ok (.invokevirtual 36, 3) := by decide +kernel
theorem dX2_isSure_39 : decode cX2_isSure 39 = .ok (.ifCond .ne 6, 3) := by decide +kernel
theorem dX2_isSure_42 : decode cX2_isSure 42 = .ok (.goto 35, 3) := by decide +kernel
theorem dX2_isSure_45 : decode cX2_isSure 45 = .ok (.iload 4, 2) := by decide +kernel
theorem dX2_isSure_47 : decode cX2_isSure 47 = .ok (.ifCond .lt 19, 3) := by decide +kernel
theorem dX2_isSure_50 : decode cX2_isSure 50 = .ok (.iload 4, 2) := by decide +kernel
theorem dX2_isSure_52 : decode cX2_isSure 52 = .ok (.aload_n 0, 1) := by decide +kernel
theorem dX2_isSure_53 : decode cX2_isSure 53 = .ok (.getfield 20, 3) := by decide +kernel
theorem dX2_isSure_56 : decode cX2_isSure 56 = .ok (.iload 5, 2) := by decide +kernel
theorem dX2_isSure_58 : decode cX2_isSure 58 = .ok (.aaload, 1) := by decide +kernel
theorem dX2_isSure_59 : decode cX2_isSure 59 = .ok (.iload_n 2, 1) := by decide +kernel
theorem dX2_isSure_60 : decode cX2_isSure 60 = .ok (.iaload, 1) := by decide +kernel
theorem dX2_isSure_61 : decode cX2_isSure 61 = .ok (.if_icmp .eq 5, 3) := by decide +kernel
theorem dX2_isSure_64 : decode cX2_isSure 64 = .ok (.iconst 0, 1) := by decide +kernel
theorem dX2_isSure_65 : decode cX2_isSure 65 = .ok (.ireturn, 1) := by decide +kernel
theorem dX2_isSure_66 : decode cX2_isSure 66 = .ok (.aload_n 0, 1) := by decide +kernel
theorem dX2_isSure_67 : decode cX2_isSure 67 = .ok (.getfield 20, 3) := by decide +kernel
theorem dX2_isSure_70 : decode cX2_isSure 70 = .ok (.iload 5, 2) := by decide +kernel
theorem dX2_isSure_72 : decode cX2_isSure 72 = .ok (.aaload, 1) := by decide +kernel
theorem dX2_isSure_73 : decode cX2_isSure 73 = .ok (.iload_n 2, 1) := by decide +kernel
theorem dX2_isSure_74 : decode cX2_isSure 74 = .ok (.iaload, 1) := by decide +kernel
theorem dX2_isSure_75 : decode cX2_isSure 75 = .ok (.istore 4, 2) := by decide +kernel
theorem dX2_isSure_77 : decode cX2_isSure 77 = .ok (.iinc 5 1, 3) := by decide +kernel
theorem dX2_isSure_80 : decode cX2_isSure 80 = .ok (.goto (-74), 3) := by decide +kernel
theorem dX2_isSure_83 : decode cX2_isSure 83 = .ok (.iload 4, 2) := by decide +kernel
theorem dX2_isSure_85 : decode cX2_isSure 85 = .ok (.ifCond .lt 7, 3) := by decide +kernel
theorem dX2_isSure_88 : decode cX2_isSure 88 = .ok (.iconst 1, 1) := by decide +kernel
theorem dX2_isSure_89 : decode cX2_isSure 89 = .ok (.goto 4, 3) := by decide +kernel
theorem dX2_isSure_92 : decode cX2_isSure 92 = .ok (.iconst 0, 1) := by decide +kernel
theorem dX2_isSure_93 : decode cX2_isSure 93 = .ok (.ireturn, 1) := by decide +kernel
theorem dX2_turn_0 : decode cX2_turn 0 = .ok (.aload_n 0, 1) := by decide +kernel
theorem dX2_turn_1 : decode cX2_turn 1 = .ok (.getfield 40, 3) := by decide +kernel
theorem dX2_turn_4 : decode cX2_turn 4 = .ok (.aload_n 0, 1) := by decide +kernel
theorem dX2_turn_5 : decode cX2_turn 5 = .ok (.getfield 27, 3) := by decide +kernel
theorem dX2_turn_8 : decode cX2_turn 8 = .ok (.irem, 1) := by decide +kernel
theorem dX2_turn_9 : decode cX2_turn 9 = .ok (.istore_n 1, 1) := by decide +kernel
theorem dX2_turn_10 : decode cX2_turn 10 = .ok (.aload_n 0, 1) := by decide +kernel
theorem dX2_turn_11 : decode cX2_turn 11 = .ok (.iload_n 1, 1) := by decide +kernel
theorem dX2_turn_12 : decode cX2_turn 12 = .ok (.iload_n 1, 1) := by decide +kernel
theorem dX2_turn_13 : decode cX2_turn 13 = .ok (.aload_n 0, 1) := by decide +kernel
theorem dX2_turn_14 : decode cX2_turn 14 = .ok (.getfield 7, 3) := by decide +kernel
theorem dX2_turn_17 : decode cX2_turn 17 = .ok (.invokevirtual 43, 3) := by decide +kernel
theorem dX2_turn_20 : decode cX2_turn 20 = .ok (.istore_n 2, 1) := by decide +kernel
theorem dX2_turn_21 : decode cX2_turn 21 = .ok (.aload_n 0, 1) := by decide +kernel
theorem dX2_turn_22 : decode cX2_turn 22 = .ok (.getfield 24, 3) := by decide +kernel
theorem dX2_turn_25 : decode cX2_turn 25 = .ok (.arraylength, 1) := by decide +kernel
theorem dX2_turn_26 : decode cX2_turn 26 = .ok (.newarray .boolean, 2) := by decide +kernel
theorem dX2_turn_28 : decode cX2_turn 28 = .ok (.astore_n 3, 1) := by decide +kernel
theorem dX2_turn_29 : decode cX2_turn 29 = .ok (.iconst 0, 1) := by decide +kernel
theorem dX2_turn_30 : decode cX2_turn 30 = .ok (.istore 4, 2) := by decide +kernel
theorem dX2_turn_32 : decode cX2_turn 32 = .ok (.iload 4, 2) := by decide +kernel
theorem dX2_turn_34 : decode cX2_turn 34 = .ok (.aload_n 0, 1) := by decide +kernel
theorem dX2_turn_35 : decode cX2_turn 35 = .ok (.getfield 20, 3) := by decide +kernel
theorem dX2_turn_38 : decode cX2_turn 38 = .ok (.arraylength, 1) := by decide +kernel
theorem dX2_turn_39 : decode cX2_turn 39 = .ok (.if_icmp .ge 67, 3) := by decide +kernel
theorem dX2_turn_42 : decode cX2_turn 42 = .ok (.aload_n 3, 1) := by decide +kernel
theorem dX2_turn_43 : decode cX2_turn 43 = .ok (.iload 4, 2) := by decide +kernel
theorem dX2_turn_45 : decode cX2_turn 45 = .ok (.aload_n 0, 1) := by decide +kernel
theorem dX2_turn_46 : decode cX2_turn 46 = .ok (.getfield 24, 3) := by decide +kernel
theorem dX2_turn_49 : decode cX2_turn 49 = .ok (.iload 4, 2) := by decide +kernel
theorem dX2_turn_51 : decode cX2_turn 51 = .ok (.baload, 1) := by decide +kernel
theorem dX2_turn_52 : decode cX2_turn 52 = .ok (.ifCond .eq 46, 3) := by decide +kernel
theorem dX2_turn_55 : decode cX2_turn 55 = .ok (.aload_n 0, 1) := by decide +kernel
theorem dX2_turn_56 : decode cX2_turn 56 = .ok (.iload_n 1, 1) := by decide +kernel
theorem dX2_turn_57 : decode cX2_turn 57 = .ok (.iload_n 1, 1) := by decide +kernel
theorem dX2_turn_58 : decode cX2_turn 58 = .ok (.aload_n 0, 1) := by decide +kernel
theorem dX2_turn_59 : decode cX2_turn 59 = .ok (.getfield 20, 3) := by decide +kernel
theorem dX2_turn_62 : decode cX2_turn 62 = .ok (.iload 4, 2) := by decide +kernel
theorem dX2_turn_64 : decode cX2_turn 64 = .ok (.aaload, 1) := by decide +kernel
theorem dX2_turn_65 : decode cX2_turn 65 = .ok (.invokevirtual 43, 3) := by decide +kernel
theorem dX2_turn_68 : decode cX2_turn 68 = .ok (.iload_n 2, 1) := by decide +kernel
theorem dX2_turn_69 : decode cX2_turn 69 = .ok (.if_icmp .ne 29, 3) := by decide +kernel
theorem dX2_turn_72 : decode cX2_turn 72 = .ok (.iload_n 2, 1) := by decide +kernel
theorem dX2_turn_73 : decode cX2_turn 73 = .ok (.ifCond .eq 21, 3) := by decide +kernel
theorem dX2_turn_76 : decode cX2_turn 76 = .ok (.aload_n 0, 1) := by decide +kernel
theorem dX2_turn_77 : decode cX2_turn 77 = .ok (.getfield 20, 3) := by decide +kernel
theorem dX2_turn_80 : decode cX2_turn 80 = .ok (.iload 4, 2) := by decide +kernel
theorem dX2_turn_82 : decode cX2_turn 82 = .ok (.aaload, 1) := by decide +kernel
theorem dX2_turn_83 : decode cX2_turn 83 = .ok (.iload_n 1, 1) := by decide +kernel
theorem dX2_turn_84 : decode cX2_turn 84 = .ok (.iaload, 1) := by decide +kernel
theorem dX2_turn_85 : decode cX2_turn 85 = .ok (.aload_n 0, 1) := by decide +kernel
theorem dX2_turn_86 : decode cX2_turn 86 = .ok (.getfield 7, 3) := by decide +kernel
theorem dX2_turn_89 : decode cX2_turn 89 = .ok (.iload_n 1, 1) := by decide +kernel
theorem dX2_turn_90 : decode cX2_turn 90 = .ok (.iaload, 1) := by decide +kernel
theorem dX2_turn_91 : decode cX2_turn 91 = .ok (.if_icmp .ne 7, 3) := by decide +kernel
theorem dX2_turn_94 : decode cX2_turn 94 = .ok (.iconst 1, 1) := by decide +kernel
theorem dX2_turn_95 : decode cX2_turn 95 = .ok (.goto 4, 3) := by decide +kernel
theorem dX2_turn_98 : decode cX2_turn 98 = .ok (.iconst 0, 1) := by decide +kernel
theorem dX2_turn_99 : decode cX2_turn 99 = .ok (.bastore, 1) := by decide +kernel
theorem dX2_turn_100 : decode cX2_turn 100 = .ok (.iinc 4 1, 3) := by decide +kernel
theorem dX2_turn_103 : decode cX2_turn 103 = .ok (.goto (-71), 3) := by decide +kernel
theorem dX2_turn_106 : decode cX2_turn 106 = .ok (.aload_n 0, 1) := by decide +kernel
theorem dX2_turn_107 : decode cX2_turn 107 = .ok (.aload_n 3, 1) := by decide +kernel
theorem dX2_turn_108 : decode cX2_turn 108 = .ok (.putfield 24, 3) := by decide +kernel
theorem dX2_turn_111 : decode cX2_turn 111 = .ok (.aload_n 0, 1) := by decide +kernel
theorem dX2_turn_112 : decode cX2_turn 112 = .ok (.dup, 1) := by decide +kernel
theorem dX2_turn_113 : decode cX2_turn 113 = .ok (.getfield 40, 3) := by decide +kernel
theorem dX2_turn_116 : decode cX2_turn 116 = .ok (.iconst 1, 1) := by decide +kernel
theorem dX2_turn_117 : decode cX2_turn 117 = .ok (.iadd, 1) := by decide +kernel
theorem dX2_turn_118 : decode cX2_turn 118 = .ok (.putfield 40, 3) := by decide +kernel
theorem dX2_turn_121 : decode cX2_turn 121 = .ok (.aload_n 0, 1) := by decide +kernel
theorem dX2_turn_122 : decode cX2_turn 122 = .ok (.dup, 1) := by decide +kernel
theorem dX2_turn_123 : decode cX2_turn 123 = .ok (.getfield 47, 3) := by decide +kernel
theorem dX2_turn_126 : decode cX2_turn 126 = .ok (.iload_n 2, 1) := by decide +kernel
theorem dX2_turn_127 : decode cX2_turn 127 = .ok (.ifCond .eq 7, 3) := by decide +kernel
theorem dX2_turn_130 : decode cX2_turn 130 = .ok (.iconst 0, 1) := by decide +kernel
theorem dX2_turn_131 : decode cX2_turn 131 = .ok (.goto 4, 3) := by decide +kernel
theorem dX2_turn_134 : decode cX2_turn 134 = .ok (.iconst 1, 1) := by decide +kernel
theorem dX2_turn_135 : decode cX2_turn 135 = .ok (.iadd, 1) := by decide +kernel
theorem dX2_turn_136 : decode cX2_turn 136 = .ok (.putfield 47, 3) := by decide +kernel
theorem dX2_turn_139 : decode cX2_turn 139 = .ok (.aload_n 0, 1) := by decide +kernel
theorem dX2_turn_140 : decode cX2_turn 140 = .ok (.iconst 1, 1) := by decide +kernel
theorem dX2_turn_141 : decode cX2_turn 141 = .ok (.putfield 50, 3) := by decide +kernel
theorem dX2_turn_144 : decode cX2_turn 144 = .ok (.iload_n 2, 1) := by decide +kernel
theorem dX2_turn_145 : decode cX2_turn 145 = .ok (.ifCond .eq 12, 3) := by decide +kernel
theorem dX2_turn_148 : decode cX2_turn 148 = .ok (.aload_n 0, 1) := by decide +kernel
theorem dX2_turn_149 : decode cX2_turn 149 = .ok (.getfield 7, 3) := by decide +kernel
theorem dX2_turn_152 : decode cX2_turn 152 = .ok (.iload_n 1, 1) := by decide +kernel
theorem dX2_turn_153 : decode cX2_turn 153 = .ok (.iaload, 1) := by decide +kernel
theorem dX2_turn_154 : decode cX2_turn 154 = .ok (.goto 4, 3) := by decide +kernel
theorem dX2_turn_157 : decode cX2_turn 157 = .ok (.iconst (-1), 1) := by decide +kernel
theorem dX2_turn_158 : decode cX2_turn 158 = .ok (.ireturn, 1) := by decide +kernel
theorem dX2_have_0 : decode cX2_have 0 = .ok (.iconst 0, 1) := by decide +kernel
theorem dX2_have_1 : decode cX2_have 1 = .ok (.istore_n 3, 1) := by decide +kernel
theorem dX2_have_2 : decode cX2_have 2 = .ok (.aload_n 1, 1) := by decide +kernel
theorem dX2_have_3 : decode cX2_have 3 = .ok (.astore 4, 2) := by decide +kernel
theorem dX2_have_5 : decode cX2_have 5 = .ok (.aload 4, 2) := by decide +kernel
theorem dX2_have_7 : decode cX2_have 7 = .ok (.arraylength, 1) := by decide +kernel
theorem dX2_have_8 : decode cX2_have 8 = .ok (.istore 5, 2) := by decide +kernel
theorem dX2_have_10 : decode cX2_have 10 = .ok (.iconst 0, 1) := by decide +kernel
theorem dX2_have_11 : decode cX2_have 11 = .ok (.istore 6, 2) := by decide +kernel
theorem dX2_have_13 : decode cX2_have 13 = .ok (.iload 6, 2) := by decide +kernel
theorem dX2_have_15 : decode cX2_have 15 = .ok (.iload 5, 2) := by decide +kernel
theorem dX2_have_17 : decode cX2_have 17 = .ok (.if_icmp .ge 30, 3) := by decide +kernel
theorem dX2_have_20 : decode cX2_have 20 = .ok (.aload 4, 2) := by decide +kernel
theorem dX2_have_22 : decode cX2_have 22 = .ok (.iload 6, 2) := by decide +kernel
theorem dX2_have_24 : decode cX2_have 24 = .ok (.iaload, 1) := by decide +kernel
theorem dX2_have_25 : decode cX2_have 25 = .ok (.istore 7, 2) := by decide +kernel
theorem dX2_have_27 : decode cX2_have 27 = .ok (.iload_n 3, 1) := by decide +kernel
theorem dX2_have_28 : decode cX2_have 28 = .ok (.iload 7, 2) := by decide +kernel
theorem dX2_have_30 : decode cX2_have 30 = .ok (.iload_n 2, 1) := by decide +kernel
theorem dX2_have_31 : decode cX2_have 31 = .ok (.if_icmp .ne 7, 3) := by decide +kernel
theorem dX2_have_34 : decode cX2_have 34 = .ok (.iconst 1, 1) := by decide +kernel
theorem dX2_have_35 : decode cX2_have 35 = .ok (.goto 4, 3) := by decide +kernel
theorem dX2_have_38 : decode cX2_have 38 = .ok (.iconst 0, 1) := by decide +kernel
theorem dX2_have_39 : decode cX2_have 39 = .ok (.iadd, 1) := by decide +kernel
theorem dX2_have_40 : decode cX2_have 40 = .ok (.istore_n 3, 1) := by decide +kernel
theorem dX2_have_41 : decode cX2_have 41 = .ok (.iinc 6 1, 3) := by decide +kernel
theorem dX2_have_44 : decode cX2_have 44 = .ok (.goto (-31), 3) := by decide +kernel
theorem dX2_have_47 : decode cX2_have 47 = .ok (.iload_n 3, 1) := by decide +kernel
theorem dX2_have_48 : decode cX2_have 48 = .ok (.ireturn, 1) := by decide +kernel
theorem dX2_many_0 : decode cX2_many 0 = .ok (.iconst 0, 1) := by decide +kernel
theorem dX2_many_1 : decode cX2_many 1 = .ok (.istore_n 1, 1) := by decide +kernel
theorem dX2_many_2 : decode cX2_many 2 = .ok (.aload_n 0, 1) := by decide +kernel
theorem dX2_many_3 : decode cX2_many 3 = .ok (.getfield 24, 3) := by decide +kernel
theorem dX2_many_6 : decode cX2_many 6 = .ok (.astore_n 2, 1) := by decide +kernel
theorem dX2_many_7 : decode cX2_many 7 = .ok (.aload_n 2, 1) := by decide +kernel
theorem dX2_many_8 : decode cX2_many 8 = .ok (.arraylength, 1) := by decide +kernel
theorem dX2_many_9 : decode cX2_many 9 = .ok (.istore_n 3, 1) := by decide +kernel
theorem dX2_many_10 : decode cX2_many 10 = .ok (.iconst 0, 1) := by decide +kernel
theorem dX2_many_11 : decode cX2_many 11 = .ok (.istore 4, 2) := by decide +kernel
theorem dX2_many_13 : decode cX2_many 13 = .ok (.iload 4, 2) := by decide +kernel
theorem dX2_many_15 : decode cX2_many 15 = .ok (.iload_n 3, 1) := by decide +kernel
theorem dX2_many_16 : decode cX2_many 16 = .ok (.if_icmp .ge 28, 3) := by decide +kernel
theorem dX2_many_19 : decode cX2_many 19 = .ok (.aload_n 2, 1) := by decide +kernel
theorem dX2_many_20 : decode cX2_many 20 = .ok (.iload 4, 2) := by decide +kernel
theorem dX2_many_22 : decode cX2_many 22 = .ok (.baload, 1) := by decide +kernel
theorem dX2_many_23 : decode cX2_many 23 = .ok (.istore 5, 2) := by decide +kernel
theorem dX2_many_25 : decode cX2_many 25 = .ok (.iload_n 1, 1) := by decide +kernel
theorem dX2_many_26 : decode cX2_many 26 = .ok (.iload 5, 2) := by decide +kernel
theorem dX2_many_28 : decode cX2_many 28 = .ok (.ifCond .eq 7, 3) := by decide +kernel
theorem dX2_many_31 : decode cX2_many 31 = .ok (.iconst 1, 1) := by decide +kernel
theorem dX2_many_32 : decode cX2_many 32 = .ok (.goto 4, 3) := by decide +kernel
theorem dX2_many_35 : decode cX2_many 35 = .ok (.iconst 0, 1) := by decide +kernel
theorem dX2_many_36 : decode cX2_many 36 = .ok (.iadd, 1) := by decide +kernel
theorem dX2_many_37 : decode cX2_many 37 = .ok (.istore_n 1, 1) := by decide +kernel
theorem dX2_many_38 : decode cX2_many 38 = .ok (.iinc 4 1, 3) := by decide +kernel
theorem dX2_many_41 : decode cX2_many 41 = .ok (.goto (-28), 3) := by decide +kernel
theorem dX2_many_44 : decode cX2_many 44 = .ok (.iload_n 1, 1) := by decide +kernel
theorem dX2_many_45 : decode cX2_many 45 = .ok (.ireturn, 1) := by decide +kernel
theorem dX2_say_0 : decode cX2_say 0 = .ok (.iconst 0, 1) := by decide +kernel
theorem dX2_say_1 : decode cX2_say 1 = .ok (.istore 4, 2) := by decide +kernel
theorem dX2_say_3 : decode cX2_say 3 = .ok (.iload 4, 2) := by decide +kernel
theorem dX2_say_5 : decode cX2_say 5 = .ok (.aload_n 0, 1) := by decide +kernel
theorem dX2_say_6 : decode cX2_say 6 = .ok (.getfield 20, 3) := by decide +kernel
theorem dX2_say_9 : decode cX2_say 9 = .ok (.arraylength, 1) := by decide +kernel
theorem dX2_say_10 : decode cX2_say 10 = .ok (.if_icmp .ge 64, 3) := by decide +kernel
theorem dX2_say_13 : decode cX2_say 13 = .ok (.aload_n 0, 1) := by decide +kernel
theorem dX2_say_14 : decode cX2_say 14 = .ok (.aload_n 0, 1) := by decide +kernel
theorem dX2_say_15 : decode cX2_say 15 = .ok (.getfield 20, 3) := by decide +kernel
theorem dX2_say_18 : decode cX2_say 18 = .ok (.iload 4, 2) := by decide +kernel
theorem dX2_say_20 : decode cX2_say 20 = .ok (.aaload, 1) := by decide +kernel
theorem dX2_say_21 : decode cX2_say 21 = .ok (.iload_n 1, 1) := by decide +kernel
theorem dX2_say_22 : decode cX2_say 22 = .ok (.invokevirtual 54, 3) := by decide +kernel
theorem dX2_say_25 : decode cX2_say 25 = .ok (.istore 5, 2) := by decide +kernel
theorem dX2_say_27 : decode cX2_say 27 = .ok (.aload_n 0, 1) := by decide +kernel
theorem dX2_say_28 : decode cX2_say 28 = .ok (.getfield 24, 3) := by decide +kernel
theorem dX2_say_31 : decode cX2_say 31 = .ok (.iload 4, 2) := by decide +kernel
theorem dX2_say_33 : decode cX2_say 33 = .ok (.aload_n 0, 1) := by decide +kernel
theorem dX2_say_34 : decode cX2_say 34 = .ok (.getfield 24, 3) := by decide +kernel
theorem dX2_say_37 : decode cX2_say 37 = .ok (.iload 4, 2) := by decide +kernel
theorem dX2_say_39 : decode cX2_say 39 = .ok (.baload, 1) := by decide +kernel
theorem dX2_say_40 : decode cX2_say 40 = .ok (.ifCond .eq 26, 3) := by decide +kernel
theorem dX2_say_43 : decode cX2_say 43 = .ok (.iload_n 3, 1) := by decide +kernel
theorem dX2_say_44 : decode cX2_say 44 = .ok (.ifCond .eq 12, 3) := by decide +kernel
theorem dX2_say_47 : decode cX2_say 47 = .ok (.iload 5, 2) := by decide +kernel
theorem dX2_say_49 : decode cX2_say 49 = .ok (.iload_n 2, 1) := by decide +kernel
theorem dX2_say_50 : decode cX2_say 50 = .ok (.if_icmp .lt 16, 3) := by decide +kernel
theorem dX2_say_53 : decode cX2_say 53 = .ok (.goto 9, 3) := by decide +kernel
theorem dX2_say_56 : decode cX2_say 56 = .ok (.iload 5, 2) := by decide +kernel
theorem dX2_say_58 : decode cX2_say 58 = .ok (.iload_n 2, 1) := by decide +kernel
theorem dX2_say_59 : decode cX2_say 59 = .ok (.if_icmp .gt 7, 3) := by decide +kernel
theorem dX2_say_62 : decode cX2_say 62 = .ok (.iconst 1, 1) := by decide +kernel
theorem dX2_say_63 : decode cX2_say 63 = .ok (.goto 4, 3) := by decide +kernel
theorem dX2_say_66 : decode cX2_say 66 = .ok (.iconst 0, 1) := by decide +kernel
theorem dX2_say_67 : decode cX2_say 67 = .ok (.bastore, 1) := by decide +kernel
theorem dX2_say_68 : decode cX2_say 68 = .ok (.iinc 4 1, 3) := by decide +kernel
theorem dX2_say_71 : decode cX2_say 71 = .ok (.goto (-68), 3) := by decide +kernel
theorem dX2_say_74 : decode cX2_say 74 = .ok (.aload_n 0, 1) := by decide +kernel
theorem dX2_say_75 : decode cX2_say 75 = .ok (.iconst 1, 1) := by decide +kernel
theorem dX2_say_76 : decode cX2_say 76 = .ok (.putfield 50, 3) := by decide +kernel
theorem dX2_say_79 : decode cX2_say 79 = .ok (.aload_n 0, 1) := by decide +kernel
theorem dX2_say_80 : decode cX2_say 80 = .ok (.invokevirtual 58, 3) := by decide +kernel
theorem dX2_say_83 : decode cX2_say 83 = .ok (.ireturn, 1) := by decide +kernel
theorem dX2_borrow_0 : decode cX2_borrow 0 = .ok (.aload_n 0, 1) := by decide +kernel
theorem dX2_borrow_1 : decode cX2_borrow 1 = .ok (.getfield 20, 3) := by decide +kernel
theorem dX2_borrow_4 : decode cX2_borrow 4 = .ok (.astore_n 3, 1) := by decide +kernel
theorem dX2_borrow_5 : decode cX2_borrow 5 = .ok (.aload_n 3, 1) := by decide +kernel
theorem dX2_borrow_6 : decode cX2_borrow 6 = .ok (.arraylength, 1) := by decide +kernel
theorem dX2_borrow_7 : decode cX2_borrow 7 = .ok (.istore 4, 2) := by decide +kernel
theorem dX2_borrow_9 : decode cX2_borrow 9 = .ok (.iconst 0, 1) := by decide +kernel
theorem dX2_borrow_10 : decode cX2_borrow 10 = .ok (.istore 5, 2) := by decide +kernel
theorem dX2_borrow_12 : decode cX2_borrow 12 = .ok (.iload 5, 2) := by decide +kernel
theorem dX2_borrow_14 : decode cX2_borrow 14 = .ok (.iload 4, 2) := by decide +kernel
theorem dX2_borrow_16 : decode cX2_borrow 16 = .ok (.if_icmp .ge 35, 3) := by decide +kernel
theorem dX2_borrow_19 : decode cX2_borrow 19 = .ok (.aload_n 3, 1) := by decide +kernel
theorem dX2_borrow_20 : decode cX2_borrow 20 = .ok (.iload 5, 2) := by decide +kernel
theorem dX2_borrow_22 : decode cX2_borrow 22 = .ok (.aaload, 1) := by decide +kernel
theorem dX2_borrow_23 : decode cX2_borrow 23 = .ok (.astore 6, 2) := by decide +kernel
theorem dX2_borrow_25 : decode cX2_borrow 25 = .ok (.aload 6, 2) := by decide +kernel
theorem dX2_borrow_27 : decode cX2_borrow 27 = .ok (.iload_n 1, 1) := by decide +kernel
theorem dX2_borrow_28 : decode cX2_borrow 28 = .ok (.iaload, 1) := by decide +kernel
theorem dX2_borrow_29 : decode cX2_borrow 29 = .ok (.istore 7, 2) := by decide +kernel
theorem dX2_borrow_31 : decode cX2_borrow 31 = .ok (.aload 6, 2) := by decide +kernel
theorem dX2_borrow_33 : decode cX2_borrow 33 = .ok (.iload_n 1, 1) := by decide +kernel
theorem dX2_borrow_34 : decode cX2_borrow 34 = .ok (.aload 6, 2) := by decide +kernel
theorem dX2_borrow_36 : decode cX2_borrow 36 = .ok (.iload_n 2, 1) := by decide +kernel
theorem dX2_borrow_37 : decode cX2_borrow 37 = .ok (.iaload, 1) := by decide +kernel
theorem dX2_borrow_38 : decode cX2_borrow 38 = .ok (.iastore, 1) := by decide +kernel
theorem dX2_borrow_39 : decode cX2_borrow 39 = .ok (.aload 6, 2) := by decide +kernel
theorem dX2_borrow_41 : decode cX2_borrow 41 = .ok (.iload_n 2, 1) := by decide +kernel
theorem dX2_borrow_42 : decode cX2_borrow 42 = .ok (.iload 7, 2) := by decide +kernel
theorem dX2_borrow_44 : decode cX2_borrow 44 = .ok (.iastore, 1) := by decide +kernel
theorem dX2_borrow_45 : decode cX2_borrow 45 = .ok (.iinc 5 1, 3) := by decide +kernel
theorem dX2_borrow_48 : decode cX2_borrow 48 = .ok (.goto (-36), 3) := by decide +kernel
theorem dX2_borrow_51 : decode cX2_borrow 51 = .ok (.aload_n 0, 1) := by decide +kernel
theorem dX2_borrow_52 : decode cX2_borrow 52 = .ok (.getfield 7, 3) := by decide +kernel
theorem dX2_borrow_55 : decode cX2_borrow 55 = .ok (.iload_n 1, 1) := by decide +kernel
theorem dX2_borrow_56 : decode cX2_borrow 56 = .ok (.iaload, 1) := by decide +kernel
theorem dX2_borrow_57 : decode cX2_borrow 57 = .ok (.istore_n 3, 1) := by decide +kernel
theorem dX2_borrow_58 : decode cX2_borrow 58 = .ok (.aload_n 0, 1) := by decide +kernel
theorem dX2_borrow_59 : decode cX2_borrow 59 = .ok (.getfield 7, 3) := by decide +kernel
theorem dX2_borrow_62 : decode cX2_borrow 62 = .ok (.iload_n 1, 1) := by decide +kernel
theorem dX2_borrow_63 : decode cX2_borrow 63 = .ok (.aload_n 0, 1) := by decide +kernel
theorem dX2_borrow_64 : decode cX2_borrow 64 = .ok (.getfield 7, 3) := by decide +kernel
theorem dX2_borrow_67 : decode cX2_borrow 67 = .ok (.iload_n 2, 1) := by decide +kernel
theorem dX2_borrow_68 : decode cX2_borrow 68 = .ok (.iaload, 1) := by decide +kernel
theorem dX2_borrow_69 : decode cX2_borrow 69 = .ok (.iastore, 1) := by decide +kernel
theorem dX2_borrow_70 : decode cX2_borrow 70 = .ok (.aload_n 0, 1) := by decide +kernel
theorem dX2_borrow_71 : decode cX2_borrow 71 = .ok (.getfield 7, 3) := by decide +kernel
theorem dX2_borrow_74 : decode cX2_borrow 74 = .ok (.iload_n 2, 1) := by decide +kernel
theorem dX2_borrow_75 : decode cX2_borrow 75 = .ok (.iload_n 3, 1) := by decide +kernel
theorem dX2_borrow_76 : decode cX2_borrow 76 = .ok (.iastore, 1) := by decide +kernel
theorem dX2_borrow_77 : decode cX2_borrow 77 = .ok (.aload_n 0, 1) := by decide +kernel
theorem dX2_borrow_78 : decode cX2_borrow 78 = .ok (.iconst 1, 1) := by decide +kernel
theorem dX2_borrow_79 : decode cX2_borrow 79 = .ok (.putfield 50, 3) := by decide +kernel
theorem dX2_borrow_82 : decode cX2_borrow 82 = .ok (.return_, 1) := by decide +kernel
theorem dX2_certain_0 : decode cX2_certain 0 = .ok (.iconst 0, 1) := by decide +kernel
theorem dX2_certain_1 : decode cX2_certain 1 = .ok (.istore_n 1, 1) := by decide +kernel
theorem dX2_certain_2 : decode cX2_certain 2 = .ok (.iconst 0, 1) := by decide +kernel
theorem dX2_certain_3 : decode cX2_certain 3 = .ok (.istore_n 2, 1) := by decide +kernel
theorem dX2_certain_4 : decode cX2_certain 4 = .ok (.iload_n 2, 1) := by decide +kernel
theorem dX2_certain_5 : decode cX2_certain 5 = .ok (.aload_n 0, 1) := by decide +kernel
theorem dX2_certain_6 : decode cX2_certain 6 = .ok (.getfield 27, 3) := by decide +kernel
theorem dX2_certain_9 : decode cX2_certain 9 = .ok (.if_icmp .ge 30, 3) := by decide +kernel
theorem dX2_certain_12 : decode cX2_certain 12 = .ok (.iload_n 1, 1) := by decide +kernel
theorem dX2_certain_13 : decode cX2_certain 13 = .ok (.aload_n 0, 1) := by decide +kernel
theorem dX2_certain_14 : decode cX2_certain 14 = .ok (.iload_n 2, 1) := by decide +kernel
theorem dX2_certain_15 : decode cX2_certain 15 = .ok (.iload_n 2, 1) := by decide +kernel
theorem dX2_certain_16 : decode cX2_certain 16 = .ok (.aload_n 0, 1) := by decide +kernel
theorem dX2_certain_17 : decode cX2_certain 17 = .ok (.getfield 7, 3) := by decide +kernel
theorem dX2_certain_20 : decode cX2_certain 20 = .ok (.invokevirtual 43, 3) := by decide +kernel
theorem dX2_certain_23 : decode cX2_certain 23 = .ok (.ifCond .eq 7, 3) := by decide +kernel
theorem dX2_certain_26 : decode cX2_certain 26 = .ok (.iconst 1, 1) := by decide +kernel
theorem dX2_certain_27 : decode cX2_certain 27 = .ok (.goto 4, 3) := by decide +kernel
theorem dX2_certain_30 : decode cX2_certain 30 = .ok (.iconst 0, 1) := by decide +kernel
theorem dX2_certain_31 : decode cX2_certain 31 = .ok (.iadd, 1) := by decide +kernel
theorem dX2_certain_32 : decode cX2_certain 32 = .ok (.istore_n 1, 1) := by decide +kernel
theorem dX2_certain_33 : decode cX2_certain 33 = .ok (.iinc 2 1, 3) := by decide +kernel
theorem dX2_certain_36 : decode cX2_certain 36 = .ok (.goto (-32), 3) := by decide +kernel
theorem dX2_certain_39 : decode cX2_certain 39 = .ok (.iload_n 1, 1) := by decide +kernel
theorem dX2_certain_40 : decode cX2_certain 40 = .ok (.ireturn, 1) := by decide +kernel
theorem dX2_isSame_0 : decode cX2_isSame 0 = .ok (.aload_n 1, 1) := by decide +kernel
theorem dX2_isSame_1 : decode cX2_isSame 1 = .ok (.invokevirtual 68, 3) := by decide +kernel
theorem dX2_isSame_4 : decode cX2_isSame 4 = .ok (.aload_n 0, 1) := by decide +kernel
theorem dX2_isSame_5 : decode cX2_isSame 5 = .ok (.getfield 27, 3) := by decide +kernel
theorem dX2_isSame_8 : decode cX2_isSame 8 = .ok (.if_icmp .ne 74, 3) := by decide +kernel
theorem dX2_isSame_11 : decode cX2_isSame 11 = .ok (.aload_n 1, 1) := by decide +kernel
theorem dX2_isSame_12 : decode cX2_isSame 12 = .ok (.invokevirtual 73, 3) := by decide +kernel
theorem dX2_isSame_15 : decode cX2_isSame 15 = .ok (.aload_n 0, 1) := by decide +kernel
theorem dX2_isSame_16 : decode cX2_isSame 16 = .ok (.getfield 40, 3) := by decide +kernel
theorem dX2_isSame_19 : decode cX2_isSame 19 = .ok (.if_icmp .ne 63, 3) := by decide +kernel
theorem dX2_isSame_22 : decode cX2_isSame 22 = .ok (.aload_n 1, 1) := by decide +kernel
theorem dX2_isSame_23 : decode cX2_isSame 23 = .ok (.invokevirtual 76, 3) := by decide +kernel
theorem dX2_isSame_26 : decode cX2_isSame 26 = .ok (.aload_n 0, 1) := by decide +kernel
theorem dX2_isSame_27 : decode cX2_isSame 27 = .ok (.getfield 47, 3) := by decide +kernel
theorem dX2_isSame_30 : decode cX2_isSame 30 = .ok (.if_icmp .ne 52, 3) := by decide +kernel
theorem dX2_isSame_33 : decode cX2_isSame 33 = .ok (.aload_n 1, 1) := by decide +kernel
theorem dX2_isSame_34 : decode cX2_isSame 34 = .ok (.invokevirtual 79, 3) := by decide +kernel
theorem dX2_isSame_37 : decode cX2_isSame 37 = .ok (.aload_n 0, 1) := by decide +kernel
theorem dX2_isSame_38 : decode cX2_isSame 38 = .ok (.getfield 27, 3) := by decide +kernel
theorem dX2_isSame_41 : decode cX2_isSame 41 = .ok (.ifCond .ne 7, 3) := by decide +kernel
theorem dX2_isSame_44 : decode cX2_isSame 44 = .ok (.iconst (-1), 1) := by decide +kernel
theorem dX2_isSame_45 : decode cX2_isSame 45 = .ok (.goto 12, 3) := by decide +kernel
theorem dX2_isSame_48 : decode cX2_isSame 48 = .ok (.aload_n 0, 1) := by decide +kernel
theorem dX2_isSame_49 : decode cX2_isSame 49 = .ok (.getfield 40, 3) := by decide +kernel
theorem dX2_isSame_52 : decode cX2_isSame 52 = .ok (.aload_n 0, 1) := by decide +kernel
theorem dX2_isSame_53 : decode cX2_isSame 53 = .ok (.getfield 27, 3) := by decide +kernel
theorem dX2_isSame_56 : decode cX2_isSame 56 = .ok (.irem, 1) := by decide +kernel
theorem dX2_isSame_57 : decode cX2_isSame 57 = .ok (.if_icmp .ne 25, 3) := by decide +kernel
theorem dX2_isSame_60 : decode cX2_isSame 60 = .ok (.aload_n 1, 1) := by decide +kernel
theorem dX2_isSame_61 : decode cX2_isSame 61 = .ok (.invokevirtual 82, 3) := by decide +kernel
theorem dX2_isSame_64 : decode cX2_isSame 64 = .ok (.aload_n 0, 1) := by decide +kernel
theorem dX2_isSame_65 : decode cX2_isSame 65 = .ok (.invokevirtual 58, 3) := by decide +kernel
theorem dX2_isSame_68 : decode cX2_isSame 68 = .ok (.if_icmp .ne 14, 3) := by decide +kernel
theorem dX2_isSame_71 : decode cX2_isSame 71 = .ok (.aload_n 1, 1) := by decide +kernel
theorem dX2_isSame_72 : decode cX2_isSame 72 = .ok (.invokevirtual 85, 3) := by decide +kernel
theorem dX2_isSame_75 : decode cX2_isSame 75 = .ok (.aload_n 0, 1) := by decide +kernel
theorem dX2_isSame_76 : decode cX2_isSame 76 = .ok (.invokevirtual 88, 3) := by decide +kernel
theorem dX2_isSame_79 : decode cX2_isSame 79 = .ok (.if_icmp .eq 5, 3) := by decide +kernel
theorem dX2_isSame_82 : decode cX2_isSame 82 = .ok (.iconst 0, 1) := by decide +kernel
theorem dX2_isSame_83 : decode cX2_isSame 83 = .ok (.ireturn, 1) := by decide +kernel
theorem dX2_isSame_84 : decode cX2_isSame 84 = .ok (.iconst 0, 1) := by decide +kernel
theorem dX2_isSame_85 : decode cX2_isSame 85 = .ok (.istore_n 2, 1) := by decide +kernel
theorem dX2_isSame_86 : decode cX2_isSame 86 = .ok (.iconst 0, 1) := by decide +kernel
theorem dX2_isSame_87 : decode cX2_isSame 87 = .ok (.istore_n 3, 1) := by decide +kernel
theorem dX2_isSame_88 : decode cX2_isSame 88 = .ok (.iload_n 3, 1) := by decide +kernel
theorem dX2_isSame_89 : decode cX2_isSame 89 = .ok (.aload_n 0, 1) := by decide +kernel
theorem dX2_isSame_90 : decode cX2_isSame 90 = .ok (.getfield 27, 3) := by decide +kernel
theorem dX2_isSame_93 : decode cX2_isSame 93 = .ok (.if_icmp .ge 346, 3) := by decide +kernel
theorem dX2_isSame_96 : decode cX2_isSame 96 = .ok (.iconst 0, 1) := by decide +kernel
theorem dX2_isSame_97 : decode cX2_isSame 97 = .ok (.istore 4, 2) := by decide +kernel
theorem dX2_isSame_99 : decode cX2_isSame 99 = .ok (.iconst 3, 1) := by decide +kernel
theorem dX2_isSame_100 : decode cX2_isSame 100 = .ok (.newarray .int, 2) := by decide +kernel
theorem dX2_isSame_102 : decode cX2_isSame 102 = .ok (.astore 5, 2) := by decide +kernel
theorem dX2_isSame_104 : decode cX2_isSame 104 = .ok (.iconst 3, 1) := by decide +kernel
theorem dX2_isSame_105 : decode cX2_isSame 105 = .ok (.aload_n 0, 1) := by decide +kernel
theorem dX2_isSame_106 : decode cX2_isSame 106 = .ok (.getfield 27, 3) := by decide +kernel
theorem dX2_isSame_109 : decode cX2_isSame 109 = .ok (.imul, 1) := by decide +kernel
theorem dX2_isSame_110 : decode cX2_isSame 110 = .ok (.newarray .boolean, 2) := by decide +kernel
theorem dX2_isSame_112 : decode cX2_isSame 112 = .ok (.astore 6, 2) := by decide +kernel
theorem dX2_isSame_114 : decode cX2_isSame 114 = .ok (.iconst 0, 1) := by decide +kernel
theorem dX2_isSame_115 : decode cX2_isSame 115 = .ok (.istore 7, 2) := by decide +kernel
theorem dX2_isSame_117 : decode cX2_isSame 117 = .ok (.iload 7, 2) := by decide +kernel
theorem dX2_isSame_119 : decode cX2_isSame 119 = .ok (.aload_n 0, 1) := by decide +kernel
theorem dX2_isSame_120 : decode cX2_isSame 120 = .ok (.getfield 20, 3) := by decide +kernel
theorem dX2_isSame_123 : decode cX2_isSame 123 = .ok (.arraylength, 1) := by decide +kernel
theorem dX2_isSame_124 : decode cX2_isSame 124 = .ok (.if_icmp .ge 100, 3) := by decide +kernel
theorem dX2_isSame_127 : decode cX2_isSame 127 = .ok (.aload_n 0, 1) := by decide +kernel
theorem dX2_isSame_128 : decode cX2_isSame 128 = .ok (.getfield 24, 3) := by decide +kernel
theorem dX2_isSame_131 : decode cX2_isSame 131 = .ok (.iload 7, 2) := by decide +kernel
theorem dX2_isSame_133 : decode cX2_isSame 133 = .ok (.baload, 1) := by decide +kernel
theorem dX2_isSame_134 : decode cX2_isSame 134 = .ok (.ifCond .ne 6, 3) := by decide +kernel
theorem dX2_isSame_137 : decode cX2_isSame 137 = .ok (.goto 81, 3) := by decide +kernel
theorem dX2_isSame_140 : decode cX2_isSame 140 = .ok (.aload 5, 2) := by decide +kernel
theorem dX2_isSame_142 : decode cX2_isSame 142 = .ok (.aload_n 0, 1) := by decide +kernel
theorem dX2_isSame_143 : decode cX2_isSame 143 = .ok (.getfield 20, 3) := by decide +kernel
theorem dX2_isSame_146 : decode cX2_isSame 146 = .ok (.iload 7, 2) := by decide +kernel
theorem dX2_isSame_148 : decode cX2_isSame 148 = .ok (.aaload, 1) := by decide +kernel
theorem dX2_isSame_149 : decode cX2_isSame 149 = .ok (.iload_n 3, 1) := by decide +kernel
theorem dX2_isSame_150 : decode cX2_isSame 150 = .ok (.iaload, 1) := by decide +kernel
theorem dX2_isSame_151 : decode cX2_isSame 151 = .ok (.dup2, 1) := by decide +kernel
theorem dX2_isSame_152 : decode cX2_isSame 152 = .ok (.iaload, 1) := by decide +kernel
theorem dX2_isSame_153 : decode cX2_isSame 153 = .ok (.iconst 1, 1) := by decide +kernel
theorem dX2_isSame_154 : decode cX2_isSame 154 = .ok (.iadd, 1) := by decide +kernel
theorem dX2_isSame_155 : decode cX2_isSame 155 = .ok (.iastore, 1) := by decide +kernel
theorem dX2_isSame_156 : decode cX2_isSame 156 = .ok (.aload_n 0, 1) := by decide +kernel
theorem dX2_isSame_157 : decode cX2_isSame 157 = .ok (.iload_n 3, 1) := by decide +kernel
theorem dX2_isSame_158 : decode cX2_isSame 158 = .ok (.aload_n 0, 1) := by decide +kernel
theorem dX2_isSame_159 : decode cX2_isSame 159 = .ok (.getfield 7, 3) := by decide +kernel
theorem dX2_isSame_162 : decode cX2_isSame 162 = .ok (.aload_n 0, 1) := by decide +kernel
theorem dX2_isSame_163 : decode cX2_isSame 163 = .ok (.getfield 20, 3) := by decide +kernel
theorem dX2_isSame_166 : decode cX2_isSame 166 = .ok (.iload 7, 2) := by decide +kernel
theorem dX2_isSame_168 : decode cX2_isSame 168 = .ok (.aaload, 1) := by decide +kernel
theorem dX2_isSame_169 : decode cX2_isSame 169 = .ok (.invokevirtual 36, 3) := by decide +kernel
theorem dX2_isSame_172 : decode cX2_isSame 172 = .ok (.ifCond .ne 6, 3) := by decide +kernel
theorem dX2_isSame_175 : decode cX2_isSame 175 = .ok (.goto 43, 3) := by decide +kernel
theorem dX2_isSame_178 : decode cX2_isSame 178 = .ok (.iinc 4 1, 3) := by decide +kernel
theorem dX2_isSame_181 : decode cX2_isSame 181 = .ok (.iconst 0, 1) := by decide +kernel
theorem dX2_isSame_182 : decode cX2_isSame 182 = .ok (.istore 8, 2) := by decide +kernel
theorem dX2_isSame_184 : decode cX2_isSame 184 = .ok (.iload 8, 2) := by decide +kernel
theorem dX2_isSame_186 : decode cX2_isSame 186 = .ok (.aload_n 0, 1) := by decide +kernel
theorem dX2_isSame_187 : decode cX2_isSame 187 = .ok (.getfield 27, 3) := by decide +kernel
theorem dX2_isSame_190 : decode cX2_isSame 190 = .ok (.if_icmp .ge 28, 3) := by decide +kernel
theorem dX2_isSame_193 : decode cX2_isSame 193 = .ok (.aload 6, 2) := by decide +kernel
theorem dX2_isSame_195 : decode cX2_isSame 195 = .ok (.iconst 3, 1) := by decide +kernel
theorem dX2_isSame_196 : decode cX2_isSame 196 = .ok (.iload 8, 2) := by decide +kernel
theorem dX2_isSame_198 : decode cX2_isSame 198 = .ok (.imul, 1) := by decide +kernel
theorem dX2_isSame_199 : decode cX2_isSame 199 = .ok (.aload_n 0, 1) := by decide +kernel
theorem dX2_isSame_200 : decode cX2_isSame 200 = .ok (.getfield 20, 3) := by decide +kernel
theorem dX2_isSame_203 : decode cX2_isSame 203 = .ok (.iload 7, 2) := by decide +kernel
theorem dX2_isSame_205 : decode cX2_isSame 205 = .ok (.aaload, 1) := by decide +kernel
theorem dX2_isSame_206 : decode cX2_isSame 206 = .ok (.iload 8, 2) := by decide +kernel
theorem dX2_isSame_208 : decode cX2_isSame 208 = .ok (.iaload, 1) := by decide +kernel
theorem dX2_isSame_209 : decode cX2_isSame 209 = .ok (.iadd, 1) := by decide +kernel
theorem dX2_isSame_210 : decode cX2_isSame 210 = .ok (.iconst 1, 1) := by decide +kernel
theorem dX2_isSame_211 : decode cX2_isSame 211 = .ok (.bastore, 1) := by decide +kernel
theorem dX2_isSame_212 : decode cX2_isSame 212 = .ok (.iinc 8 1, 3) := by decide +kernel
theorem dX2_isSame_215 : decode cX2_isSame 215 = .ok (.goto (-31), 3) := by decide +kernel
theorem dX2_isSame_218 : decode cX2_isSame 218 = .ok (.iinc 7 1, 3) := by decide +kernel
theorem dX2_isSame_221 : decode cX2_isSame 221 = .ok (.goto (-104), 3) := by decide +kernel
theorem dX2_isSame_224 : decode cX2_isSame 224 = .ok (.iload_n 2, 1) := by decide +kernel
theorem dX2_isSame_225 : decode cX2_isSame 225 = .ok (.iload 4, 2) := by decide +kernel
theorem dX2_isSame_227 : decode cX2_isSame 227 = .ok (.iadd, 1) := by decide +kernel
theorem dX2_isSame_228 : decode cX2_isSame 228 = .ok (.istore_n 2, 1) := by decide +kernel
theorem dX2_isSame_229 : decode cX2_isSame 229 = .ok (.aload_n 1, 1) := by decide +kernel
theorem dX2_isSame_230 : decode cX2_isSame 230 = .ok (.iload_n 3, 1) := by decide +kernel
theorem dX2_isSame_231 : decode cX2_isSame 231 = .ok (.invokevirtual 91, 3) := by decide +kernel
theorem dX2_isSame_234 : decode cX2_isSame 234 = .ok (.aload_n 0, 1) := by decide +kernel
theorem dX2_isSame_235 : decode cX2_isSame 235 = .ok (.getfield 7, 3) := by decide +kernel
theorem dX2_isSame_238 : decode cX2_isSame 238 = .ok (.iload_n 3, 1) := by decide +kernel
theorem dX2_isSame_239 : decode cX2_isSame 239 = .ok (.iaload, 1) := by decide +kernel
theorem dX2_isSame_240 : decode cX2_isSame 240 = .ok (.if_icmp .ne 60, 3) := by decide +kernel
theorem dX2_isSame_243 : decode cX2_isSame 243 = .ok (.aload_n 1, 1) := by decide +kernel
theorem dX2_isSame_244 : decode cX2_isSame 244 = .ok (.iload_n 3, 1) := by decide +kernel
theorem dX2_isSame_245 : decode cX2_isSame 245 = .ok (.invokevirtual 95, 3) := by decide +kernel
theorem dX2_isSame_248 : decode cX2_isSame 248 = .ok (.iload 4, 2) := by decide +kernel
theorem dX2_isSame_250 : decode cX2_isSame 250 = .ok (.if_icmp .ne 50, 3) := by decide +kernel
theorem dX2_isSame_253 : decode cX2_isSame 253 = .ok (.aload_n 1, 1) := by decide +kernel
theorem dX2_isSame_254 : decode cX2_isSame 254 = .ok (.iload_n 3, 1) := by decide +kernel
theorem dX2_isSame_255 : decode cX2_isSame 255 = .ok (.invokevirtual 98, 3) := by decide +kernel
theorem dX2_isSame_258 : decode cX2_isSame 258 = .ok (.aload_n 0, 1) := by decide +kernel
theorem dX2_isSame_259 : decode cX2_isSame 259 = .ok (.iload_n 3, 1) := by decide +kernel
theorem dX2_isSame_260 : decode cX2_isSame 260 = .ok (.iload_n 3, 1) := by decide +kernel
theorem dX2_isSame_261 : decode cX2_isSame 261 = .ok (.aload_n 0, 1) := by decide +kernel
theorem dX2_isSame_262 : decode cX2_isSame 262 = .ok (.getfield 7, 3) := by decide +kernel
theorem dX2_isSame_265 : decode cX2_isSame 265 = .ok (.invokevirtual 43, 3) := by decide +kernel
theorem dX2_isSame_268 : decode cX2_isSame 268 = .ok (.if_icmp .ne 32, 3) := by decide +kernel
theorem dX2_isSame_271 : decode cX2_isSame 271 = .ok (.aload_n 1, 1) := by decide +kernel
theorem dX2_isSame_272 : decode cX2_isSame 272 = .ok (.iload_n 3, 1) := by decide +kernel
theorem dX2_isSame_273 : decode cX2_isSame 273 = .ok (.invokevirtual 102, 3) := by decide +kernel
theorem dX2_isSame_276 : decode cX2_isSame 276 = .ok (.aload 5, 2) := by decide +kernel
theorem dX2_isSame_278 : decode cX2_isSame 278 = .ok (.aload_n 0, 1) := by decide +kernel
theorem dX2_isSame_279 : decode cX2_isSame 279 = .ok (.getfield 7, 3) := by decide +kernel
theorem dX2_isSame_282 : decode cX2_isSame 282 = .ok (.iload_n 3, 1) := by decide +kernel
theorem dX2_isSame_283 : decode cX2_isSame 283 = .ok (.iaload, 1) := by decide +kernel
theorem dX2_isSame_284 : decode cX2_isSame 284 = .ok (.iaload, 1) := by decide +kernel
theorem dX2_isSame_285 : decode cX2_isSame 285 = .ok (.aload_n 0, 1) := by decide +kernel
theorem dX2_isSame_286 : decode cX2_isSame 286 = .ok (.invokevirtual 58, 3) := by decide +kernel
theorem dX2_isSame_289 : decode cX2_isSame 289 = .ok (.if_icmp .ne 7, 3) := by decide +kernel
theorem dX2_isSame_292 : decode cX2_isSame 292 = .ok (.iconst 1, 1) := by decide +kernel
theorem dX2_isSame_293 : decode cX2_isSame 293 = .ok (.goto 4, 3) := by decide +kernel
theorem dX2_isSame_296 : decode cX2_isSame 296 = .ok (.iconst 0, 1) := by decide +kernel
theorem dX2_isSame_297 : decode cX2_isSame 297 = .ok (.if_icmp .eq 5, 3) := by decide +kernel
theorem dX2_isSame_300 : decode cX2_isSame 300 = .ok (.iconst 0, 1) := by decide +kernel
theorem dX2_isSame_301 : decode cX2_isSame 301 = .ok (.ireturn, 1) := by decide +kernel
theorem dX2_isSame_302 : decode cX2_isSame 302 = .ok (.iconst 0, 1) := by decide +kernel
theorem dX2_isSame_303 : decode cX2_isSame 303 = .ok (.istore 7, 2) := by decide +kernel
theorem dX2_isSame_305 : decode cX2_isSame 305 = .ok (.iload 7, 2) := by decide +kernel
theorem dX2_isSame_307 : decode cX2_isSame 307 = .ok (.iconst 3, 1) := by decide +kernel
theorem dX2_isSame_308 : decode cX2_isSame 308 = .ok (.if_icmp .ge 26, 3) := by decide +kernel
theorem dX2_isSame_311 : decode cX2_isSame 311 = .ok (.aload_n 1, 1) := by decide +kernel
theorem dX2_isSame_312 : decode cX2_isSame 312 = .ok (.iload_n 3, 1) := by decide +kernel
theorem dX2_isSame_313 : decode cX2_isSame 313 = .ok (.iload 7, 2) := by decide +kernel
theorem dX2_isSame_315 : decode cX2_isSame 315 = .ok (.invokevirtual 105, 3) := by decide +kernel
theorem dX2_isSame_318 : decode cX2_isSame 318 = .ok (.aload 5, 2) := by decide +kernel
theorem dX2_isSame_320 : decode cX2_isSame 320 = .ok (.iload 7, 2) := by decide +kernel
theorem dX2_isSame_322 : decode cX2_isSame 322 = .ok (.iaload, 1) := by decide +kernel
theorem dX2_isSame_323 : decode cX2_isSame 323 = .ok (.if_icmp .eq 5, 3) := by decide +kernel
theorem dX2_isSame_326 : decode cX2_isSame 326 = .ok (.iconst 0, 1) := by decide +kernel
theorem dX2_isSame_327 : decode cX2_isSame 327 = .ok (.ireturn, 1) := by decide +kernel
theorem dX2_isSame_328 : decode cX2_isSame 328 = .ok (.iinc 7 1, 3) := by decide +kernel
theorem dX2_isSame_331 : decode cX2_isSame 331 = .ok (.goto (-26), 3) := by decide +kernel
theorem dX2_isSame_334 : decode cX2_isSame 334 = .ok (.iconst 0, 1) := by decide +kernel
theorem dX2_isSame_335 : decode cX2_isSame 335 = .ok (.istore 7, 2) := by decide +kernel
theorem dX2_isSame_337 : decode cX2_isSame 337 = .ok (.iload 7, 2) := by decide +kernel
theorem dX2_isSame_339 : decode cX2_isSame 339 = .ok (.aload_n 0, 1) := by decide +kernel
theorem dX2_isSame_340 : decode cX2_isSame 340 = .ok (.getfield 27, 3) := by decide +kernel
theorem dX2_isSame_343 : decode cX2_isSame 343 = .ok (.if_icmp .ge 90, 3) := by decide +kernel
theorem dX2_isSame_346 : decode cX2_isSame 346 = .ok (.aload_n 1, 1) := by decide +kernel
theorem dX2_isSame_347 : decode cX2_isSame 347 = .ok (.iload_n 3, 1) := by decide +kernel
theorem dX2_isSame_348 : decode cX2_isSame 348 = .ok (.iload 7, 2) := by decide +kernel
theorem dX2_isSame_350 : decode cX2_isSame 350 = .ok (.invokevirtual 109, 3) := by decide +kernel
theorem dX2_isSame_353 : decode cX2_isSame 353 = .ok (.aload_n 0, 1) := by decide +kernel
theorem dX2_isSame_354 : decode cX2_isSame 354 = .ok (.getfield 15, 3) := by decide +kernel
theorem dX2_isSame_357 : decode cX2_isSame 357 = .ok (.iload_n 3, 1) := by decide +kernel
theorem dX2_isSame_358 : decode cX2_isSame 358 = .ok (.aaload, 1) := by decide +kernel
theorem dX2_isSame_359 : decode cX2_isSame 359 = .ok (.iload 7, 2) := by decide +kernel
theorem dX2_isSame_361 : decode cX2_isSame 361 = .ok (.baload, 1) := by decide +kernel
theorem dX2_isSame_362 : decode cX2_isSame 362 = .ok (.if_icmp .ne 24, 3) := by decide +kernel
theorem dX2_isSame_365 : decode cX2_isSame 365 = .ok (.aload_n 1, 1) := by decide +kernel
theorem dX2_isSame_366 : decode cX2_isSame 366 = .ok (.iload_n 3, 1) := by decide +kernel
theorem dX2_isSame_367 : decode cX2_isSame 367 = .ok (.iload 7, 2) := by decide +kernel
theorem dX2_isSame_369 : decode cX2_isSame 369 = .ok (.invokevirtual 112, 3) := by decide +kernel
theorem dX2_isSame_372 : decode cX2_isSame 372 = .ok (.aload_n 0, 1) := by decide +kernel
theorem dX2_isSame_373 : decode cX2_isSame 373 = .ok (.iload_n 3, 1) := by decide +kernel
theorem dX2_isSame_374 : decode cX2_isSame 374 = .ok (.iload 7, 2) := by decide +kernel
theorem dX2_isSame_376 : decode cX2_isSame 376 = .ok (.aload_n 0, 1) := by decide +kernel
theorem dX2_isSame_377 : decode cX2_isSame 377 = .ok (.getfield 7, 3) := by decide +kernel
theorem dX2_isSame_380 : decode cX2_isSame 380 = .ok (.invokevirtual 43, 3) := by decide +kernel
theorem dX2_isSame_383 : decode cX2_isSame 383 = .ok (.if_icmp .eq 5, 3) := by decide +kernel
theorem dX2_isSame_386 : decode cX2_isSame 386 = .ok (.iconst 0, 1) := by decide +kernel
theorem dX2_isSame_387 : decode cX2_isSame 387 = .ok (.ireturn, 1) := by decide +kernel
theorem dX2_isSame_388 : decode cX2_isSame 388 = .ok (.iconst 0, 1) := by decide +kernel
theorem dX2_isSame_389 : decode cX2_isSame 389 = .ok (.istore 8, 2) := by decide +kernel
theorem dX2_isSame_391 : decode cX2_isSame 391 = .ok (.iload 8, 2) := by decide +kernel
theorem dX2_isSame_393 : decode cX2_isSame 393 = .ok (.iconst 3, 1) := by decide +kernel
theorem dX2_isSame_394 : decode cX2_isSame 394 = .ok (.if_icmp .ge 33, 3) := by decide +kernel
theorem dX2_isSame_397 : decode cX2_isSame 397 = .ok (.aload_n 1, 1) := by decide +kernel
theorem dX2_isSame_398 : decode cX2_isSame 398 = .ok (.iload_n 3, 1) := by decide +kernel
theorem dX2_isSame_399 : decode cX2_isSame 399 = .ok (.iload 7, 2) := by decide +kernel
theorem dX2_isSame_401 : decode cX2_isSame 401 = .ok (.iload 8, 2) := by decide +kernel
theorem dX2_isSame_403 : decode cX2_isSame 403 = .ok (.invokevirtual 115, 3) := by decide +kernel
theorem dX2_isSame_406 : decode cX2_isSame 406 = .ok (.aload 6, 2) := by decide +kernel
theorem dX2_isSame_408 : decode cX2_isSame 408 = .ok (.iconst 3, 1) := by decide +kernel
theorem dX2_isSame_409 : decode cX2_isSame 409 = .ok (.iload 7, 2) := by decide +kernel
theorem dX2_isSame_411 : decode cX2_isSame 411 = .ok (.imul, 1) := by decide +kernel
theorem dX2_isSame_412 : decode cX2_isSame 412 = .ok (.iload 8, 2) := by decide +kernel
theorem dX2_isSame_414 : decode cX2_isSame 414 = .ok (.iadd, 1) := by decide +kernel
theorem dX2_isSame_415 : decode cX2_isSame 415 = .ok (.baload, 1) := by decide +kernel
theorem dX2_isSame_416 : decode cX2_isSame 416 = .ok (.if_icmp .eq 5, 3) := by decide +kernel
theorem dX2_isSame_419 : decode cX2_isSame 419 = .ok (.iconst 0, 1) := by decide +kernel
theorem dX2_isSame_420 : decode cX2_isSame 420 = .ok (.ireturn, 1) := by decide +kernel
theorem dX2_isSame_421 : decode cX2_isSame 421 = .ok (.iinc 8 1, 3) := by decide +kernel
theorem dX2_isSame_424 : decode cX2_isSame 424 = .ok (.goto (-33), 3) := by decide +kernel
theorem dX2_isSame_427 : decode cX2_isSame 427 = .ok (.iinc 7 1, 3) := by decide +kernel
theorem dX2_isSame_430 : decode cX2_isSame 430 = .ok (.goto (-93), 3) := by decide +kernel
theorem dX2_isSame_433 : decode cX2_isSame 433 = .ok (.iinc 3 1, 3) := by decide +kernel
theorem dX2_isSame_436 : decode cX2_isSame 436 = .ok (.goto (-348), 3) := by decide +kernel
theorem dX2_isSame_439 : decode cX2_isSame 439 = .ok (.iconst 0, 1) := by decide +kernel
theorem dX2_isSame_440 : decode cX2_isSame 440 = .ok (.istore_n 3, 1) := by decide +kernel
theorem dX2_isSame_441 : decode cX2_isSame 441 = .ok (.iload_n 3, 1) := by decide +kernel
theorem dX2_isSame_442 : decode cX2_isSame 442 = .ok (.iconst 3, 1) := by decide +kernel
theorem dX2_isSame_443 : decode cX2_isSame 443 = .ok (.if_icmp .ge 28, 3) := by decide +kernel
theorem dX2_isSame_446 : decode cX2_isSame 446 = .ok (.aload_n 1, 1) := by decide +kernel
theorem dX2_isSame_447 : decode cX2_isSame 447 = .ok (.iload_n 3, 1) := by decide +kernel
theorem dX2_isSame_448 : decode cX2_isSame 448 = .ok (.invokevirtual 119, 3) := by decide +kernel
theorem dX2_isSame_451 : decode cX2_isSame 451 = .ok (.aload_n 0, 1) := by decide +kernel
theorem dX2_isSame_452 : decode cX2_isSame 452 = .ok (.aload_n 0, 1) := by decide +kernel
theorem dX2_isSame_453 : decode cX2_isSame 453 = .ok (.getfield 7, 3) := by decide +kernel
theorem dX2_isSame_456 : decode cX2_isSame 456 = .ok (.iload_n 3, 1) := by decide +kernel
theorem dX2_isSame_457 : decode cX2_isSame 457 = .ok (.invokevirtual 54, 3) := by decide +kernel
theorem dX2_isSame_460 : decode cX2_isSame 460 = .ok (.if_icmp .eq 5, 3) := by decide +kernel
theorem dX2_isSame_463 : decode cX2_isSame 463 = .ok (.iconst 0, 1) := by decide +kernel
theorem dX2_isSame_464 : decode cX2_isSame 464 = .ok (.ireturn, 1) := by decide +kernel
theorem dX2_isSame_465 : decode cX2_isSame 465 = .ok (.iinc 3 1, 3) := by decide +kernel
theorem dX2_isSame_468 : decode cX2_isSame 468 = .ok (.goto (-27), 3) := by decide +kernel
theorem dX2_isSame_471 : decode cX2_isSame 471 = .ok (.aload_n 1, 1) := by decide +kernel
theorem dX2_isSame_472 : decode cX2_isSame 472 = .ok (.invokevirtual 122, 3) := by decide +kernel
theorem dX2_isSame_475 : decode cX2_isSame 475 = .ok (.aload_n 0, 1) := by decide +kernel
theorem dX2_isSame_476 : decode cX2_isSame 476 = .ok (.getfield 27, 3) := by decide +kernel
theorem dX2_isSame_479 : decode cX2_isSame 479 = .ok (.ifCond .ne 7, 3) := by decide +kernel
theorem dX2_isSame_482 : decode cX2_isSame 482 = .ok (.dconst 0, 1) := by decide +kernel
theorem dX2_isSame_483 : decode cX2_isSame 483 = .ok (.goto 11, 3) := by decide +kernel
theorem dX2_isSame_486 : decode cX2_isSame 486 = .ok (.iload_n 2, 1) := by decide +kernel
theorem dX2_isSame_487 : decode cX2_isSame 487 = .ok (.i2d, 1) := by decide +kernel
theorem dX2_isSame_488 : decode cX2_isSame 488 = .ok (.aload_n 0, 1) := by decide +kernel
theorem dX2_isSame_489 : decode cX2_isSame 489 = .ok (.getfield 27, 3) := by decide +kernel
theorem dX2_isSame_492 : decode cX2_isSame 492 = .ok (.i2d, 1) := by decide +kernel
theorem dX2_isSame_493 : decode cX2_isSame 493 = .ok (.ddiv, 1) := by decide +kernel
theorem dX2_isSame_494 : decode cX2_isSame 494 = .ok (.dcmp .l, 1) := by decide +kernel
theorem dX2_isSame_495 : decode cX2_isSame 495 = .ok (.ifCond .ne 7, 3) := by decide +kernel
theorem dX2_isSame_498 : decode cX2_isSame 498 = .ok (.iconst 1, 1) := by decide +kernel
theorem dX2_isSame_499 : decode cX2_isSame 499 = .ok (.goto 4, 3) := by decide +kernel
theorem dX2_isSame_502 : decode cX2_isSame 502 = .ok (.iconst 0, 1) := by decide +kernel
theorem dX2_isSame_503 : decode cX2_isSame 503 = .ok (.ireturn, 1) := by decide +kernel
theorem dJ6_bitCount_0f7a4_0 : decode cJ6_bitCount_0f7a4 0 = .ok (.iload_n 0, 1) := by decide +kernel
theorem dJ6_bitCount_0f7a4_1 : decode cJ6_bitCount_0f7a4 1 = .ok (.iload_n 0, 1) := by decide +kernel
theorem dJ6_bitCount_0f7a4_2 : decode cJ6_bitCount_0f7a4 2 = .ok (.iconst 1, 1) := by decide +kernel
theorem dJ6_bitCount_0f7a4_3 : decode cJ6_bitCount_0f7a4 3 = .ok (.iushr, 1) := by decide +kernel
theorem dJ6_bitCount_0f7a4_4 : decode cJ6_bitCount_0f7a4 4 = .ok (.ldc_w 265, 3) := by decide +kernel
theorem dJ6_bitCount_0f7a4_7 : decode cJ6_bitCount_0f7a4 7 = .ok (.iand, 1) := by decide +kernel
theorem dJ6_bitCount_0f7a4_8 : decode cJ6_bitCount_0f7a4 8 = .ok (.isub, 1) := by decide +kernel
theorem dJ6_bitCount_0f7a4_9 : decode cJ6_bitCount_0f7a4 9 = .ok (.istore_n 0, 1) := by decide +kernel
theorem dJ6_bitCount_0f7a4_10 : decode cJ6_bitCount_0f7a4 10 = .ok (.iload_n 0, 1) := by decide +kernel
theorem dJ6_bitCount_0f7a4_11 : decode cJ6_bitCount_0f7a4 11 = .ok (.ldc_w 266, 3) := by decide +kernel
theorem dJ6_bitCount_0f7a4_14 : decode cJ6_bitCount_0f7a4 14 = .ok (.iand, 1) := by decide +kernel
theorem dJ6_bitCount_0f7a4_15 : decode cJ6_bitCount_0f7a4 15 = .ok (.iload_n 0, 1) := by decide +kernel
theorem dJ6_bitCount_0f7a4_16 : decode cJ6_bitCount_0f7a4 16 = .ok (.iconst 2, 1) := by decide +kernel
theorem dJ6_bitCount_0f7a4_17 : decode cJ6_bitCount_0f7a4 17 = .ok (.iushr, 1) := by decide +kernel
theorem dJ6_bitCount_0f7a4_18 : decode cJ6_bitCount_0f7a4 18 = .ok (.ldc_w 266, 3) := by decide +kernel
theorem dJ6_bitCount_0f7a4_21 : decode cJ6_bitCount_0f7a4 21 = .ok (.iand, 1) := by decide +kernel
theorem dJ6_bitCount_0f7a4_22 : decode cJ6_bitCount_0f7a4 22 = .ok (.iadd, 1) := by decide +kernel
theorem dJ6_bitCount_0f7a4_23 : decode cJ6_bitCount_0f7a4 23 = .ok (.istore_n 0, 1) := by decide +kernel
theorem dJ6_bitCount_0f7a4_24 : decode cJ6_bitCount_0f7a4 24 = .ok (.iload_n 0, 1) := by decide +kernel
theorem dJ6_bitCount_0f7a4_25 : decode cJ6_bitCount_0f7a4 25 = .ok (.iload_n 0, 1) := by decide +kernel
theorem dJ6_bitCount_0f7a4_26 : decode cJ6_bitCount_0f7a4 26 = .ok (.iconst 4, 1) := by decide +kernel
theorem dJ6_bitCount_0f7a4_27 : decode cJ6_bitCount_0f7a4 27 = .ok (.iushr, 1) := by decide +kernel
theorem dJ6_bitCount_0f7a4_28 : decode cJ6_bitCount_0f7a4 28 = .ok (.iadd, 1) := by decide +kernel
theorem dJ6_bitCount_0f7a4_29 : decode cJ6_bitCount_0f7a4 29 = .ok (.ldc_w 267, 3) := by decide +kernel
theorem dJ6_bitCount_0f7a4_32 : decode cJ6_bitCount_0f7a4 32 = .ok (.iand, 1) := by decide +kernel
theorem dJ6_bitCount_0f7a4_33 : decode cJ6_bitCount_0f7a4 33 = .ok (.istore_n 0, 1) := by decide +kernel
theorem dJ6_bitCount_0f7a4_34 : decode cJ6_bitCount_0f7a4 34 = .ok (.iload_n 0, 1) := by decide +kernel
theorem dJ6_bitCount_0f7a4_35 : decode cJ6_bitCount_0f7a4 35 = .ok (.iload_n 0, 1) := by decide +kernel
theorem dJ6_bitCount_0f7a4_36 : decode cJ6_bitCount_0f7a4 36 = .ok (.bipush 8, 2) := by decide +kernel
theorem dJ6_bitCount_0f7a4_38 : decode cJ6_bitCount_0f7a4 38 = .ok (.iushr, 1) := by decide +kernel
theorem dJ6_bitCount_0f7a4_39 : decode cJ6_bitCount_0f7a4 39 = .ok (.iadd, 1) := by decide +kernel
theorem dJ6_bitCount_0f7a4_40 : decode cJ6_bitCount_0f7a4 40 = .ok (.istore_n 0, 1) := by decide +kernel
theorem dJ6_bitCount_0f7a4_41 : decode cJ6_bitCount_0f7a4 41 = .ok (.iload_n 0, 1) := by decide +kernel
theorem dJ6_bitCount_0f7a4_42 : decode cJ6_bitCount_0f7a4 42 = .ok (.iload_n 0, 1) := by decide +kernel
theorem dJ6_bitCount_0f7a4_43 : decode cJ6_bitCount_0f7a4 43 = .ok (.bipush 16, 2) := by decide +kernel
theorem dJ6_bitCount_0f7a4_45 : decode cJ6_bitCount_0f7a4 45 = .ok (.iushr, 1) := by decide +kernel
theorem dJ6_bitCount_0f7a4_46 : decode cJ6_bitCount_0f7a4 46 = .ok (.iadd, 1) := by decide +kernel
theorem dJ6_bitCount_0f7a4_47 : decode cJ6_bitCount_0f7a4 47 = .ok (.istore_n 0, 1) := by decide +kernel
theorem dJ6_bitCount_0f7a4_48 : decode cJ6_bitCount_0f7a4 48 = .ok (.iload_n 0, 1) := by decide +kernel
theorem dJ6_bitCount_0f7a4_49 : decode cJ6_bitCount_0f7a4 49 = .ok (.bipush 63, 2) := by decide +kernel
theorem dJ6_bitCount_0f7a4_51 : decode cJ6_bitCount_0f7a4 51 = .ok (.iand, 1) := by decide +kernel
theorem dJ6_bitCount_0f7a4_52 : decode cJ6_bitCount_0f7a4 52 = .ok (.ireturn, 1) := by decide +kernel
theorem dJ9_max_7cf53_0 : decode cJ9_max_7cf53 0 = .ok (.iload_n 0, 1) := by decide +kernel
theorem dJ9_max_7cf53_1 : decode cJ9_max_7cf53 1 = .ok (.iload_n 1, 1) := by decide +kernel
theorem dJ9_max_7cf53_2 : decode cJ9_max_7cf53 2 = .ok (.if_icmp .lt 7, 3) := by decide +kernel
theorem dJ9_max_7cf53_5 : decode cJ9_max_7cf53 5 = .ok (.iload_n 0, 1) := by decide +kernel
theorem dJ9_max_7cf53_6 : decode cJ9_max_7cf53 6 = .ok (.goto 4, 3) := by decide +kernel
theorem dJ9_max_7cf53_9 : decode cJ9_max_7cf53 9 = .ok (.iload_n 1, 1) := by decide +kernel
theorem dJ9_max_7cf53_10 : decode cJ9_max_7cf53 10 = .ok (.ireturn, 1) := by decide +kernel
theorem dL_below_0 : decode cL_below 0 = .ok (.iload_n 0, 1) := by decide +kernel
theorem dL_below_1 : decode cL_below 1 = .ok (.ldc 7, 2) := by decide +kernel
theorem dL_below_3 : decode cL_below 3 = .ok (.iand, 1) := by decide +kernel
theorem dL_below_4 : decode cL_below 4 = .ok (.iload_n 1, 1) := by decide +kernel
theorem dL_below_5 : decode cL_below 5 = .ok (.irem, 1) := by decide +kernel
theorem dL_below_6 : decode cL_below 6 = .ok (.ireturn, 1) := by decide +kernel
theorem dL_cell_0 : decode cL_cell 0 = .ok (.iload_n 1, 1) := by decide +kernel
theorem dL_cell_1 : decode cL_cell 1 = .ok (.aload_n 0, 1) := by decide +kernel
theorem dL_cell_2 : decode cL_cell 2 = .ok (.arraylength, 1) := by decide +kernel
theorem dL_cell_3 : decode cL_cell 3 = .ok (.if_icmp .ge 9, 3) := by decide +kernel
theorem dL_cell_6 : decode cL_cell 6 = .ok (.aload_n 0, 1) := by decide +kernel
theorem dL_cell_7 : decode cL_cell 7 = .ok (.iload_n 1, 1) := by decide +kernel
theorem dL_cell_8 : decode cL_cell 8 = .ok (.iaload, 1) := by decide +kernel
theorem dL_cell_9 : decode cL_cell 9 = .ok (.goto 9, 3) := by decide +kernel
theorem dL_cell_12 : decode cL_cell 12 = .ok (.ldc 8, 2) := by decide +kernel
theorem dL_cell_14 : decode cL_cell 14 = .ok (.iload_n 1, 1) := by decide +kernel
theorem dL_cell_15 : decode cL_cell 15 = .ok (.iconst 3, 1) := by decide +kernel
theorem dL_cell_16 : decode cL_cell 16 = .ok (.iadd, 1) := by decide +kernel
theorem dL_cell_17 : decode cL_cell 17 = .ok (.imul, 1) := by decide +kernel
theorem dL_cell_18 : decode cL_cell 18 = .ok (.ireturn, 1) := by decide +kernel
theorem dL_act_0 : decode cL_act 0 = .ok (.aload_n 1, 1) := by decide +kernel
theorem dL_act_1 : decode cL_act 1 = .ok (.getfield 9, 3) := by decide +kernel
theorem dL_act_4 : decode cL_act 4 = .ok (.istore_n 3, 1) := by decide +kernel
theorem dL_act_5 : decode cL_act 5 = .ok (.iload_n 2, 1) := by decide +kernel
theorem dL_act_6 : decode cL_act 6 = .ok (.bipush 9, 2) := by decide +kernel
theorem dL_act_8 : decode cL_act 8 = .ok (.ishr, 1) := by decide +kernel
theorem dL_act_9 : decode cL_act 9 = .ok (.bipush 14, 2) := by decide +kernel
theorem dL_act_11 : decode cL_act 11 = .ok (.invokestatic 15, 3) := by decide +kernel
theorem dL_act_14 : decode cL_act 14 = .ok (.istore 4, 2) := by decide +kernel
theorem dL_act_16 : decode cL_act 16 = .ok (.iload_n 3, 1) := by decide +kernel
theorem dL_act_17 : decode cL_act 17 = .ok (.ifCond .eq 9, 3) := by decide +kernel
theorem dL_act_20 : decode cL_act 20 = .ok (.iload 4, 2) := by decide +kernel
theorem dL_act_22 : decode cL_act 22 = .ok (.iconst 3, 1) := by decide +kernel
theorem dL_act_23 : decode cL_act 23 = .ok (.if_icmp .ge 48, 3) := by decide +kernel
theorem dL_act_26 : decode cL_act 26 = .ok (.iload_n 3, 1) := by decide +kernel
theorem dL_act_27 : decode cL_act 27 = .ok (.iconst 5, 1) := by decide +kernel
theorem dL_act_28 : decode cL_act 28 = .ok (.if_icmp .eq 10, 3) := by decide +kernel
theorem dL_act_31 : decode cL_act 31 = .ok (.aload_n 1, 1) := by decide +kernel
theorem dL_act_32 : decode cL_act 32 = .ok (.getfield 21, 3) := by decide +kernel
theorem dL_act_35 : decode cL_act 35 = .ok (.ifCond .eq 5, 3) := by decide +kernel
theorem dL_act_38 : decode cL_act 38 = .ok (.iconst 1, 1) := by decide +kernel
theorem dL_act_39 : decode cL_act 39 = .ok (.ireturn, 1) := by decide +kernel
theorem dL_act_40 : decode cL_act 40 = .ok (.iload_n 2, 1) := by decide +kernel
theorem dL_act_41 : decode cL_act 41 = .ok (.iconst 2, 1) := by decide +kernel
theorem dL_act_42 : decode cL_act 42 = .ok (.ishr, 1) := by decide +kernel
theorem dL_act_43 : decode cL_act 43 = .ok (.iconst 3, 1) := by decide +kernel
theorem dL_act_44 : decode cL_act 44 = .ok (.invokestatic 15, 3) := by decide +kernel
theorem dL_act_47 : decode cL_act 47 = .ok (.istore 5, 2) := by decide +kernel
theorem dL_act_49 : decode cL_act 49 = .ok (.aload_n 1, 1) := by decide +kernel
theorem dL_act_50 : decode cL_act 50 = .ok (.iload 5, 2) := by decide +kernel
theorem dL_act_52 : decode cL_act 52 = .ok (.invokevirtual 25, 3) := by decide +kernel
theorem dL_act_55 : decode cL_act 55 = .ok (.aload_n 0, 1) := by decide +kernel
theorem dL_act_56 : decode cL_act 56 = .ok (.iload 5, 2) := by decide +kernel
theorem dL_act_58 : decode cL_act 58 = .ok (.invokevirtual 29, 3) := by decide +kernel
theorem dL_act_61 : decode cL_act 61 = .ok (.iload_n 3, 1) := by decide +kernel
theorem dL_act_62 : decode cL_act 62 = .ok (.if_icmp .ne 7, 3) := by decide +kernel
theorem dL_act_65 : decode cL_act 65 = .ok (.iconst 1, 1) := by decide +kernel
theorem dL_act_66 : decode cL_act 66 = .ok (.goto 4, 3) := by decide +kernel
theorem dL_act_69 : decode cL_act 69 = .ok (.iconst 0, 1) := by decide +kernel
theorem dL_act_70 : decode cL_act 70 = .ok (.ireturn, 1) := by decide +kernel
theorem dL_act_71 : decode cL_act 71 = .ok (.iload_n 2, 1) := by decide +kernel
theorem dL_act_72 : decode cL_act 72 = .ok (.iconst 1, 1) := by decide +kernel
theorem dL_act_73 : decode cL_act 73 = .ok (.ishr, 1) := by decide +kernel
theorem dL_act_74 : decode cL_act 74 = .ok (.iload_n 3, 1) := by decide +kernel
theorem dL_act_75 : decode cL_act 75 = .ok (.invokestatic 15, 3) := by decide +kernel
theorem dL_act_78 : decode cL_act 78 = .ok (.istore 5, 2) := by decide +kernel
theorem dL_act_80 : decode cL_act 80 = .ok (.iload 5, 2) := by decide +kernel
theorem dL_act_82 : decode cL_act 82 = .ok (.iconst 1, 1) := by decide +kernel
theorem dL_act_83 : decode cL_act 83 = .ok (.iadd, 1) := by decide +kernel
theorem dL_act_84 : decode cL_act 84 = .ok (.iload_n 2, 1) := by decide +kernel
theorem dL_act_85 : decode cL_act 85 = .ok (.iconst 3, 1) := by decide +kernel
theorem dL_act_86 : decode cL_act 86 = .ok (.ishr, 1) := by decide +kernel
theorem dL_act_87 : decode cL_act 87 = .ok (.iconst 1, 1) := by decide +kernel
theorem dL_act_88 : decode cL_act 88 = .ok (.iload_n 3, 1) := by decide +kernel
theorem dL_act_89 : decode cL_act 89 = .ok (.iconst 1, 1) := by decide +kernel
theorem dL_act_90 : decode cL_act 90 = .ok (.isub, 1) := by decide +kernel
theorem dL_act_91 : decode cL_act 91 = .ok (.invokestatic 35, 3) := by decide +kernel
theorem dL_act_94 : decode cL_act 94 = .ok (.invokestatic 15, 3) := by decide +kernel
theorem dL_act_97 : decode cL_act 97 = .ok (.iadd, 1) := by decide +kernel
theorem dL_act_98 : decode cL_act 98 = .ok (.iload_n 3, 1) := by decide +kernel
theorem dL_act_99 : decode cL_act 99 = .ok (.irem, 1) := by decide +kernel
theorem dL_act_100 : decode cL_act 100 = .ok (.istore 6, 2) := by decide +kernel
theorem dL_act_102 : decode cL_act 102 = .ok (.iload 4, 2) := by decide +kernel
theorem dL_act_104 : decode cL_act 104 = .ok (.tableswitch 316 3 9 #[44, 44, 106, 145, 145, 205, 269], 44) := by decide +kernel
theorem dL_act_148 : decode cL_act 148 = .ok (.iload_n 3, 1) := by decide +kernel
theorem dL_act_149 : decode cL_act 149 = .ok (.iconst 1, 1) := by decide +kernel
theorem dL_act_150 : decode cL_act 150 = .ok (.if_icmp .ne 5, 3) := by decide +kernel
theorem dL_act_153 : decode cL_act 153 = .ok (.iconst 1, 1) := by decide +kernel
theorem dL_act_154 : decode cL_act 154 = .ok (.ireturn, 1) := by decide +kernel
theorem dL_act_155 : decode cL_act 155 = .ok (.aload_n 1, 1) := by decide +kernel
theorem dL_act_156 : decode cL_act 156 = .ok (.getfield 40, 3) := by decide +kernel
theorem dL_act_159 : decode cL_act 159 = .ok (.iload 5, 2) := by decide +kernel
theorem dL_act_161 : decode cL_act 161 = .ok (.aaload, 1) := by decide +kernel
theorem dL_act_162 : decode cL_act 162 = .ok (.iload 6, 2) := by decide +kernel
theorem dL_act_164 : decode cL_act 164 = .ok (.aload_n 1, 1) := by decide +kernel
theorem dL_act_165 : decode cL_act 165 = .ok (.getfield 40, 3) := by decide +kernel
theorem dL_act_168 : decode cL_act 168 = .ok (.iload 5, 2) := by decide +kernel
theorem dL_act_170 : decode cL_act 170 = .ok (.aaload, 1) := by decide +kernel
theorem dL_act_171 : decode cL_act 171 = .ok (.iload 6, 2) := by decide +kernel
theorem dL_act_173 : decode cL_act 173 = .ok (.baload, 1) := by decide +kernel
theorem dL_act_174 : decode cL_act 174 = .ok (.ifCond .ne 7, 3) := by decide +kernel
theorem dL_act_177 : decode cL_act 177 = .ok (.iconst 1, 1) := by decide +kernel
theorem dL_act_178 : decode cL_act 178 = .ok (.goto 4, 3) := by decide +kernel
theorem dL_act_181 : decode cL_act 181 = .ok (.iconst 0, 1) := by decide +kernel
theorem dL_act_182 : decode cL_act 182 = .ok (.bastore, 1) := by decide +kernel
theorem dL_act_183 : decode cL_act 183 = .ok (.aload_n 0, 1) := by decide +kernel
theorem dL_act_184 : decode cL_act 184 = .ok (.iload 5, 2) := by decide +kernel
theorem dL_act_186 : decode cL_act 186 = .ok (.iload 6, 2) := by decide +kernel
theorem dL_act_188 : decode cL_act 188 = .ok (.invokevirtual 44, 3) := by decide +kernel
theorem dL_act_191 : decode cL_act 191 = .ok (.aload_n 1, 1) := by decide +kernel
theorem dL_act_192 : decode cL_act 192 = .ok (.getfield 40, 3) := by decide +kernel
theorem dL_act_195 : decode cL_act 195 = .ok (.iload 5, 2) := by decide +kernel
theorem dL_act_197 : decode cL_act 197 = .ok (.aaload, 1) := by decide +kernel
theorem dL_act_198 : decode cL_act 198 = .ok (.iload 6, 2) := by decide +kernel
theorem dL_act_200 : decode cL_act 200 = .ok (.baload, 1) := by decide +kernel
theorem dL_act_201 : decode cL_act 201 = .ok (.if_icmp .ne 7, 3) := by decide +kernel
theorem dL_act_204 : decode cL_act 204 = .ok (.iconst 1, 1) := by decide +kernel
theorem dL_act_205 : decode cL_act 205 = .ok (.goto 4, 3) := by decide +kernel
theorem dL_act_208 : decode cL_act 208 = .ok (.iconst 0, 1) := by decide +kernel
theorem dL_act_209 : decode cL_act 209 = .ok (.ireturn, 1) := by decide +kernel
theorem dL_act_210 : decode cL_act 210 = .ok (.iload_n 3, 1) := by decide +kernel
theorem dL_act_211 : decode cL_act 211 = .ok (.iconst 1, 1) := by decide +kernel
theorem dL_act_212 : decode cL_act 212 = .ok (.if_icmp .ne 5, 3) := by decide +kernel
theorem dL_act_215 : decode cL_act 215 = .ok (.iconst 1, 1) := by decide +kernel
theorem dL_act_216 : decode cL_act 216 = .ok (.ireturn, 1) := by decide +kernel
theorem dL_act_217 : decode cL_act 217 = .ok (.aload_n 1, 1) := by decide +kernel
theorem dL_act_218 : decode cL_act 218 = .ok (.iload 5, 2) := by decide +kernel
theorem dL_act_220 : decode cL_act 220 = .ok (.iload 6, 2) := by decide +kernel
theorem dL_act_222 : decode cL_act 222 = .ok (.invokevirtual 48, 3) := by decide +kernel
theorem dL_act_225 : decode cL_act 225 = .ok (.aload_n 0, 1) := by decide +kernel
theorem dL_act_226 : decode cL_act 226 = .ok (.iload 5, 2) := by decide +kernel
theorem dL_act_228 : decode cL_act 228 = .ok (.iload 6, 2) := by decide +kernel
theorem dL_act_230 : decode cL_act 230 = .ok (.invokevirtual 52, 3) := by decide +kernel
theorem dL_act_233 : decode cL_act 233 = .ok (.aload_n 1, 1) := by decide +kernel
theorem dL_act_234 : decode cL_act 234 = .ok (.getfield 54, 3) := by decide +kernel
theorem dL_act_237 : decode cL_act 237 = .ok (.iload 5, 2) := by decide +kernel
theorem dL_act_239 : decode cL_act 239 = .ok (.iaload, 1) := by decide +kernel
theorem dL_act_240 : decode cL_act 240 = .ok (.if_icmp .ne 7, 3) := by decide +kernel
theorem dL_act_243 : decode cL_act 243 = .ok (.iconst 1, 1) := by decide +kernel
theorem dL_act_244 : decode cL_act 244 = .ok (.goto 4, 3) := by decide +kernel
theorem dL_act_247 : decode cL_act 247 = .ok (.iconst 0, 1) := by decide +kernel
theorem dL_act_248 : decode cL_act 248 = .ok (.ireturn, 1) := by decide +kernel
theorem dL_act_249 : decode cL_act 249 = .ok (.iload_n 2, 1) := by decide +kernel
theorem dL_act_250 : decode cL_act 250 = .ok (.iconst 4, 1) := by decide +kernel
theorem dL_act_251 : decode cL_act 251 = .ok (.ishr, 1) := by decide +kernel
theorem dL_act_252 : decode cL_act 252 = .ok (.iconst 3, 1) := by decide +kernel
theorem dL_act_253 : decode cL_act 253 = .ok (.invokestatic 15, 3) := by decide +kernel
theorem dL_act_256 : decode cL_act 256 = .ok (.istore 7, 2) := by decide +kernel
theorem dL_act_258 : decode cL_act 258 = .ok (.aload_n 1, 1) := by decide +kernel
theorem dL_act_259 : decode cL_act 259 = .ok (.aload_n 1, 1) := by decide +kernel
theorem dL_act_260 : decode cL_act 260 = .ok (.getfield 54, 3) := by decide +kernel
theorem dL_act_263 : decode cL_act 263 = .ok (.iload 7, 2) := by decide +kernel
theorem dL_act_265 : decode cL_act 265 = .ok (.invokevirtual 58, 3) := by decide +kernel
theorem dL_act_268 : decode cL_act 268 = .ok (.istore 8, 2) := by decide +kernel
theorem dL_act_270 : decode cL_act 270 = .ok (.iload_n 2, 1) := by decide +kernel
theorem dL_act_271 : decode cL_act 271 = .ok (.bipush 6, 2) := by decide +kernel
theorem dL_act_273 : decode cL_act 273 = .ok (.ishr, 1) := by decide +kernel
theorem dL_act_274 : decode cL_act 274 = .ok (.iload 8, 2) := by decide +kernel
theorem dL_act_276 : decode cL_act 276 = .ok (.iconst 1, 1) := by decide +kernel
theorem dL_act_277 : decode cL_act 277 = .ok (.iadd, 1) := by decide +kernel
theorem dL_act_278 : decode cL_act 278 = .ok (.invokestatic 15, 3) := by decide +kernel
theorem dL_act_281 : decode cL_act 281 = .ok (.istore 9, 2) := by decide +kernel
theorem dL_act_283 : decode cL_act 283 = .ok (.aload_n 0, 1) := by decide +kernel
theorem dL_act_284 : decode cL_act 284 = .ok (.iload 7, 2) := by decide +kernel
theorem dL_act_286 : decode cL_act 286 = .ok (.iload 9, 2) := by decide +kernel
theorem dL_act_288 : decode cL_act 288 = .ok (.invokevirtual 62, 3) := by decide +kernel
theorem dL_act_291 : decode cL_act 291 = .ok (.aload_n 1, 1) := by decide +kernel
theorem dL_act_292 : decode cL_act 292 = .ok (.iload 7, 2) := by decide +kernel
theorem dL_act_294 : decode cL_act 294 = .ok (.iload 9, 2) := by decide +kernel
theorem dL_act_296 : decode cL_act 296 = .ok (.iconst 1, 1) := by decide +kernel
theorem dL_act_297 : decode cL_act 297 = .ok (.invokevirtual 65, 3) := by decide +kernel
theorem dL_act_300 : decode cL_act 300 = .ok (.if_icmp .ne 7, 3) := by decide +kernel
theorem dL_act_303 : decode cL_act 303 = .ok (.iconst 1, 1) := by decide +kernel
theorem dL_act_304 : decode cL_act 304 = .ok (.goto 4, 3) := by decide +kernel
theorem dL_act_307 : decode cL_act 307 = .ok (.iconst 0, 1) := by decide +kernel
theorem dL_act_308 : decode cL_act 308 = .ok (.ireturn, 1) := by decide +kernel
theorem dL_act_309 : decode cL_act 309 = .ok (.iload_n 2, 1) := by decide +kernel
theorem dL_act_310 : decode cL_act 310 = .ok (.iconst 4, 1) := by decide +kernel
theorem dL_act_311 : decode cL_act 311 = .ok (.ishr, 1) := by decide +kernel
theorem dL_act_312 : decode cL_act 312 = .ok (.iconst 3, 1) := by decide +kernel
theorem dL_act_313 : decode cL_act 313 = .ok (.invokestatic 15, 3) := by decide +kernel
theorem dL_act_316 : decode cL_act 316 = .ok (.istore 10, 2) := by decide +kernel
theorem dL_act_318 : decode cL_act 318 = .ok (.aload_n 1, 1) := by decide +kernel
theorem dL_act_319 : decode cL_act 319 = .ok (.aload_n 1, 1) := by decide +kernel
theorem dL_act_320 : decode cL_act 320 = .ok (.getfield 54, 3) := by decide +kernel
theorem dL_act_323 : decode cL_act 323 = .ok (.iload 10, 2) := by decide +kernel
theorem dL_act_325 : decode cL_act 325 = .ok (.invokevirtual 58, 3) := by decide +kernel
theorem dL_act_328 : decode cL_act 328 = .ok (.iload_n 2, 1) := by decide +kernel
theorem dL_act_329 : decode cL_act 329 = .ok (.bipush 6, 2) := by decide +kernel
theorem dL_act_331 : decode cL_act 331 = .ok (.ishr, 1) := by decide +kernel
theorem dL_act_332 : decode cL_act 332 = .ok (.iconst 2, 1) := by decide +kernel
theorem dL_act_333 : decode cL_act 333 = .ok (.invokestatic 15, 3) := by decide +kernel
theorem dL_act_336 : decode cL_act 336 = .ok (.iadd, 1) := by decide +kernel
theorem dL_act_337 : decode cL_act 337 = .ok (.istore 11, 2) := by decide +kernel
theorem dL_act_339 : decode cL_act 339 = .ok (.iload 11, 2) := by decide +kernel
theorem dL_act_341 : decode cL_act 341 = .ok (.iconst 5, 1) := by decide +kernel
theorem dL_act_342 : decode cL_act 342 = .ok (.if_icmp .le 5, 3) := by decide +kernel
theorem dL_act_345 : decode cL_act 345 = .ok (.iconst 1, 1) := by decide +kernel
theorem dL_act_346 : decode cL_act 346 = .ok (.ireturn, 1) := by decide +kernel
theorem dL_act_347 : decode cL_act 347 = .ok (.aload_n 0, 1) := by decide +kernel
theorem dL_act_348 : decode cL_act 348 = .ok (.iload 10, 2) := by decide +kernel
theorem dL_act_350 : decode cL_act 350 = .ok (.iload 11, 2) := by decide +kernel
theorem dL_act_352 : decode cL_act 352 = .ok (.invokevirtual 69, 3) := by decide +kernel
theorem dL_act_355 : decode cL_act 355 = .ok (.aload_n 1, 1) := by decide +kernel
theorem dL_act_356 : decode cL_act 356 = .ok (.iload 10, 2) := by decide +kernel
theorem dL_act_358 : decode cL_act 358 = .ok (.iload 11, 2) := by decide +kernel
theorem dL_act_360 : decode cL_act 360 = .ok (.iconst 0, 1) := by decide +kernel
theorem dL_act_361 : decode cL_act 361 = .ok (.invokevirtual 65, 3) := by decide +kernel
theorem dL_act_364 : decode cL_act 364 = .ok (.if_icmp .ne 7, 3) := by decide +kernel
theorem dL_act_367 : decode cL_act 367 = .ok (.iconst 1, 1) := by decide +kernel
theorem dL_act_368 : decode cL_act 368 = .ok (.goto 4, 3) := by decide +kernel
theorem dL_act_371 : decode cL_act 371 = .ok (.iconst 0, 1) := by decide +kernel
theorem dL_act_372 : decode cL_act 372 = .ok (.ireturn, 1) := by decide +kernel
theorem dL_act_373 : decode cL_act 373 = .ok (.iload_n 2, 1) := by decide +kernel
theorem dL_act_374 : decode cL_act 374 = .ok (.iconst 4, 1) := by decide +kernel
theorem dL_act_375 : decode cL_act 375 = .ok (.invokestatic 15, 3) := by decide +kernel
theorem dL_act_378 : decode cL_act 378 = .ok (.ifCond .le 5, 3) := by decide +kernel
theorem dL_act_381 : decode cL_act 381 = .ok (.iconst 1, 1) := by decide +kernel
theorem dL_act_382 : decode cL_act 382 = .ok (.ireturn, 1) := by decide +kernel
theorem dL_act_383 : decode cL_act 383 = .ok (.aload_n 1, 1) := by decide +kernel
theorem dL_act_384 : decode cL_act 384 = .ok (.invokevirtual 72, 3) := by decide +kernel
theorem dL_act_387 : decode cL_act 387 = .ok (.aload_n 1, 1) := by decide +kernel
theorem dL_act_388 : decode cL_act 388 = .ok (.iconst 0, 1) := by decide +kernel
theorem dL_act_389 : decode cL_act 389 = .ok (.putfield 75, 3) := by decide +kernel
theorem dL_act_392 : decode cL_act 392 = .ok (.aload_n 1, 1) := by decide +kernel
theorem dL_act_393 : decode cL_act 393 = .ok (.iconst 0, 1) := by decide +kernel
theorem dL_act_394 : decode cL_act 394 = .ok (.putfield 78, 3) := by decide +kernel
theorem dL_act_397 : decode cL_act 397 = .ok (.aload_n 1, 1) := by decide +kernel
theorem dL_act_398 : decode cL_act 398 = .ok (.iconst 0, 1) := by decide +kernel
theorem dL_act_399 : decode cL_act 399 = .ok (.putfield 21, 3) := by decide +kernel
theorem dL_act_402 : decode cL_act 402 = .ok (.aload_n 0, 1) := by decide +kernel
theorem dL_act_403 : decode cL_act 403 = .ok (.invokevirtual 81, 3) := by decide +kernel
theorem dL_act_406 : decode cL_act 406 = .ok (.aload_n 1, 1) := by decide +kernel
theorem dL_act_407 : decode cL_act 407 = .ok (.getfield 85, 3) := by decide +kernel
theorem dL_act_410 : decode cL_act 410 = .ok (.arraylength, 1) := by decide +kernel
theorem dL_act_411 : decode cL_act 411 = .ok (.if_icmp .ne 7, 3) := by decide +kernel
theorem dL_act_414 : decode cL_act 414 = .ok (.iconst 1, 1) := by decide +kernel
theorem dL_act_415 : decode cL_act 415 = .ok (.goto 4, 3) := by decide +kernel
theorem dL_act_418 : decode cL_act 418 = .ok (.iconst 0, 1) := by decide +kernel
theorem dL_act_419 : decode cL_act 419 = .ok (.ireturn, 1) := by decide +kernel
theorem dL_act_420 : decode cL_act 420 = .ok (.aload_n 0, 1) := by decide +kernel
theorem dL_act_421 : decode cL_act 421 = .ok (.invokevirtual 89, 3) := by decide +kernel
theorem dL_act_424 : decode cL_act 424 = .ok (.aload_n 1, 1) := by decide +kernel
theorem dL_act_425 : decode cL_act 425 = .ok (.invokevirtual 92, 3) := by decide +kernel
theorem dL_act_428 : decode cL_act 428 = .ok (.if_icmp .ne 7, 3) := by decide +kernel
theorem dL_act_431 : decode cL_act 431 = .ok (.iconst 1, 1) := by decide +kernel
theorem dL_act_432 : decode cL_act 432 = .ok (.goto 4, 3) := by decide +kernel
theorem dL_act_435 : decode cL_act 435 = .ok (.iconst 0, 1) := by decide +kernel
theorem dL_act_436 : decode cL_act 436 = .ok (.ireturn, 1) := by decide +kernel
theorem dL_build_0 : decode cL_build 0 = .ok (.new 10, 3) := by decide +kernel
theorem dL_build_3 : decode cL_build 3 = .ok (.dup, 1) := by decide +kernel
theorem dL_build_4 : decode cL_build 4 = .ok (.invokespecial 95, 3) := by decide +kernel
theorem dL_build_7 : decode cL_build 7 = .ok (.astore_n 2, 1) := by decide +kernel
theorem dL_build_8 : decode cL_build 8 = .ok (.iconst 1, 1) := by decide +kernel
theorem dL_build_9 : decode cL_build 9 = .ok (.aload_n 1, 1) := by decide +kernel
theorem dL_build_10 : decode cL_build 10 = .ok (.iconst 0, 1) := by decide +kernel
theorem dL_build_11 : decode cL_build 11 = .ok (.invokestatic 96, 3) := by decide +kernel
theorem dL_build_14 : decode cL_build 14 = .ok (.iconst 5, 1) := by decide +kernel
theorem dL_build_15 : decode cL_build 15 = .ok (.invokestatic 15, 3) := by decide +kernel
theorem dL_build_18 : decode cL_build 18 = .ok (.iadd, 1) := by decide +kernel
theorem dL_build_19 : decode cL_build 19 = .ok (.istore_n 3, 1) := by decide +kernel
theorem dL_build_20 : decode cL_build 20 = .ok (.iconst 0, 1) := by decide +kernel
theorem dL_build_21 : decode cL_build 21 = .ok (.istore 4, 2) := by decide +kernel
theorem dL_build_23 : decode cL_build 23 = .ok (.iload 4, 2) := by decide +kernel
theorem dL_build_25 : decode cL_build 25 = .ok (.iload_n 3, 1) := by decide +kernel
theorem dL_build_26 : decode cL_build 26 = .ok (.if_icmp .ge 43, 3) := by decide +kernel
theorem dL_build_29 : decode cL_build 29 = .ok (.aload_n 2, 1) := by decide +kernel
theorem dL_build_30 : decode cL_build 30 = .ok (.aload_n 1, 1) := by decide +kernel
theorem dL_build_31 : decode cL_build 31 = .ok (.iconst 1, 1) := by decide +kernel
theorem dL_build_32 : decode cL_build 32 = .ok (.iload 4, 2) := by decide +kernel
theorem dL_build_34 : decode cL_build 34 = .ok (.iadd, 1) := by decide +kernel
theorem dL_build_35 : decode cL_build 35 = .ok (.invokestatic 96, 3) := by decide +kernel
theorem dL_build_38 : decode cL_build 38 = .ok (.iconst 3, 1) := by decide +kernel
theorem dL_build_39 : decode cL_build 39 = .ok (.invokestatic 15, 3) := by decide +kernel
theorem dL_build_42 : decode cL_build 42 = .ok (.invokevirtual 25, 3) := by decide +kernel
theorem dL_build_45 : decode cL_build 45 = .ok (.aload_n 0, 1) := by decide +kernel
theorem dL_build_46 : decode cL_build 46 = .ok (.aload_n 2, 1) := by decide +kernel
theorem dL_build_47 : decode cL_build 47 = .ok (.getfield 54, 3) := by decide +kernel
theorem dL_build_50 : decode cL_build 50 = .ok (.iload 4, 2) := by decide +kernel
theorem dL_build_52 : decode cL_build 52 = .ok (.iaload, 1) := by decide +kernel
theorem dL_build_53 : decode cL_build 53 = .ok (.invokevirtual 29, 3) := by decide +kernel
theorem dL_build_56 : decode cL_build 56 = .ok (.iload 4, 2) := by decide +kernel
theorem dL_build_58 : decode cL_build 58 = .ok (.if_icmp .eq 5, 3) := by decide +kernel
theorem dL_build_61 : decode cL_build 61 = .ok (.aconst_null, 1) := by decide +kernel
theorem dL_build_62 : decode cL_build 62 = .ok (.areturn, 1) := by decide +kernel
theorem dL_build_63 : decode cL_build 63 = .ok (.iinc 4 1, 3) := by decide +kernel
theorem dL_build_66 : decode cL_build 66 = .ok (.goto (-43), 3) := by decide +kernel
theorem dL_build_69 : decode cL_build 69 = .ok (.aload_n 1, 1) := by decide +kernel
theorem dL_build_70 : decode cL_build 70 = .ok (.bipush 6, 2) := by decide +kernel
theorem dL_build_72 : decode cL_build 72 = .ok (.invokestatic 96, 3) := by decide +kernel
theorem dL_build_75 : decode cL_build 75 = .ok (.bipush 14, 2) := by decide +kernel
theorem dL_build_77 : decode cL_build 77 = .ok (.invokestatic 15, 3) := by decide +kernel
theorem dL_build_80 : decode cL_build 80 = .ok (.istore 4, 2) := by decide +kernel
theorem dL_build_82 : decode cL_build 82 = .ok (.iconst 0, 1) := by decide +kernel
theorem dL_build_83 : decode cL_build 83 = .ok (.istore 5, 2) := by decide +kernel
theorem dL_build_85 : decode cL_build 85 = .ok (.iload 5, 2) := by decide +kernel
theorem dL_build_87 : decode cL_build 87 = .ok (.iload 4, 2) := by decide +kernel
theorem dL_build_89 : decode cL_build 89 = .ok (.if_icmp .ge 38, 3) := by decide +kernel
theorem dL_build_92 : decode cL_build 92 = .ok (.aload_n 0, 1) := by decide +kernel
theorem dL_build_93 : decode cL_build 93 = .ok (.aload_n 2, 1) := by decide +kernel
theorem dL_build_94 : decode cL_build 94 = .ok (.aload_n 1, 1) := by decide +kernel
theorem dL_build_95 : decode cL_build 95 = .ok (.iload 5, 2) := by decide +kernel
theorem dL_build_97 : decode cL_build 97 = .ok (.bipush 7, 2) := by decide +kernel
theorem dL_build_99 : decode cL_build 99 = .ok (.iadd, 1) := by decide +kernel
theorem dL_build_100 : decode cL_build 100 = .ok (.bipush 16, 2) := by decide +kernel
theorem dL_build_102 : decode cL_build 102 = .ok (.irem, 1) := by decide +kernel
theorem dL_build_103 : decode cL_build 103 = .ok (.invokestatic 96, 3) := by decide +kernel
theorem dL_build_106 : decode cL_build 106 = .ok (.sipush 631, 3) := by decide +kernel
theorem dL_build_109 : decode cL_build 109 = .ok (.iload 5, 2) := by decide +kernel
theorem dL_build_111 : decode cL_build 111 = .ok (.imul, 1) := by decide +kernel
theorem dL_build_112 : decode cL_build 112 = .ok (.iadd, 1) := by decide +kernel
theorem dL_build_113 : decode cL_build 113 = .ok (.invokestatic 99, 3) := by decide +kernel
theorem dL_build_116 : decode cL_build 116 = .ok (.ifCond .ne 5, 3) := by decide +kernel
theorem dL_build_119 : decode cL_build 119 = .ok (.aconst_null, 1) := by decide +kernel
theorem dL_build_120 : decode cL_build 120 = .ok (.areturn, 1) := by decide +kernel
theorem dL_build_121 : decode cL_build 121 = .ok (.iinc 5 1, 3) := by decide +kernel
theorem dL_build_124 : decode cL_build 124 = .ok (.goto (-39), 3) := by decide +kernel
theorem dL_build_127 : decode cL_build 127 = .ok (.aload_n 2, 1) := by decide +kernel
theorem dL_build_128 : decode cL_build 128 = .ok (.areturn, 1) := by decide +kernel
theorem dL_law_0 : decode cL_law 0 = .ok (.new 30, 3) := by decide +kernel
theorem dL_law_3 : decode cL_law 3 = .ok (.dup, 1) := by decide +kernel
theorem dL_law_4 : decode cL_law 4 = .ok (.invokespecial 103, 3) := by decide +kernel
theorem dL_law_7 : decode cL_law 7 = .ok (.astore_n 1, 1) := by decide +kernel
theorem dL_law_8 : decode cL_law 8 = .ok (.aload_n 1, 1) := by decide +kernel
theorem dL_law_9 : decode cL_law 9 = .ok (.aload_n 0, 1) := by decide +kernel
theorem dL_law_10 : decode cL_law 10 = .ok (.invokestatic 104, 3) := by decide +kernel
theorem dL_law_13 : decode cL_law 13 = .ok (.astore_n 2, 1) := by decide +kernel
theorem dL_law_14 : decode cL_law 14 = .ok (.aload_n 2, 1) := by decide +kernel
theorem dL_law_15 : decode cL_law 15 = .ok (.ifnonnull 5, 3) := by decide +kernel
theorem dL_law_18 : decode cL_law 18 = .ok (.iconst 0, 1) := by decide +kernel
theorem dL_law_19 : decode cL_law 19 = .ok (.ireturn, 1) := by decide +kernel
theorem dL_law_20 : decode cL_law 20 = .ok (.iconst 0, 1) := by decide +kernel
theorem dL_law_21 : decode cL_law 21 = .ok (.istore_n 3, 1) := by decide +kernel
theorem dL_law_22 : decode cL_law 22 = .ok (.iload_n 3, 1) := by decide +kernel
theorem dL_law_23 : decode cL_law 23 = .ok (.bipush 16, 2) := by decide +kernel
theorem dL_law_25 : decode cL_law 25 = .ok (.if_icmp .ge 705, 3) := by decide +kernel
theorem dL_law_28 : decode cL_law 28 = .ok (.aload_n 0, 1) := by decide +kernel
theorem dL_law_29 : decode cL_law 29 = .ok (.iload_n 3, 1) := by decide +kernel
theorem dL_law_30 : decode cL_law 30 = .ok (.invokestatic 96, 3) := by decide +kernel
theorem dL_law_33 : decode cL_law 33 = .ok (.sipush 631, 3) := by decide +kernel
theorem dL_law_36 : decode cL_law 36 = .ok (.iload_n 3, 1) := by decide +kernel
theorem dL_law_37 : decode cL_law 37 = .ok (.imul, 1) := by decide +kernel
theorem dL_law_38 : decode cL_law 38 = .ok (.iadd, 1) := by decide +kernel
theorem dL_law_39 : decode cL_law 39 = .ok (.istore 4, 2) := by decide +kernel
theorem dL_law_41 : decode cL_law 41 = .ok (.aload_n 1, 1) := by decide +kernel
theorem dL_law_42 : decode cL_law 42 = .ok (.aload_n 2, 1) := by decide +kernel
theorem dL_law_43 : decode cL_law 43 = .ok (.iload 4, 2) := by decide +kernel
theorem dL_law_45 : decode cL_law 45 = .ok (.invokestatic 99, 3) := by decide +kernel
theorem dL_law_48 : decode cL_law 48 = .ok (.ifCond .ne 5, 3) := by decide +kernel
theorem dL_law_51 : decode cL_law 51 = .ok (.iconst 0, 1) := by decide +kernel
theorem dL_law_52 : decode cL_law 52 = .ok (.ireturn, 1) := by decide +kernel
theorem dL_law_53 : decode cL_law 53 = .ok (.aload_n 1, 1) := by decide +kernel
theorem dL_law_54 : decode cL_law 54 = .ok (.invokevirtual 108, 3) := by decide +kernel
theorem dL_law_57 : decode cL_law 57 = .ok (.istore 5, 2) := by decide +kernel
theorem dL_law_59 : decode cL_law 59 = .ok (.aload_n 1, 1) := by decide +kernel
theorem dL_law_60 : decode cL_law 60 = .ok (.invokevirtual 111, 3) := by decide +kernel
theorem dL_law_63 : decode cL_law 63 = .ok (.istore 6, 2) := by decide +kernel
theorem dL_law_65 : decode cL_law 65 = .ok (.iconst 0, 1) := by decide +kernel
theorem dL_law_66 : decode cL_law 66 = .ok (.istore 7, 2) := by decide +kernel
theorem dL_law_68 : decode cL_law 68 = .ok (.iconst 3, 1) := by decide +kernel
theorem dL_law_69 : decode cL_law 69 = .ok (.newarray .int, 2) := by decide +kernel
theorem dL_law_71 : decode cL_law 71 = .ok (.astore 8, 2) := by decide +kernel
theorem dL_law_73 : decode cL_law 73 = .ok (.iload 5, 2) := by decide +kernel
theorem dL_law_75 : decode cL_law 75 = .ok (.newarray .boolean, 2) := by decide +kernel
theorem dL_law_77 : decode cL_law 77 = .ok (.astore 9, 2) := by decide +kernel
theorem dL_law_79 : decode cL_law 79 = .ok (.iconst 0, 1) := by decide +kernel
theorem dL_law_80 : decode cL_law 80 = .ok (.istore 10, 2) := by decide +kernel
theorem dL_law_82 : decode cL_law 82 = .ok (.iload 10, 2) := by decide +kernel
theorem dL_law_84 : decode cL_law 84 = .ok (.iload 5, 2) := by decide +kernel
theorem dL_law_86 : decode cL_law 86 = .ok (.if_icmp .ge 419, 3) := by decide +kernel
theorem dL_law_89 : decode cL_law 89 = .ok (.aload_n 1, 1) := by decide +kernel
theorem dL_law_90 : decode cL_law 90 = .ok (.iload 10, 2) := by decide +kernel
theorem dL_law_92 : decode cL_law 92 = .ok (.invokevirtual 114, 3) := by decide +kernel
theorem dL_law_95 : decode cL_law 95 = .ok (.istore 11, 2) := by decide +kernel
theorem dL_law_97 : decode cL_law 97 = .ok (.aload 8, 2) := by decide +kernel
theorem dL_law_99 : decode cL_law 99 = .ok (.iload 11, 2) := by decide +kernel
theorem dL_law_101 : decode cL_law 101 = .ok (.dup2, 1) := by decide +kernel
theorem dL_law_102 : decode cL_law 102 = .ok (.iaload, 1) := by decide +kernel
theorem dL_law_103 : decode cL_law 103 = .ok (.iconst 1, 1) := by decide +kernel
theorem dL_law_104 : decode cL_law 104 = .ok (.iadd, 1) := by decide +kernel
theorem dL_law_105 : decode cL_law 105 = .ok (.iastore, 1) := by decide +kernel
theorem dL_law_106 : decode cL_law 106 = .ok (.iconst 0, 1) := by decide +kernel
theorem dL_law_107 : decode cL_law 107 = .ok (.istore 12, 2) := by decide +kernel
theorem dL_law_109 : decode cL_law 109 = .ok (.iconst 0, 1) := by decide +kernel
theorem dL_law_110 : decode cL_law 110 = .ok (.istore 13, 2) := by decide +kernel
theorem dL_law_112 : decode cL_law 112 = .ok (.iload 13, 2) := by decide +kernel
theorem dL_law_114 : decode cL_law 114 = .ok (.iconst 3, 1) := by decide +kernel
theorem dL_law_115 : decode cL_law 115 = .ok (.if_icmp .ge 22, 3) := by decide +kernel
theorem dL_law_118 : decode cL_law 118 = .ok (.iload 12, 2) := by decide +kernel
theorem dL_law_120 : decode cL_law 120 = .ok (.aload_n 1, 1) := by decide +kernel
theorem dL_law_121 : decode cL_law 121 = .ok (.iload 10, 2) := by decide +kernel
theorem dL_law_123 : decode cL_law 123 = .ok (.iload 13, 2) := by decide +kernel
theorem dL_law_125 : decode cL_law 125 = .ok (.invokevirtual 117, 3) := by decide +kernel
theorem dL_law_128 : decode cL_law 128 = .ok (.iadd, 1) := by decide +kernel
theorem dL_law_129 : decode cL_law 129 = .ok (.istore 12, 2) := by decide +kernel
theorem dL_law_131 : decode cL_law 131 = .ok (.iinc 13 1, 3) := by decide +kernel
theorem dL_law_134 : decode cL_law 134 = .ok (.goto (-22), 3) := by decide +kernel
theorem dL_law_137 : decode cL_law 137 = .ok (.aload_n 1, 1) := by decide +kernel
theorem dL_law_138 : decode cL_law 138 = .ok (.iload 10, 2) := by decide +kernel
theorem dL_law_140 : decode cL_law 140 = .ok (.invokevirtual 120, 3) := by decide +kernel
theorem dL_law_143 : decode cL_law 143 = .ok (.istore 13, 2) := by decide +kernel
theorem dL_law_145 : decode cL_law 145 = .ok (.aload 9, 2) := by decide +kernel
theorem dL_law_147 : decode cL_law 147 = .ok (.iload 10, 2) := by decide +kernel
theorem dL_law_149 : decode cL_law 149 = .ok (.aload_n 1, 1) := by decide +kernel
theorem dL_law_150 : decode cL_law 150 = .ok (.iload 10, 2) := by decide +kernel
theorem dL_law_152 : decode cL_law 152 = .ok (.invokevirtual 123, 3) := by decide +kernel
theorem dL_law_155 : decode cL_law 155 = .ok (.bastore, 1) := by decide +kernel
theorem dL_law_156 : decode cL_law 156 = .ok (.iload 7, 2) := by decide +kernel
theorem dL_law_158 : decode cL_law 158 = .ok (.aload 9, 2) := by decide +kernel
theorem dL_law_160 : decode cL_law 160 = .ok (.iload 10, 2) := by decide +kernel
theorem dL_law_162 : decode cL_law 162 = .ok (.baload, 1) := by decide +kernel
theorem dL_law_163 : decode cL_law 163 = .ok (.ifCond .eq 7, 3) := by decide +kernel
theorem dL_law_166 : decode cL_law 166 = .ok (.iconst 1, 1) := by decide +kernel
theorem dL_law_167 : decode cL_law 167 = .ok (.goto 4, 3) := by decide +kernel
theorem dL_law_170 : decode cL_law 170 = .ok (.iconst 0, 1) := by decide +kernel
theorem dL_law_171 : decode cL_law 171 = .ok (.iadd, 1) := by decide +kernel
theorem dL_law_172 : decode cL_law 172 = .ok (.istore 7, 2) := by decide +kernel
theorem dL_law_174 : decode cL_law 174 = .ok (.iload 12, 2) := by decide +kernel
theorem dL_law_176 : decode cL_law 176 = .ok (.iload 6, 2) := by decide +kernel
theorem dL_law_178 : decode cL_law 178 = .ok (.if_icmp .ne 118, 3) := by decide +kernel
theorem dL_law_181 : decode cL_law 181 = .ok (.aload_n 1, 1) := by decide +kernel
theorem dL_law_182 : decode cL_law 182 = .ok (.iload 10, 2) := by decide +kernel
theorem dL_law_184 : decode cL_law 184 = .ok (.iload 11, 2) := by decide +kernel
theorem dL_law_186 : decode cL_law 186 = .ok (.invokevirtual 117, 3) := by decide +kernel
theorem dL_law_189 : decode cL_law 189 = .ok (.iconst 1, 1) := by decide +kernel
theorem dL_law_190 : decode cL_law 190 = .ok (.if_icmp .lt 106, 3) := by decide +kernel
theorem dL_law_193 : decode cL_law 193 = .ok (.iload 13, 2) := by decide +kernel
theorem dL_law_195 : decode cL_law 195 = .ok (.iconst 1, 1) := by decide +kernel
theorem dL_law_196 : decode cL_law 196 = .ok (.if_icmp .lt 100, 3) := by decide +kernel
theorem dL_law_199 : decode cL_law 199 = .ok (.iload 13, 2) := by decide +kernel
theorem dL_law_201 : decode cL_law 201 = .ok (.iload 6, 2) := by decide +kernel
theorem dL_law_203 : decode cL_law 203 = .ok (.if_icmp .gt 93, 3) := by decide +kernel
theorem dL_law_206 : decode cL_law 206 = .ok (.aload_n 1, 1) := by decide +kernel
theorem dL_law_207 : decode cL_law 207 = .ok (.iload 10, 2) := by decide +kernel
theorem dL_law_209 : decode cL_law 209 = .ok (.invokevirtual 127, 3) := by decide +kernel
theorem dL_law_212 : decode cL_law 212 = .ok (.aload_n 1, 1) := by decide +kernel
theorem dL_law_213 : decode cL_law 213 = .ok (.iload 10, 2) := by decide +kernel
theorem dL_law_215 : decode cL_law 215 = .ok (.iload 11, 2) := by decide +kernel
theorem dL_law_217 : decode cL_law 217 = .ok (.invokevirtual 117, 3) := by decide +kernel
theorem dL_law_220 : decode cL_law 220 = .ok (.iload 6, 2) := by decide +kernel
theorem dL_law_222 : decode cL_law 222 = .ok (.if_icmp .ne 7, 3) := by decide +kernel
theorem dL_law_225 : decode cL_law 225 = .ok (.iconst 1, 1) := by decide +kernel
theorem dL_law_226 : decode cL_law 226 = .ok (.goto 4, 3) := by decide +kernel
theorem dL_law_229 : decode cL_law 229 = .ok (.iconst 0, 1) := by decide +kernel
theorem dL_law_230 : decode cL_law 230 = .ok (.if_icmp .ne 66, 3) := by decide +kernel
theorem dL_law_233 : decode cL_law 233 = .ok (.aload_n 1, 1) := by decide +kernel
theorem dL_law_234 : decode cL_law 234 = .ok (.iload 10, 2) := by decide +kernel
theorem dL_law_236 : decode cL_law 236 = .ok (.invokevirtual 127, 3) := by decide +kernel
theorem dL_law_239 : decode cL_law 239 = .ok (.ifCond .eq 11, 3) := by decide +kernel
theorem dL_law_242 : decode cL_law 242 = .ok (.aload 9, 2) := by decide +kernel
theorem dL_law_244 : decode cL_law 244 = .ok (.iload 10, 2) := by decide +kernel
theorem dL_law_246 : decode cL_law 246 = .ok (.baload, 1) := by decide +kernel
theorem dL_law_247 : decode cL_law 247 = .ok (.ifCond .eq 49, 3) := by decide +kernel
theorem dL_law_250 : decode cL_law 250 = .ok (.iload 13, 2) := by decide +kernel
theorem dL_law_252 : decode cL_law 252 = .ok (.iconst 1, 1) := by decide +kernel
theorem dL_law_253 : decode cL_law 253 = .ok (.if_icmp .ne 11, 3) := by decide +kernel
theorem dL_law_256 : decode cL_law 256 = .ok (.aload 9, 2) := by decide +kernel
theorem dL_law_258 : decode cL_law 258 = .ok (.iload 10, 2) := by decide +kernel
theorem dL_law_260 : decode cL_law 260 = .ok (.baload, 1) := by decide +kernel
theorem dL_law_261 : decode cL_law 261 = .ok (.ifCond .eq 35, 3) := by decide +kernel
theorem dL_law_264 : decode cL_law 264 = .ok (.aload_n 1, 1) := by decide +kernel
theorem dL_law_265 : decode cL_law 265 = .ok (.iload 10, 2) := by decide +kernel
theorem dL_law_267 : decode cL_law 267 = .ok (.iload 10, 2) := by decide +kernel
theorem dL_law_269 : decode cL_law 269 = .ok (.invokevirtual 130, 3) := by decide +kernel
theorem dL_law_272 : decode cL_law 272 = .ok (.aload 9, 2) := by decide +kernel
theorem dL_law_274 : decode cL_law 274 = .ok (.iload 10, 2) := by decide +kernel
theorem dL_law_276 : decode cL_law 276 = .ok (.baload, 1) := by decide +kernel
theorem dL_law_277 : decode cL_law 277 = .ok (.if_icmp .ne 19, 3) := by decide +kernel
theorem dL_law_280 : decode cL_law 280 = .ok (.aload_n 1, 1) := by decide +kernel
theorem dL_law_281 : decode cL_law 281 = .ok (.iload 10, 2) := by decide +kernel
theorem dL_law_283 : decode cL_law 283 = .ok (.iload 10, 2) := by decide +kernel
theorem dL_law_285 : decode cL_law 285 = .ok (.invokevirtual 133, 3) := by decide +kernel
theorem dL_law_288 : decode cL_law 288 = .ok (.aload 9, 2) := by decide +kernel
theorem dL_law_290 : decode cL_law 290 = .ok (.iload 10, 2) := by decide +kernel
theorem dL_law_292 : decode cL_law 292 = .ok (.baload, 1) := by decide +kernel
theorem dL_law_293 : decode cL_law 293 = .ok (.if_icmp .eq 5, 3) := by decide +kernel
theorem dL_law_296 : decode cL_law 296 = .ok (.iconst 0, 1) := by decide +kernel
theorem dL_law_297 : decode cL_law 297 = .ok (.ireturn, 1) := by decide +kernel
theorem dL_law_298 : decode cL_law 298 = .ok (.iconst 0, 1) := by decide +kernel
theorem dL_law_299 : decode cL_law 299 = .ok (.istore 14, 2) := by decide +kernel
theorem dL_law_301 : decode cL_law 301 = .ok (.iload 14, 2) := by decide +kernel
theorem dL_law_303 : decode cL_law 303 = .ok (.iload 5, 2) := by decide +kernel
theorem dL_law_305 : decode cL_law 305 = .ok (.if_icmp .ge 166, 3) := by decide +kernel
theorem dL_law_308 : decode cL_law 308 = .ok (.aload_n 1, 1) := by decide +kernel
theorem dL_law_309 : decode cL_law 309 = .ok (.iload 10, 2) := by decide +kernel
theorem dL_law_311 : decode cL_law 311 = .ok (.iload 14, 2) := by decide +kernel
theorem dL_law_313 : decode cL_law 313 = .ok (.invokevirtual 136, 3) := by decide +kernel
theorem dL_law_316 : decode cL_law 316 = .ok (.istore 15, 2) := by decide +kernel
theorem dL_law_318 : decode cL_law 318 = .ok (.iload 15, 2) := by decide +kernel
theorem dL_law_320 : decode cL_law 320 = .ok (.ifCond .eq 21, 3) := by decide +kernel
theorem dL_law_323 : decode cL_law 323 = .ok (.iload 10, 2) := by decide +kernel
theorem dL_law_325 : decode cL_law 325 = .ok (.iload 14, 2) := by decide +kernel
theorem dL_law_327 : decode cL_law 327 = .ok (.if_icmp .eq 71, 3) := by decide +kernel
theorem dL_law_330 : decode cL_law 330 = .ok (.aload_n 1, 1) := by decide +kernel
theorem dL_law_331 : decode cL_law 331 = .ok (.iload 10, 2) := by decide +kernel
theorem dL_law_333 : decode cL_law 333 = .ok (.iload 14, 2) := by decide +kernel
theorem dL_law_335 : decode cL_law 335 = .ok (.invokevirtual 130, 3) := by decide +kernel
theorem dL_law_338 : decode cL_law 338 = .ok (.ifCond .eq 60, 3) := by decide +kernel
theorem dL_law_341 : decode cL_law 341 = .ok (.aload_n 1, 1) := by decide +kernel
theorem dL_law_342 : decode cL_law 342 = .ok (.iload 10, 2) := by decide +kernel
theorem dL_law_344 : decode cL_law 344 = .ok (.iload 14, 2) := by decide +kernel
theorem dL_law_346 : decode cL_law 346 = .ok (.aload_n 1, 1) := by decide +kernel
theorem dL_law_347 : decode cL_law 347 = .ok (.iload 14, 2) := by decide +kernel
theorem dL_law_349 : decode cL_law 349 = .ok (.invokevirtual 114, 3) := by decide +kernel
theorem dL_law_352 : decode cL_law 352 = .ok (.invokevirtual 138, 3) := by decide +kernel
theorem dL_law_355 : decode cL_law 355 = .ok (.ifCond .eq 43, 3) := by decide +kernel
theorem dL_law_358 : decode cL_law 358 = .ok (.aload_n 1, 1) := by decide +kernel
theorem dL_law_359 : decode cL_law 359 = .ok (.iload 10, 2) := by decide +kernel
theorem dL_law_361 : decode cL_law 361 = .ok (.iload 14, 2) := by decide +kernel
theorem dL_law_363 : decode cL_law 363 = .ok (.invokevirtual 133, 3) := by decide +kernel
theorem dL_law_366 : decode cL_law 366 = .ok (.ifCond .eq 12, 3) := by decide +kernel
theorem dL_law_369 : decode cL_law 369 = .ok (.aload_n 1, 1) := by decide +kernel
theorem dL_law_370 : decode cL_law 370 = .ok (.iload 14, 2) := by decide +kernel
theorem dL_law_372 : decode cL_law 372 = .ok (.invokevirtual 123, 3) := by decide +kernel
theorem dL_law_375 : decode cL_law 375 = .ok (.ifCond .eq 23, 3) := by decide +kernel
theorem dL_law_378 : decode cL_law 378 = .ok (.aload_n 1, 1) := by decide +kernel
theorem dL_law_379 : decode cL_law 379 = .ok (.iload 14, 2) := by decide +kernel
theorem dL_law_381 : decode cL_law 381 = .ok (.invokevirtual 127, 3) := by decide +kernel
theorem dL_law_384 : decode cL_law 384 = .ok (.ifCond .eq 16, 3) := by decide +kernel
theorem dL_law_387 : decode cL_law 387 = .ok (.aload_n 1, 1) := by decide +kernel
theorem dL_law_388 : decode cL_law 388 = .ok (.iload 10, 2) := by decide +kernel
theorem dL_law_390 : decode cL_law 390 = .ok (.iload 14, 2) := by decide +kernel
theorem dL_law_392 : decode cL_law 392 = .ok (.invokevirtual 130, 3) := by decide +kernel
theorem dL_law_395 : decode cL_law 395 = .ok (.ifCond .ne 5, 3) := by decide +kernel
theorem dL_law_398 : decode cL_law 398 = .ok (.iconst 0, 1) := by decide +kernel
theorem dL_law_399 : decode cL_law 399 = .ok (.ireturn, 1) := by decide +kernel
theorem dL_law_400 : decode cL_law 400 = .ok (.iconst 0, 1) := by decide +kernel
theorem dL_law_401 : decode cL_law 401 = .ok (.istore 16, 2) := by decide +kernel
theorem dL_law_403 : decode cL_law 403 = .ok (.iconst 0, 1) := by decide +kernel
theorem dL_law_404 : decode cL_law 404 = .ok (.istore 17, 2) := by decide +kernel
theorem dL_law_406 : decode cL_law 406 = .ok (.iload 17, 2) := by decide +kernel
theorem dL_law_408 : decode cL_law 408 = .ok (.iconst 3, 1) := by decide +kernel
theorem dL_law_409 : decode cL_law 409 = .ok (.if_icmp .ge 32, 3) := by decide +kernel
theorem dL_law_412 : decode cL_law 412 = .ok (.iload 16, 2) := by decide +kernel
theorem dL_law_414 : decode cL_law 414 = .ok (.aload_n 1, 1) := by decide +kernel
theorem dL_law_415 : decode cL_law 415 = .ok (.iload 10, 2) := by decide +kernel
theorem dL_law_417 : decode cL_law 417 = .ok (.iload 14, 2) := by decide +kernel
theorem dL_law_419 : decode cL_law 419 = .ok (.iload 17, 2) := by decide +kernel
theorem dL_law_421 : decode cL_law 421 = .ok (.invokevirtual 138, 3) := by decide +kernel
theorem dL_law_424 : decode cL_law 424 = .ok (.ifCond .eq 7, 3) := by decide +kernel
theorem dL_law_427 : decode cL_law 427 = .ok (.iconst 1, 1) := by decide +kernel
theorem dL_law_428 : decode cL_law 428 = .ok (.goto 4, 3) := by decide +kernel
theorem dL_law_431 : decode cL_law 431 = .ok (.iconst 0, 1) := by decide +kernel
theorem dL_law_432 : decode cL_law 432 = .ok (.iadd, 1) := by decide +kernel
theorem dL_law_433 : decode cL_law 433 = .ok (.istore 16, 2) := by decide +kernel
theorem dL_law_435 : decode cL_law 435 = .ok (.iinc 17 1, 3) := by decide +kernel
theorem dL_law_438 : decode cL_law 438 = .ok (.goto (-32), 3) := by decide +kernel
theorem dL_law_441 : decode cL_law 441 = .ok (.aload_n 1, 1) := by decide +kernel
theorem dL_law_442 : decode cL_law 442 = .ok (.iload 10, 2) := by decide +kernel
theorem dL_law_444 : decode cL_law 444 = .ok (.iload 14, 2) := by decide +kernel
theorem dL_law_446 : decode cL_law 446 = .ok (.invokevirtual 130, 3) := by decide +kernel
theorem dL_law_449 : decode cL_law 449 = .ok (.iload 16, 2) := by decide +kernel
theorem dL_law_451 : decode cL_law 451 = .ok (.iconst 1, 1) := by decide +kernel
theorem dL_law_452 : decode cL_law 452 = .ok (.if_icmp .ne 7, 3) := by decide +kernel
theorem dL_law_455 : decode cL_law 455 = .ok (.iconst 1, 1) := by decide +kernel
theorem dL_law_456 : decode cL_law 456 = .ok (.goto 4, 3) := by decide +kernel
theorem dL_law_459 : decode cL_law 459 = .ok (.iconst 0, 1) := by decide +kernel
theorem dL_law_460 : decode cL_law 460 = .ok (.if_icmp .eq 5, 3) := by decide +kernel
theorem dL_law_463 : decode cL_law 463 = .ok (.iconst 0, 1) := by decide +kernel
theorem dL_law_464 : decode cL_law 464 = .ok (.ireturn, 1) := by decide +kernel
theorem dL_law_465 : decode cL_law 465 = .ok (.iinc 14 1, 3) := by decide +kernel
theorem dL_law_468 : decode cL_law 468 = .ok (.goto (-167), 3) := by decide +kernel
theorem dL_law_471 : decode cL_law 471 = .ok (.aload_n 1, 1) := by decide +kernel
theorem dL_law_472 : decode cL_law 472 = .ok (.iload 10, 2) := by decide +kernel
theorem dL_law_474 : decode cL_law 474 = .ok (.invokevirtual 142, 3) := by decide +kernel
theorem dL_law_477 : decode cL_law 477 = .ok (.istore 14, 2) := by decide +kernel
theorem dL_law_479 : decode cL_law 479 = .ok (.iload 14, 2) := by decide +kernel
theorem dL_law_481 : decode cL_law 481 = .ok (.iconst 1, 1) := by decide +kernel
theorem dL_law_482 : decode cL_law 482 = .ok (.iload 7, 2) := by decide +kernel
theorem dL_law_484 : decode cL_law 484 = .ok (.invokestatic 35, 3) := by decide +kernel
theorem dL_law_487 : decode cL_law 487 = .ok (.if_icmp .lt 10, 3) := by decide +kernel
theorem dL_law_490 : decode cL_law 490 = .ok (.iload 14, 2) := by decide +kernel
theorem dL_law_492 : decode cL_law 492 = .ok (.iload 5, 2) := by decide +kernel
theorem dL_law_494 : decode cL_law 494 = .ok (.if_icmp .le 5, 3) := by decide +kernel
theorem dL_law_497 : decode cL_law 497 = .ok (.iconst 0, 1) := by decide +kernel
theorem dL_law_498 : decode cL_law 498 = .ok (.ireturn, 1) := by decide +kernel
theorem dL_law_499 : decode cL_law 499 = .ok (.iinc 10 1, 3) := by decide +kernel
theorem dL_law_502 : decode cL_law 502 = .ok (.goto (-420), 3) := by decide +kernel
theorem dL_law_505 : decode cL_law 505 = .ok (.iconst 0, 1) := by decide +kernel
theorem dL_law_506 : decode cL_law 506 = .ok (.istore 10, 2) := by decide +kernel
theorem dL_law_508 : decode cL_law 508 = .ok (.iload 10, 2) := by decide +kernel
theorem dL_law_510 : decode cL_law 510 = .ok (.iconst 3, 1) := by decide +kernel
theorem dL_law_511 : decode cL_law 511 = .ok (.if_icmp .ge 25, 3) := by decide +kernel
theorem dL_law_514 : decode cL_law 514 = .ok (.aload_n 1, 1) := by decide +kernel
theorem dL_law_515 : decode cL_law 515 = .ok (.iload 10, 2) := by decide +kernel
theorem dL_law_517 : decode cL_law 517 = .ok (.invokevirtual 145, 3) := by decide +kernel
theorem dL_law_520 : decode cL_law 520 = .ok (.aload 8, 2) := by decide +kernel
theorem dL_law_522 : decode cL_law 522 = .ok (.iload 10, 2) := by decide +kernel
theorem dL_law_524 : decode cL_law 524 = .ok (.iaload, 1) := by decide +kernel
theorem dL_law_525 : decode cL_law 525 = .ok (.if_icmp .eq 5, 3) := by decide +kernel
theorem dL_law_528 : decode cL_law 528 = .ok (.iconst 0, 1) := by decide +kernel
theorem dL_law_529 : decode cL_law 529 = .ok (.ireturn, 1) := by decide +kernel
theorem dL_law_530 : decode cL_law 530 = .ok (.iinc 10 1, 3) := by decide +kernel
theorem dL_law_533 : decode cL_law 533 = .ok (.goto (-25), 3) := by decide +kernel
theorem dL_law_536 : decode cL_law 536 = .ok (.iload 7, 2) := by decide +kernel
theorem dL_law_538 : decode cL_law 538 = .ok (.aload_n 1, 1) := by decide +kernel
theorem dL_law_539 : decode cL_law 539 = .ok (.invokevirtual 148, 3) := by decide +kernel
theorem dL_law_542 : decode cL_law 542 = .ok (.if_icmp .ne 9, 3) := by decide +kernel
theorem dL_law_545 : decode cL_law 545 = .ok (.iload 6, 2) := by decide +kernel
theorem dL_law_547 : decode cL_law 547 = .ok (.iconst 1, 1) := by decide +kernel
theorem dL_law_548 : decode cL_law 548 = .ok (.if_icmp .ge 5, 3) := by decide +kernel
theorem dL_law_551 : decode cL_law 551 = .ok (.iconst 0, 1) := by decide +kernel
theorem dL_law_552 : decode cL_law 552 = .ok (.ireturn, 1) := by decide +kernel
theorem dL_law_553 : decode cL_law 553 = .ok (.aload_n 1, 1) := by decide +kernel
theorem dL_law_554 : decode cL_law 554 = .ok (.invokevirtual 151, 3) := by decide +kernel
theorem dL_law_557 : decode cL_law 557 = .ok (.istore 10, 2) := by decide +kernel
theorem dL_law_559 : decode cL_law 559 = .ok (.aload_n 1, 1) := by decide +kernel
theorem dL_law_560 : decode cL_law 560 = .ok (.invokevirtual 154, 3) := by decide +kernel
theorem dL_law_563 : decode cL_law 563 = .ok (.istore 11, 2) := by decide +kernel
theorem dL_law_565 : decode cL_law 565 = .ok (.aload_n 1, 1) := by decide +kernel
theorem dL_law_566 : decode cL_law 566 = .ok (.invokevirtual 157, 3) := by decide +kernel
theorem dL_law_569 : decode cL_law 569 = .ok (.istore 12, 2) := by decide +kernel
theorem dL_law_571 : decode cL_law 571 = .ok (.aload_n 1, 1) := by decide +kernel
theorem dL_law_572 : decode cL_law 572 = .ok (.invokevirtual 89, 3) := by decide +kernel
theorem dL_law_575 : decode cL_law 575 = .ok (.istore 13, 2) := by decide +kernel
theorem dL_law_577 : decode cL_law 577 = .ok (.aload_n 2, 1) := by decide +kernel
theorem dL_law_578 : decode cL_law 578 = .ok (.invokevirtual 92, 3) := by decide +kernel
theorem dL_law_581 : decode cL_law 581 = .ok (.iload 13, 2) := by decide +kernel
theorem dL_law_583 : decode cL_law 583 = .ok (.if_icmp .ne 88, 3) := by decide +kernel
theorem dL_law_586 : decode cL_law 586 = .ok (.iload 13, 2) := by decide +kernel
theorem dL_law_588 : decode cL_law 588 = .ok (.aload 9, 2) := by decide +kernel
theorem dL_law_590 : decode cL_law 590 = .ok (.iload 10, 2) := by decide +kernel
theorem dL_law_592 : decode cL_law 592 = .ok (.baload, 1) := by decide +kernel
theorem dL_law_593 : decode cL_law 593 = .ok (.ifCond .eq 12, 3) := by decide +kernel
theorem dL_law_596 : decode cL_law 596 = .ok (.aload_n 1, 1) := by decide +kernel
theorem dL_law_597 : decode cL_law 597 = .ok (.iload 10, 2) := by decide +kernel
theorem dL_law_599 : decode cL_law 599 = .ok (.invokevirtual 114, 3) := by decide +kernel
theorem dL_law_602 : decode cL_law 602 = .ok (.goto 4, 3) := by decide +kernel
theorem dL_law_605 : decode cL_law 605 = .ok (.iconst (-1), 1) := by decide +kernel
theorem dL_law_606 : decode cL_law 606 = .ok (.if_icmp .ne 65, 3) := by decide +kernel
theorem dL_law_609 : decode cL_law 609 = .ok (.aload_n 1, 1) := by decide +kernel
theorem dL_law_610 : decode cL_law 610 = .ok (.invokevirtual 157, 3) := by decide +kernel
theorem dL_law_613 : decode cL_law 613 = .ok (.iload 12, 2) := by decide +kernel
theorem dL_law_615 : decode cL_law 615 = .ok (.iconst 1, 1) := by decide +kernel
theorem dL_law_616 : decode cL_law 616 = .ok (.iadd, 1) := by decide +kernel
theorem dL_law_617 : decode cL_law 617 = .ok (.if_icmp .ne 54, 3) := by decide +kernel
theorem dL_law_620 : decode cL_law 620 = .ok (.aload_n 1, 1) := by decide +kernel
theorem dL_law_621 : decode cL_law 621 = .ok (.invokevirtual 154, 3) := by decide +kernel
theorem dL_law_624 : decode cL_law 624 = .ok (.iload 11, 2) := by decide +kernel
theorem dL_law_626 : decode cL_law 626 = .ok (.iload 13, 2) := by decide +kernel
theorem dL_law_628 : decode cL_law 628 = .ok (.ifCond .ge 7, 3) := by decide +kernel
theorem dL_law_631 : decode cL_law 631 = .ok (.iconst 1, 1) := by decide +kernel
theorem dL_law_632 : decode cL_law 632 = .ok (.goto 4, 3) := by decide +kernel
theorem dL_law_635 : decode cL_law 635 = .ok (.iconst 0, 1) := by decide +kernel
theorem dL_law_636 : decode cL_law 636 = .ok (.iadd, 1) := by decide +kernel
theorem dL_law_637 : decode cL_law 637 = .ok (.if_icmp .ne 34, 3) := by decide +kernel
theorem dL_law_640 : decode cL_law 640 = .ok (.aload_n 1, 1) := by decide +kernel
theorem dL_law_641 : decode cL_law 641 = .ok (.invokevirtual 151, 3) := by decide +kernel
theorem dL_law_644 : decode cL_law 644 = .ok (.iload 10, 2) := by decide +kernel
theorem dL_law_646 : decode cL_law 646 = .ok (.iconst 1, 1) := by decide +kernel
theorem dL_law_647 : decode cL_law 647 = .ok (.iadd, 1) := by decide +kernel
theorem dL_law_648 : decode cL_law 648 = .ok (.iload 5, 2) := by decide +kernel
theorem dL_law_650 : decode cL_law 650 = .ok (.irem, 1) := by decide +kernel
theorem dL_law_651 : decode cL_law 651 = .ok (.if_icmp .ne 20, 3) := by decide +kernel
theorem dL_law_654 : decode cL_law 654 = .ok (.aload_n 1, 1) := by decide +kernel
theorem dL_law_655 : decode cL_law 655 = .ok (.invokevirtual 111, 3) := by decide +kernel
theorem dL_law_658 : decode cL_law 658 = .ok (.iload 6, 2) := by decide +kernel
theorem dL_law_660 : decode cL_law 660 = .ok (.if_icmp .gt 11, 3) := by decide +kernel
theorem dL_law_663 : decode cL_law 663 = .ok (.aload_n 1, 1) := by decide +kernel
theorem dL_law_664 : decode cL_law 664 = .ok (.invokevirtual 111, 3) := by decide +kernel
theorem dL_law_667 : decode cL_law 667 = .ok (.iconst 1, 1) := by decide +kernel
theorem dL_law_668 : decode cL_law 668 = .ok (.if_icmp .ge 5, 3) := by decide +kernel
theorem dL_law_671 : decode cL_law 671 = .ok (.iconst 0, 1) := by decide +kernel
theorem dL_law_672 : decode cL_law 672 = .ok (.ireturn, 1) := by decide +kernel
theorem dL_law_673 : decode cL_law 673 = .ok (.iload 13, 2) := by decide +kernel
theorem dL_law_675 : decode cL_law 675 = .ok (.ifCond .lt 14, 3) := by decide +kernel
theorem dL_law_678 : decode cL_law 678 = .ok (.aload_n 1, 1) := by decide +kernel
theorem dL_law_679 : decode cL_law 679 = .ok (.iload 10, 2) := by decide +kernel
theorem dL_law_681 : decode cL_law 681 = .ok (.invokevirtual 127, 3) := by decide +kernel
theorem dL_law_684 : decode cL_law 684 = .ok (.ifCond .ne 5, 3) := by decide +kernel
theorem dL_law_687 : decode cL_law 687 = .ok (.iconst 0, 1) := by decide +kernel
theorem dL_law_688 : decode cL_law 688 = .ok (.ireturn, 1) := by decide +kernel
theorem dL_law_689 : decode cL_law 689 = .ok (.iconst 0, 1) := by decide +kernel
theorem dL_law_690 : decode cL_law 690 = .ok (.istore 14, 2) := by decide +kernel
theorem dL_law_692 : decode cL_law 692 = .ok (.iload 14, 2) := by decide +kernel
theorem dL_law_694 : decode cL_law 694 = .ok (.iload 5, 2) := by decide +kernel
theorem dL_law_696 : decode cL_law 696 = .ok (.if_icmp .ge 28, 3) := by decide +kernel
theorem dL_law_699 : decode cL_law 699 = .ok (.aload 9, 2) := by decide +kernel
theorem dL_law_701 : decode cL_law 701 = .ok (.iload 14, 2) := by decide +kernel
theorem dL_law_703 : decode cL_law 703 = .ok (.baload, 1) := by decide +kernel
theorem dL_law_704 : decode cL_law 704 = .ok (.ifCond .eq 14, 3) := by decide +kernel
theorem dL_law_707 : decode cL_law 707 = .ok (.aload_n 1, 1) := by decide +kernel
theorem dL_law_708 : decode cL_law 708 = .ok (.iload 14, 2) := by decide +kernel
theorem dL_law_710 : decode cL_law 710 = .ok (.invokevirtual 123, 3) := by decide +kernel
theorem dL_law_713 : decode cL_law 713 = .ok (.ifCond .ne 5, 3) := by decide +kernel
theorem dL_law_716 : decode cL_law 716 = .ok (.iconst 0, 1) := by decide +kernel
theorem dL_law_717 : decode cL_law 717 = .ok (.ireturn, 1) := by decide +kernel
theorem dL_law_718 : decode cL_law 718 = .ok (.iinc 14 1, 3) := by decide +kernel
theorem dL_law_721 : decode cL_law 721 = .ok (.goto (-29), 3) := by decide +kernel
theorem dL_law_724 : decode cL_law 724 = .ok (.iinc 3 1, 3) := by decide +kernel
theorem dL_law_727 : decode cL_law 727 = .ok (.goto (-705), 3) := by decide +kernel
theorem dL_law_730 : decode cL_law 730 = .ok (.aload_n 2, 1) := by decide +kernel
theorem dL_law_731 : decode cL_law 731 = .ok (.aload_n 1, 1) := by decide +kernel
theorem dL_law_732 : decode cL_law 732 = .ok (.invokevirtual 160, 3) := by decide +kernel
theorem dL_law_735 : decode cL_law 735 = .ok (.ireturn, 1) := by decide +kernel
end
section
/-! contracts in one form: a method of the game or of the model over its world w; the answer and the world behind it by post; nothing is made -/
abbrev rmB (f lo : Nat) : Room := { frames := f, cells := 0, slots := 0, locals := lo }
def wIn (w : va_W) : Nat → Prop := fun q => q ∈ w.map (·.1)
/-- what the tables say that no list of steady words carries: the array classes of arrays, the nest mates' constructors -/
def zOK (U : State) : Prop := va_AOA .boolean U ∧ va_AOA .int U ∧ va_Nw (.methodLinkNest RX1 9 yX0_init RX1) U ∧ va_Nw (.methodLinkNest RL 95 yX2_init RL) U
theorem zOK.warm {s U : State} (hW : s.WarmedH U.vm) (h : zOK s) : zOK U := ⟨h.1.moved hW.alike, h.2.1.moved hW.alike, va_Nw.warmM hW h.2.2.1, va_Nw.warmM hW h.2.2.2⟩
def cP (D : va_G) (ty : List (ClassId × FieldType)) (av : List Value) (w : va_W) : Array Value → State → Prop := va_Pc av (fun U => va_P D vwCl w U.heap ∧ va_K D vwCl ty U ∧ va_D (fun _ => True) w ∧ zOK U)
theorem cP_blind {D : va_G} {ty : List (ClassId × FieldType)} {av : List Value} {w : va_W} : FrameBlind (cP D ty av w) := fun a U g mk q => by
  obtain ⟨q0, qP, qK, qD, qZ⟩ := q
  exact ⟨q0, qP, va_K.moved (u := U) (U := U.calling g mk a) (Vm.Alike.refl U.vm) qK, qD, zOK.warm (s := U) (U := U.calling g mk a) (State.WarmedH.refl U) qZ⟩
def cB (D : va_G) (w : va_W) : va_W → State → Prop := fun u t => va_P D vwCl u t.heap ∧ (u.map (·.1)).Perm (w.map (·.1))
abbrev Mi (l : Launch) (y : MethodName) (ws : List Cond) (fr lo : Nat) (D : va_G) (ty : List (ClassId × FieldType)) (av : List Value) (w : va_W) (post : Int32 → va_W → Prop) : Prop := Met l y ws (rmB fr lo) (cP D ty av w) (va_Qi post (cB D w) (wIn w)) 0 0 (wIn w)
abbrev Ml (l : Launch) (y : MethodName) (ws : List Cond) (fr lo : Nat) (D : va_G) (ty : List (ClassId × FieldType)) (av : List Value) (w : va_W) (post : Int64 → va_W → Prop) : Prop := Met l y ws (rmB fr lo) (cP D ty av w) (va_Ql post (cB D w) (wIn w)) 0 0 (wIn w)
abbrev Md (l : Launch) (y : MethodName) (ws : List Cond) (fr lo : Nat) (D : va_G) (ty : List (ClassId × FieldType)) (av : List Value) (w : va_W) (post : UInt64 → va_W → Prop) : Prop := Met l y ws (rmB fr lo) (cP D ty av w) (va_Qd post (cB D w) (wIn w)) 0 0 (wIn w)
abbrev Mv (l : Launch) (y : MethodName) (ws : List Cond) (fr lo : Nat) (D : va_G) (ty : List (ClassId × FieldType)) (av : List Value) (w : va_W) (post : va_W → Prop) : Prop := Met l y ws (rmB fr lo) (cP D ty av w) (va_Qv post (cB D w) (wIn w)) 0 0 (wIn w)
abbrev Mp (l : Launch) (y : MethodName) (ws : List Cond) (fr lo : Nat) (D : va_G) (ty : List (ClassId × FieldType)) (av : List Value) (w : va_W) (post : Int32 → Prop) : Prop := Mi l y ws fr lo D ty av w (fun r u => u = w ∧ post r)
theorem wIn_of {w : va_W} {k : Nat} {q : Nat × va_E} (h : w[k]? = some q) : wIn w q.1 := List.mem_map.mpr ⟨q, List.mem_of_getElem? h, rfl⟩
theorem va_D_iff {A : Nat → Prop} {w : va_W} : va_D A w ↔ (w.map (·.1)).Nodup ∧ ∀ a ∈ w.map (·.1), A a := by
  constructor
  · intro h
    refine ⟨List.pairwise_iff_getElem.mpr fun i j hi hj hij he => ?_, fun a ha => ?_⟩
    · have hi' : i < w.length := by simpa using hi
      have hj' : j < w.length := by simpa using hj
      have := h.1 i j w[i] w[j] (List.getElem?_eq_getElem hi') (List.getElem?_eq_getElem hj') (by simpa using he)
      omega
    · obtain ⟨x, hx, rfl⟩ := List.mem_map.mp ha
      obtain ⟨k, hk⟩ := List.getElem?_of_mem hx
      exact h.2 k x hk
  · rintro ⟨h1, h2⟩
    refine ⟨fun i j x y hi hj hxy => ?_, fun k q hk => h2 _ (wIn_of hk)⟩
    have e1 : (w.map (·.1))[i]? = some x.1 := by rw [List.getElem?_map, hi]; rfl
    have e2 : (w.map (·.1))[j]? = some x.1 := by rw [List.getElem?_map, hj, hxy]; rfl
    obtain ⟨hi2, e1⟩ := List.getElem?_eq_some_iff.mp e1
    obtain ⟨hj2, e2⟩ := List.getElem?_eq_some_iff.mp e2
    rcases Nat.lt_trichotomy i j with hlt | heq | hlt
    · exact absurd (e1.trans e2.symm) (List.pairwise_iff_getElem.mp h1 i j hi2 hj2 hlt)
    · exact heq
    · exact absurd (e2.trans e1.symm) (List.pairwise_iff_getElem.mp h1 j i hj2 hi2 hlt)
theorem va_D_same {A : Nat → Prop} {w u : va_W} (h : va_D A w) (e : (u.map (·.1)).Perm (w.map (·.1))) : va_D A u := by
  rw [va_D_iff] at h ⊢
  exact ⟨e.symm.nodup h.1, fun a ha => h.2 a (e.mem_iff.mp ha)⟩
theorem wIn_A {A0 : Nat → Prop} {ws wc : va_W} (hD : va_D A0 ws) (isC : List Nat) (hC : isC.map (fun i => ws[i]?) = wc.map some) : ∀ q, wIn wc q → A0 q := by
  intro q hq
  obtain ⟨x, hx, rfl⟩ := List.mem_map.mp hq
  obtain ⟨k, hk⟩ := List.getElem?_of_mem hx
  have h1 : (isC.map (fun i => ws[i]?))[k]? = some (some x) := by rw [hC, List.getElem?_map, hk]; rfl
  rw [List.getElem?_map] at h1
  cases hi : isC[k]? with
  | none => rw [hi] at h1; cases h1
  | some i => rw [hi] at h1; exact hD.2 i x (Option.some.inj h1)
theorem va_P_at {D : va_G} {cl : List vw_C} {ws wc : va_W} {H : Heap} (hP : va_P D cl ws H) (isC : List Nat) (hC : isC.map (fun i => ws[i]?) = wc.map some) : va_P D cl wc H := by
  intro k q hk
  have h1 : (isC.map (fun i => ws[i]?))[k]? = some (some q) := by rw [hC, List.getElem?_map, hk]; rfl
  rw [List.getElem?_map] at h1
  cases hi : isC[k]? with
  | none => rw [hi] at h1; cases h1
  | some i => rw [hi] at h1; exact hP i q (Option.some.inj h1)
/-- behind a call over a part of the world -/
theorem my_join {A0 : Nat → Prop} {D : va_G} {cl : List vw_C} {ws wc wr w1 : va_W} {H H1 : Heap} (hP : va_P D cl ws H) (hD : va_D A0 ws) (isC isR : List Nat) (hC : isC.map (fun i => ws[i]?) = wc.map some) (hR : isR.map (fun i => ws[i]?) = wr.map some) (hn : va_nd (isR ++ isC) = true)
    (hk : ∀ q : Nat, q < H.size → ¬ wIn wc q → H1[q]? = H[q]?) (hP1 : va_P D cl w1 H1) (he : (w1.map (·.1)).Perm (wc.map (·.1))) : va_P D cl (wr ++ w1) H1 ∧ va_D A0 (wr ++ w1) := by
  have hall : (isR ++ isC).map (fun i => ws[i]?) = (wr ++ wc).map some := by rw [List.map_append, List.map_append, hC, hR]
  have hDa : va_D A0 (wr ++ wc) := hD.sub (isR ++ isC) hn hall
  have hPr : va_P D cl wr H := va_P_at hP isR hR
  have hD2 : va_D A0 (wr ++ w1) := va_D_same hDa (by rw [List.map_append, List.map_append]; exact he.append_left _)
  refine ⟨va_P.app ?_ hP1, hD2⟩
  intro k q hk2
  refine (hPr k q hk2).kept (hk q.1 (hPr k q hk2).lt (fun hq => ?_))
  obtain ⟨x, hx, hxe⟩ := List.mem_map.mp hq
  obtain ⟨j, hj⟩ := List.getElem?_of_mem hx
  have hlk : k < wr.length := (List.getElem?_eq_some_iff.mp hk2).1
  have e1 : (wr ++ wc)[k]? = some q := by rw [List.getElem?_append_left hlk]; exact hk2
  have e2 : (wr ++ wc)[wr.length + j]? = some x := by rw [List.getElem?_append_right (by omega)]; rw [show wr.length + j - wr.length = j by omega]; exact hj
  have := hDa.1 k (wr.length + j) q x e1 e2 hxe.symm
  omega
theorem my_same {A0 : Nat → Prop} {D : va_G} {cl : List vw_C} {ws wc : va_W} {H H1 : Heap} (hP : va_P D cl ws H) (hD : va_D A0 ws) (isC : List Nat) (hC : isC.map (fun i => ws[i]?) = wc.map some)
    (hk : ∀ q : Nat, q < H.size → ¬ wIn wc q → H1[q]? = H[q]?) (hP1 : va_P D cl wc H1) : va_P D cl ws H1 := by
  intro k q hkq
  by_cases hq : wIn wc q.1
  · obtain ⟨x, hx, hxe⟩ := List.mem_map.mp hq
    obtain ⟨j, hj⟩ := List.getElem?_of_mem hx
    have h1 : (isC.map (fun i => ws[i]?))[j]? = some (some x) := by rw [hC, List.getElem?_map, hj]; rfl
    rw [List.getElem?_map] at h1
    cases hi : isC[j]? with
    | none => rw [hi] at h1; cases h1
    | some i =>
      rw [hi] at h1
      have hix : ws[i]? = some x := Option.some.inj h1
      have := hD.1 i k x q hix hkq hxe
      subst this
      have : x = q := Option.some.inj (hix.symm.trans hkq)
      rw [← this]
      exact hP1 j x hj
  · exact (hP k q hkq).kept (hk q.1 (hP k q hkq).lt hq)
section CC
variable {p : Program} {l : Launch} {e : Env} {R : Room} {s : State} {m : MethodId} {args : Array Value} {below : List Frame} {meth : Method} {c : Code} {H : Heap} {locs : List Loc} {cells slots : Nat} {Q : State → Prop}
variable {pc : Nat} {ls : Array Slot} {rest st0 : List Value}
theorem W_i {x y : Int32} (h : x = y) (k : W p l e R s m args below meth c H locs cells slots Q (F0 m pc ls (.int y :: rest))) : W p l e R s m args below meth c H locs cells slots Q (F0 m pc ls (.int x :: rest)) := h ▸ k
theorem W_l {x y : Int64} (h : x = y) (k : W p l e R s m args below meth c H locs cells slots Q (F0 m pc ls (.long y :: rest))) : W p l e R s m args below meth c H locs cells slots Q (F0 m pc ls (.long x :: rest)) := h ▸ k
variable {y : MethodName} {cc cb : ByteArray} {nL maxL index fr lo : Nat} {rt : FieldType} {own C : String} {D : va_G} {ty : List (ClassId × FieldType)} {A0 : Nat → Prop} {b : Addr} {As : List Value} {ws wc wr : va_W} {k0 ci N : Nat} {fs : List Value} {T : u_T}
theorem cP_pre {av : List Value} (hK : va_K D vwCl ty s) (hZ : zOK s) (hP : va_P D vwCl ws H) (hD : va_D A0 ws) (hS : va_S A0 s.heap H locs) (isC : List Nat) (hC : isC.map (fun i => ws[i]?) = wc.map some) (hn : va_nd isC = true) :
    ∀ U : State, U.heap = H → s.WarmedH U.vm → cP D ty av wc av.toArray U := fun U hU hW =>
  ⟨rfl, by rw [hU]; exact va_P_at hP isC hC, va_K.moved hW.alike hK, (hD.sub isC hn hC).weaken (fun _ _ _ _ => trivial), zOK.warm hW hZ⟩
theorem va_nd_sub {l1 l2 : List Nat} (h : va_nd (l1 ++ l2) = true) : va_nd l2 = true := by
  induction l1 with
  | nil => exact h
  | cons a t ih =>
    simp only [List.cons_append, va_nd, Bool.and_eq_true] at h
    exact ih h.2
theorem call_Vi {post : Int32 → va_W → Prop} (S : CallFix p m c cc nL s args bw own) (hM : Mi l y (Cond.code y cb maxL (some rt) :: bw) fr lo D ty (.ref b :: As) wc post) (hg : GoodIn bw (wsV own index C y (Cond.code y cb maxL (some rt) :: bw)))
    (hd : y.cls = C ∧ y.cls ≠ "java/lang/invoke/MethodHandle" ∧ y.cls ≠ "java/lang/invoke/VarHandle" ∧ (parseMethodDescriptor y.desc).map (fun d => d.parameters.length) = some As.length) (hR : fr + 1 ≤ R.frames ∧ 8 + (maxL + 11) + lo ≤ R.locals) (hroom : cells ≤ R.cells ∧ slots ≤ R.slots)
    (hP : va_P D vwCl ws H) (hD : va_D A0 ws) (hK : va_K D vwCl ty s) (hS : va_S A0 s.heap H locs) (hZ : zOK s)
    (isC isR : List Nat) (hC : isC.map (fun i => ws[i]?) = wc.map some) (hRr : isR.map (fun i => ws[i]?) = wr.map some) (hn : va_nd (isR ++ isC) = true)
    (k0 : Nat) (hrec : wc[k0]? = some (b, .inr (ci, fs))) (hc : vwCl[ci]? = some (C, T, N)) (hls : ls.size = nL) (hst : st0 = As.reverse ++ .ref b :: rest) (hrest : (rest.map fun v => v.category).sum ≤ 8) (hdg : decode cc pc = .ok (.invokevirtual index, 3))
    (kk : ∀ (r : Int32) (w1 : va_W) (H1 : Heap) (locs1 : List Loc), post r w1 → va_P D vwCl (wr ++ w1) H1 → va_D A0 (wr ++ w1) → va_S A0 s.heap H1 locs1 → W p l e R s m args below meth c H1 locs1 cells slots Q (F0 m (pc + 3) ls (.int r :: rest))) :
    W p l e R s m args below meth c H locs cells slots Q (F0 m pc ls st0) := by
  refine va_calli (va_runV (As := As) (rest := rest) S hM (cwV As.length S.2.2.2.2 hg rfl rfl rfl hd hR) ⟨cP_blind, va_recv hK (va_P_at hP isC hC) (ci := ci) (q0 := k0) hc hrec, cP_pre hK hZ hP hD hS isC hC (va_nd_sub hn)⟩ rfl rfl hls hst (lv_room hrest) hdg hroom) hS (fun q _ h => wIn_A hD isC hC q h) (wIn_A hD isC hC) (fun r u t H1 locs1 ht hvm hw hB hz1 hk1 hS1 => ?_)
  obtain ⟨hP1, he⟩ := hB
  rw [ht] at hP1
  obtain ⟨hP2, hD2⟩ := my_join hP hD isC isR hC hRr hn hk1 hP1 he
  exact kk r u H1 locs1 hw hP2 hD2 hS1
theorem call_Vv {post : va_W → Prop} (S : CallFix p m c cc nL s args bw own) (hM : Mv l y (Cond.code y cb maxL none :: bw) fr lo D ty (.ref b :: As) wc post) (hg : GoodIn bw (wsV own index C y (Cond.code y cb maxL none :: bw)))
    (hd : y.cls = C ∧ y.cls ≠ "java/lang/invoke/MethodHandle" ∧ y.cls ≠ "java/lang/invoke/VarHandle" ∧ (parseMethodDescriptor y.desc).map (fun d => d.parameters.length) = some As.length) (hR : fr + 1 ≤ R.frames ∧ 8 + (maxL + 11) + lo ≤ R.locals) (hroom : cells ≤ R.cells ∧ slots ≤ R.slots)
    (hP : va_P D vwCl ws H) (hD : va_D A0 ws) (hK : va_K D vwCl ty s) (hS : va_S A0 s.heap H locs) (hZ : zOK s)
    (isC isR : List Nat) (hC : isC.map (fun i => ws[i]?) = wc.map some) (hRr : isR.map (fun i => ws[i]?) = wr.map some) (hn : va_nd (isR ++ isC) = true)
    (k0 : Nat) (hrec : wc[k0]? = some (b, .inr (ci, fs))) (hc : vwCl[ci]? = some (C, T, N)) (hls : ls.size = nL) (hst : st0 = As.reverse ++ .ref b :: rest) (hrest : (rest.map fun v => v.category).sum ≤ 8) (hdg : decode cc pc = .ok (.invokevirtual index, 3))
    (kk : ∀ (w1 : va_W) (H1 : Heap) (locs1 : List Loc), post w1 → va_P D vwCl (wr ++ w1) H1 → va_D A0 (wr ++ w1) → va_S A0 s.heap H1 locs1 → W p l e R s m args below meth c H1 locs1 cells slots Q (F0 m (pc + 3) ls rest)) :
    W p l e R s m args below meth c H locs cells slots Q (F0 m pc ls st0) := by
  refine va_callv (va_runV (As := As) (rest := rest) S hM (cwV As.length S.2.2.2.2 hg rfl rfl rfl hd hR) ⟨cP_blind, va_recv hK (va_P_at hP isC hC) (ci := ci) (q0 := k0) hc hrec, cP_pre hK hZ hP hD hS isC hC (va_nd_sub hn)⟩ rfl rfl hls hst (lv_room hrest) hdg hroom) hS (fun q _ h => wIn_A hD isC hC q h) (wIn_A hD isC hC) (fun u t H1 locs1 ht hvm hw hB hz1 hk1 hS1 => ?_)
  obtain ⟨hP1, he⟩ := hB
  rw [ht] at hP1
  obtain ⟨hP2, hD2⟩ := my_join hP hD isC isR hC hRr hn hk1 hP1 he
  exact kk u H1 locs1 hw hP2 hD2 hS1
theorem call_Vl {post : Int64 → va_W → Prop} (S : CallFix p m c cc nL s args bw own) (hM : Ml l y (Cond.code y cb maxL (some rt) :: bw) fr lo D ty (.ref b :: As) wc post) (hg : GoodIn bw (wsV own index C y (Cond.code y cb maxL (some rt) :: bw)))
    (hd : y.cls = C ∧ y.cls ≠ "java/lang/invoke/MethodHandle" ∧ y.cls ≠ "java/lang/invoke/VarHandle" ∧ (parseMethodDescriptor y.desc).map (fun d => d.parameters.length) = some As.length) (hR : fr + 1 ≤ R.frames ∧ 8 + (maxL + 11) + lo ≤ R.locals) (hroom : cells ≤ R.cells ∧ slots ≤ R.slots)
    (hP : va_P D vwCl ws H) (hD : va_D A0 ws) (hK : va_K D vwCl ty s) (hS : va_S A0 s.heap H locs) (hZ : zOK s)
    (isC isR : List Nat) (hC : isC.map (fun i => ws[i]?) = wc.map some) (hRr : isR.map (fun i => ws[i]?) = wr.map some) (hn : va_nd (isR ++ isC) = true)
    (k0 : Nat) (hrec : wc[k0]? = some (b, .inr (ci, fs))) (hc : vwCl[ci]? = some (C, T, N)) (hls : ls.size = nL) (hst : st0 = As.reverse ++ .ref b :: rest) (hrest : (rest.map fun v => v.category).sum ≤ 8) (hdg : decode cc pc = .ok (.invokevirtual index, 3))
    (kk : ∀ (r : Int64) (w1 : va_W) (H1 : Heap) (locs1 : List Loc), post r w1 → va_P D vwCl (wr ++ w1) H1 → va_D A0 (wr ++ w1) → va_S A0 s.heap H1 locs1 → W p l e R s m args below meth c H1 locs1 cells slots Q (F0 m (pc + 3) ls (.long r :: rest))) :
    W p l e R s m args below meth c H locs cells slots Q (F0 m pc ls st0) := by
  refine va_calll (va_runV (As := As) (rest := rest) S hM (cwV As.length S.2.2.2.2 hg rfl rfl rfl hd hR) ⟨cP_blind, va_recv hK (va_P_at hP isC hC) (ci := ci) (q0 := k0) hc hrec, cP_pre hK hZ hP hD hS isC hC (va_nd_sub hn)⟩ rfl rfl hls hst (lv_room hrest) hdg hroom) hS (fun q _ h => wIn_A hD isC hC q h) (wIn_A hD isC hC) (fun r u t H1 locs1 ht hvm hw hB hz1 hk1 hS1 => ?_)
  obtain ⟨hP1, he⟩ := hB
  rw [ht] at hP1
  obtain ⟨hP2, hD2⟩ := my_join hP hD isC isR hC hRr hn hk1 hP1 he
  exact kk r u H1 locs1 hw hP2 hD2 hS1
theorem call_Vd {post : UInt64 → va_W → Prop} (S : CallFix p m c cc nL s args bw own) (hM : Md l y (Cond.code y cb maxL (some rt) :: bw) fr lo D ty (.ref b :: As) wc post) (hg : GoodIn bw (wsV own index C y (Cond.code y cb maxL (some rt) :: bw)))
    (hd : y.cls = C ∧ y.cls ≠ "java/lang/invoke/MethodHandle" ∧ y.cls ≠ "java/lang/invoke/VarHandle" ∧ (parseMethodDescriptor y.desc).map (fun d => d.parameters.length) = some As.length) (hR : fr + 1 ≤ R.frames ∧ 8 + (maxL + 11) + lo ≤ R.locals) (hroom : cells ≤ R.cells ∧ slots ≤ R.slots)
    (hP : va_P D vwCl ws H) (hD : va_D A0 ws) (hK : va_K D vwCl ty s) (hS : va_S A0 s.heap H locs) (hZ : zOK s)
    (isC isR : List Nat) (hC : isC.map (fun i => ws[i]?) = wc.map some) (hRr : isR.map (fun i => ws[i]?) = wr.map some) (hn : va_nd (isR ++ isC) = true)
    (k0 : Nat) (hrec : wc[k0]? = some (b, .inr (ci, fs))) (hc : vwCl[ci]? = some (C, T, N)) (hls : ls.size = nL) (hst : st0 = As.reverse ++ .ref b :: rest) (hrest : (rest.map fun v => v.category).sum ≤ 8) (hdg : decode cc pc = .ok (.invokevirtual index, 3))
    (kk : ∀ (r : UInt64) (w1 : va_W) (H1 : Heap) (locs1 : List Loc), post r w1 → va_P D vwCl (wr ++ w1) H1 → va_D A0 (wr ++ w1) → va_S A0 s.heap H1 locs1 → W p l e R s m args below meth c H1 locs1 cells slots Q (F0 m (pc + 3) ls (.double r :: rest))) :
    W p l e R s m args below meth c H locs cells slots Q (F0 m pc ls st0) := by
  refine va_calld (va_runV (As := As) (rest := rest) S hM (cwV As.length S.2.2.2.2 hg rfl rfl rfl hd hR) ⟨cP_blind, va_recv hK (va_P_at hP isC hC) (ci := ci) (q0 := k0) hc hrec, cP_pre hK hZ hP hD hS isC hC (va_nd_sub hn)⟩ rfl rfl hls hst (lv_room hrest) hdg hroom) hS (fun q _ h => wIn_A hD isC hC q h) (wIn_A hD isC hC) (fun r u t H1 locs1 ht hvm hw hB hz1 hk1 hS1 => ?_)
  obtain ⟨hP1, he⟩ := hB
  rw [ht] at hP1
  obtain ⟨hP2, hD2⟩ := my_join hP hD isC isR hC hRr hn hk1 hP1 he
  exact kk r u H1 locs1 hw hP2 hD2 hS1
theorem call_Si {post : Int32 → va_W → Prop} (S : CallFix p m c cc nL s args bw own) (hM : Mi l y (Cond.code y cb maxL (some rt) :: bw) fr lo D ty As wc post) (hg : GoodIn bw (va_wsS own index y (Cond.code y cb maxL (some rt) :: bw)))
    (hd : y.cls ≠ "java/lang/invoke/MethodHandle" ∧ y.cls ≠ "java/lang/invoke/VarHandle" ∧ (parseMethodDescriptor y.desc).map (fun d => d.parameters.length) = some As.length) (hR : fr + 1 ≤ R.frames ∧ 8 + (maxL + 11) + lo ≤ R.locals) (hroom : cells ≤ R.cells ∧ slots ≤ R.slots)
    (hP : va_P D vwCl ws H) (hD : va_D A0 ws) (hK : va_K D vwCl ty s) (hS : va_S A0 s.heap H locs) (hZ : zOK s)
    (isC isR : List Nat) (hC : isC.map (fun i => ws[i]?) = wc.map some) (hRr : isR.map (fun i => ws[i]?) = wr.map some) (hn : va_nd (isR ++ isC) = true)
    (hls : ls.size = nL) (hst : st0 = As.reverse ++ rest) (hrest : (rest.map fun v => v.category).sum ≤ 8) (hdg : decode cc pc = .ok (.invokestatic index, 3))
    (kk : ∀ (r : Int32) (w1 : va_W) (H1 : Heap) (locs1 : List Loc), post r w1 → va_P D vwCl (wr ++ w1) H1 → va_D A0 (wr ++ w1) → va_S A0 s.heap H1 locs1 → W p l e R s m args below meth c H1 locs1 cells slots Q (F0 m (pc + 3) ls (.int r :: rest))) :
    W p l e R s m args below meth c H locs cells slots Q (F0 m pc ls st0) := by
  refine va_calli (va_runS (As := As) (rest := rest) S hM (va_cwS As.length S.2.2.2.2 hg rfl rfl rfl hd hR) ⟨cP_blind, cP_pre hK hZ hP hD hS isC hC (va_nd_sub hn)⟩ rfl rfl hls hst (lv_room hrest) hdg hroom) hS (fun q _ h => wIn_A hD isC hC q h) (wIn_A hD isC hC) (fun r u t H1 locs1 ht hvm hw hB hz1 hk1 hS1 => ?_)
  obtain ⟨hP1, he⟩ := hB
  rw [ht] at hP1
  obtain ⟨hP2, hD2⟩ := my_join hP hD isC isR hC hRr hn hk1 hP1 he
  exact kk r u H1 locs1 hw hP2 hD2 hS1
theorem call_Sl {post : Int64 → va_W → Prop} (S : CallFix p m c cc nL s args bw own) (hM : Ml l y (Cond.code y cb maxL (some rt) :: bw) fr lo D ty As wc post) (hg : GoodIn bw (va_wsS own index y (Cond.code y cb maxL (some rt) :: bw)))
    (hd : y.cls ≠ "java/lang/invoke/MethodHandle" ∧ y.cls ≠ "java/lang/invoke/VarHandle" ∧ (parseMethodDescriptor y.desc).map (fun d => d.parameters.length) = some As.length) (hR : fr + 1 ≤ R.frames ∧ 8 + (maxL + 11) + lo ≤ R.locals) (hroom : cells ≤ R.cells ∧ slots ≤ R.slots)
    (hP : va_P D vwCl ws H) (hD : va_D A0 ws) (hK : va_K D vwCl ty s) (hS : va_S A0 s.heap H locs) (hZ : zOK s)
    (isC isR : List Nat) (hC : isC.map (fun i => ws[i]?) = wc.map some) (hRr : isR.map (fun i => ws[i]?) = wr.map some) (hn : va_nd (isR ++ isC) = true)
    (hls : ls.size = nL) (hst : st0 = As.reverse ++ rest) (hrest : (rest.map fun v => v.category).sum ≤ 8) (hdg : decode cc pc = .ok (.invokestatic index, 3))
    (kk : ∀ (r : Int64) (w1 : va_W) (H1 : Heap) (locs1 : List Loc), post r w1 → va_P D vwCl (wr ++ w1) H1 → va_D A0 (wr ++ w1) → va_S A0 s.heap H1 locs1 → W p l e R s m args below meth c H1 locs1 cells slots Q (F0 m (pc + 3) ls (.long r :: rest))) :
    W p l e R s m args below meth c H locs cells slots Q (F0 m pc ls st0) := by
  refine va_calll (va_runS (As := As) (rest := rest) S hM (va_cwS As.length S.2.2.2.2 hg rfl rfl rfl hd hR) ⟨cP_blind, cP_pre hK hZ hP hD hS isC hC (va_nd_sub hn)⟩ rfl rfl hls hst (lv_room hrest) hdg hroom) hS (fun q _ h => wIn_A hD isC hC q h) (wIn_A hD isC hC) (fun r u t H1 locs1 ht hvm hw hB hz1 hk1 hS1 => ?_)
  obtain ⟨hP1, he⟩ := hB
  rw [ht] at hP1
  obtain ⟨hP2, hD2⟩ := my_join hP hD isC isR hC hRr hn hk1 hP1 he
  exact kk r u H1 locs1 hw hP2 hD2 hS1
theorem call_Sv {post : va_W → Prop} (S : CallFix p m c cc nL s args bw own) (hM : Mv l y (Cond.code y cb maxL none :: bw) fr lo D ty As wc post) (hg : GoodIn bw (va_wsS own index y (Cond.code y cb maxL none :: bw)))
    (hd : y.cls ≠ "java/lang/invoke/MethodHandle" ∧ y.cls ≠ "java/lang/invoke/VarHandle" ∧ (parseMethodDescriptor y.desc).map (fun d => d.parameters.length) = some As.length) (hR : fr + 1 ≤ R.frames ∧ 8 + (maxL + 11) + lo ≤ R.locals) (hroom : cells ≤ R.cells ∧ slots ≤ R.slots)
    (hP : va_P D vwCl ws H) (hD : va_D A0 ws) (hK : va_K D vwCl ty s) (hS : va_S A0 s.heap H locs) (hZ : zOK s)
    (isC isR : List Nat) (hC : isC.map (fun i => ws[i]?) = wc.map some) (hRr : isR.map (fun i => ws[i]?) = wr.map some) (hn : va_nd (isR ++ isC) = true)
    (hls : ls.size = nL) (hst : st0 = As.reverse ++ rest) (hrest : (rest.map fun v => v.category).sum ≤ 8) (hdg : decode cc pc = .ok (.invokestatic index, 3))
    (kk : ∀ (w1 : va_W) (H1 : Heap) (locs1 : List Loc), post w1 → va_P D vwCl (wr ++ w1) H1 → va_D A0 (wr ++ w1) → va_S A0 s.heap H1 locs1 → W p l e R s m args below meth c H1 locs1 cells slots Q (F0 m (pc + 3) ls rest)) :
    W p l e R s m args below meth c H locs cells slots Q (F0 m pc ls st0) := by
  refine va_callv (va_runS (As := As) (rest := rest) S hM (va_cwS As.length S.2.2.2.2 hg rfl rfl rfl hd hR) ⟨cP_blind, cP_pre hK hZ hP hD hS isC hC (va_nd_sub hn)⟩ rfl rfl hls hst (lv_room hrest) hdg hroom) hS (fun q _ h => wIn_A hD isC hC q h) (wIn_A hD isC hC) (fun u t H1 locs1 ht hvm hw hB hz1 hk1 hS1 => ?_)
  obtain ⟨hP1, he⟩ := hB
  rw [ht] at hP1
  obtain ⟨hP2, hD2⟩ := my_join hP hD isC isR hC hRr hn hk1 hP1 he
  exact kk u H1 locs1 hw hP2 hD2 hS1
theorem call_Vp {post : Int32 → Prop} (S : CallFix p m c cc nL s args bw own) (hM : Mp l y (Cond.code y cb maxL (some rt) :: bw) fr lo D ty (.ref b :: As) wc post) (hg : GoodIn bw (wsV own index C y (Cond.code y cb maxL (some rt) :: bw)))
    (hd : y.cls = C ∧ y.cls ≠ "java/lang/invoke/MethodHandle" ∧ y.cls ≠ "java/lang/invoke/VarHandle" ∧ (parseMethodDescriptor y.desc).map (fun d => d.parameters.length) = some As.length) (hR : fr + 1 ≤ R.frames ∧ 8 + (maxL + 11) + lo ≤ R.locals) (hroom : cells ≤ R.cells ∧ slots ≤ R.slots)
    (hP : va_P D vwCl ws H) (hD : va_D A0 ws) (hK : va_K D vwCl ty s) (hS : va_S A0 s.heap H locs) (hZ : zOK s)
    (isC : List Nat) (hC : isC.map (fun i => ws[i]?) = wc.map some) (hn : va_nd isC = true)
    (k0 : Nat) (hrec : wc[k0]? = some (b, .inr (ci, fs))) (hc : vwCl[ci]? = some (C, T, N)) (hls : ls.size = nL) (hst : st0 = As.reverse ++ .ref b :: rest) (hrest : (rest.map fun v => v.category).sum ≤ 8) (hdg : decode cc pc = .ok (.invokevirtual index, 3))
    (kk : ∀ (r : Int32) (H1 : Heap) (locs1 : List Loc), post r → va_P D vwCl ws H1 → va_S A0 s.heap H1 locs1 → W p l e R s m args below meth c H1 locs1 cells slots Q (F0 m (pc + 3) ls (.int r :: rest))) :
    W p l e R s m args below meth c H locs cells slots Q (F0 m pc ls st0) := by
  refine va_calli (va_runV (As := As) (rest := rest) S hM (cwV As.length S.2.2.2.2 hg rfl rfl rfl hd hR) ⟨cP_blind, va_recv hK (va_P_at hP isC hC) (ci := ci) (q0 := k0) hc hrec, cP_pre hK hZ hP hD hS isC hC hn⟩ rfl rfl hls hst (lv_room hrest) hdg hroom) hS (fun q _ h => wIn_A hD isC hC q h) (wIn_A hD isC hC) (fun r u t H1 locs1 ht hvm hw hB hz1 hk1 hS1 => ?_)
  obtain ⟨hP1, he⟩ := hB
  obtain ⟨rfl, hw⟩ := hw
  rw [ht] at hP1
  exact kk r H1 locs1 hw (my_same hP hD isC hC hk1 hP1) hS1
theorem call_Sp {post : Int32 → Prop} (S : CallFix p m c cc nL s args bw own) (hM : Mp l y (Cond.code y cb maxL (some rt) :: bw) fr lo D ty As wc post) (hg : GoodIn bw (va_wsS own index y (Cond.code y cb maxL (some rt) :: bw)))
    (hd : y.cls ≠ "java/lang/invoke/MethodHandle" ∧ y.cls ≠ "java/lang/invoke/VarHandle" ∧ (parseMethodDescriptor y.desc).map (fun d => d.parameters.length) = some As.length) (hR : fr + 1 ≤ R.frames ∧ 8 + (maxL + 11) + lo ≤ R.locals) (hroom : cells ≤ R.cells ∧ slots ≤ R.slots)
    (hP : va_P D vwCl ws H) (hD : va_D A0 ws) (hK : va_K D vwCl ty s) (hS : va_S A0 s.heap H locs) (hZ : zOK s)
    (isC : List Nat) (hC : isC.map (fun i => ws[i]?) = wc.map some) (hn : va_nd isC = true)
    (hls : ls.size = nL) (hst : st0 = As.reverse ++ rest) (hrest : (rest.map fun v => v.category).sum ≤ 8) (hdg : decode cc pc = .ok (.invokestatic index, 3))
    (kk : ∀ (r : Int32) (H1 : Heap) (locs1 : List Loc), post r → va_P D vwCl ws H1 → va_S A0 s.heap H1 locs1 → W p l e R s m args below meth c H1 locs1 cells slots Q (F0 m (pc + 3) ls (.int r :: rest))) :
    W p l e R s m args below meth c H locs cells slots Q (F0 m pc ls st0) := by
  refine va_calli (va_runS (As := As) (rest := rest) S hM (va_cwS As.length S.2.2.2.2 hg rfl rfl rfl hd hR) ⟨cP_blind, cP_pre hK hZ hP hD hS isC hC hn⟩ rfl rfl hls hst (lv_room hrest) hdg hroom) hS (fun q _ h => wIn_A hD isC hC q h) (wIn_A hD isC hC) (fun r u t H1 locs1 ht hvm hw hB hz1 hk1 hS1 => ?_)
  obtain ⟨hP1, he⟩ := hB
  obtain ⟨rfl, hw⟩ := hw
  rw [ht] at hP1
  exact kk r H1 locs1 hw (my_same hP hD isC hC hk1 hP1) hS1
end CC
section CO
variable {l : Launch} {y : MethodName} {cc : ByteArray} {n fr lo : Nat} {rt : FieldType} {D : va_G} {ty : List (ClassId × FieldType)} {av : List Value} {w : va_W}
theorem va_D_self {A : Nat → Prop} {w : va_W} (h : va_D A w) : va_D (wIn w) w := h.weaken (fun _ _ hk _ => wIn_of hk)
theorem Mi_of {post : Int32 → va_W → Prop} (hy : plainName y.cls = true) (hn : (lg_sl av).length ≤ n)
    (body : ∀ (p : Program) (e : Env) (s : State) (m : MethodId) (args : Array Value) (below : List Frame) (meth : Method) (c : Code) (Q : State → Prop) (ls : Array Slot), CallFix p m c cc n s args bw y.cls → va_P D vwCl w s.heap → va_K D vwCl ty s → va_D (wIn w) w → zOK s → lv_has ls n (lv_args 0 av) →
      (∀ (v : Int32) (u : va_W) (H : Heap) (locs : List Loc) (ls' : Array Slot) (pc : Nat), decode cc pc = .ok (.ireturn, 1) → narrow rt (.int v) = .int v → post v u → (u.map (·.1)).Perm (w.map (·.1)) → va_P D vwCl u H → va_S (wIn w) s.heap H locs → W p l e (rmB fr lo) s m args below meth c H locs 0 0 Q (F0 m pc ls' [.int v])) →
      W p l e (rmB fr lo) s m args below meth c s.heap [] 0 0 Q (F0 m 0 ls [])) : Mi l y (Cond.code y cc n (some rt) :: bw) fr lo D ty av w post := by
  refine Met.ofW (cc := cc) (maxL := n) (ret := some rt) hy rfl ?_
  intro p e s m args below meth c s₁ B hml hv
  obtain ⟨rfl, hP, hK, hD0, hZ⟩ := hv
  have hts := atoms_spec (ws := Cond.code y cc n (some rt) :: bw) B.pre
  rw [lg_entry_eq]
  refine body p e s m _ below meth c _ _ ⟨B.exec, B.bytes, hml, findClass_of_methodNamed B.named, fun w h => hts w (List.mem_cons_of_mem _ h)⟩ hP hK (va_D_self hD0) hZ (lv_entry av (n := n) hn) ?_
  intro v u H locs ls' pc hdg hnr hpost hu hPu hS
  exact W.zret (v := v) B.exec B.bytes B.returns hnr (fun t ht hW => ⟨⟨v, u, rfl, hpost, by rw [ht]; exact hPu, hu⟩, hS.F ht⟩) hS.2.2 hdg B.notSynchronized
theorem Ml_of {post : Int64 → va_W → Prop} (hy : plainName y.cls = true) (hn : (lg_sl av).length ≤ n)
    (body : ∀ (p : Program) (e : Env) (s : State) (m : MethodId) (args : Array Value) (below : List Frame) (meth : Method) (c : Code) (Q : State → Prop) (ls : Array Slot), CallFix p m c cc n s args bw y.cls → va_P D vwCl w s.heap → va_K D vwCl ty s → va_D (wIn w) w → zOK s → lv_has ls n (lv_args 0 av) →
      (∀ (v : Int64) (u : va_W) (H : Heap) (locs : List Loc) (ls' : Array Slot) (pc : Nat), decode cc pc = .ok (.lreturn, 1) → post v u → (u.map (·.1)).Perm (w.map (·.1)) → va_P D vwCl u H → va_S (wIn w) s.heap H locs → W p l e (rmB fr lo) s m args below meth c H locs 0 0 Q (F0 m pc ls' [.long v])) →
      W p l e (rmB fr lo) s m args below meth c s.heap [] 0 0 Q (F0 m 0 ls [])) : Ml l y (Cond.code y cc n (some .long) :: bw) fr lo D ty av w post := by
  refine Met.ofW (cc := cc) (maxL := n) (ret := some .long) hy rfl ?_
  intro p e s m args below meth c s₁ B hml hv
  obtain ⟨rfl, hP, hK, hD0, hZ⟩ := hv
  have hts := atoms_spec (ws := Cond.code y cc n (some .long) :: bw) B.pre
  rw [lg_entry_eq]
  refine body p e s m _ below meth c _ _ ⟨B.exec, B.bytes, hml, findClass_of_methodNamed B.named, fun w h => hts w (List.mem_cons_of_mem _ h)⟩ hP hK (va_D_self hD0) hZ (lv_entry av (n := n) hn) ?_
  intro v u H locs ls' pc hdg hpost hu hPu hS
  exact W.lret (v := v) B.exec B.bytes B.returns (fun t ht hW => ⟨⟨v, u, rfl, hpost, by rw [ht]; exact hPu, hu⟩, hS.F ht⟩) hS.2.2 hdg B.notSynchronized
theorem Md_of {post : UInt64 → va_W → Prop} (hy : plainName y.cls = true) (hn : (lg_sl av).length ≤ n)
    (body : ∀ (p : Program) (e : Env) (s : State) (m : MethodId) (args : Array Value) (below : List Frame) (meth : Method) (c : Code) (Q : State → Prop) (ls : Array Slot), CallFix p m c cc n s args bw y.cls → va_P D vwCl w s.heap → va_K D vwCl ty s → va_D (wIn w) w → zOK s → lv_has ls n (lv_args 0 av) →
      (∀ (v : UInt64) (u : va_W) (H : Heap) (locs : List Loc) (ls' : Array Slot) (pc : Nat), decode cc pc = .ok (.dreturn, 1) → post v u → (u.map (·.1)).Perm (w.map (·.1)) → va_P D vwCl u H → va_S (wIn w) s.heap H locs → W p l e (rmB fr lo) s m args below meth c H locs 0 0 Q (F0 m pc ls' [.double v])) →
      W p l e (rmB fr lo) s m args below meth c s.heap [] 0 0 Q (F0 m 0 ls [])) : Md l y (Cond.code y cc n (some .double) :: bw) fr lo D ty av w post := by
  refine Met.ofW (cc := cc) (maxL := n) (ret := some .double) hy rfl ?_
  intro p e s m args below meth c s₁ B hml hv
  obtain ⟨rfl, hP, hK, hD0, hZ⟩ := hv
  have hts := atoms_spec (ws := Cond.code y cc n (some .double) :: bw) B.pre
  rw [lg_entry_eq]
  refine body p e s m _ below meth c _ _ ⟨B.exec, B.bytes, hml, findClass_of_methodNamed B.named, fun w h => hts w (List.mem_cons_of_mem _ h)⟩ hP hK (va_D_self hD0) hZ (lv_entry av (n := n) hn) ?_
  intro v u H locs ls' pc hdg hpost hu hPu hS
  exact W.dret (v := v) B.exec B.bytes B.returns (fun t ht hW => ⟨⟨v, u, rfl, hpost, by rw [ht]; exact hPu, hu⟩, hS.F ht⟩) hS.2.2 hdg B.notSynchronized
theorem Mv_of {post : va_W → Prop} (hy : plainName y.cls = true) (hn : (lg_sl av).length ≤ n)
    (body : ∀ (p : Program) (e : Env) (s : State) (m : MethodId) (args : Array Value) (below : List Frame) (meth : Method) (c : Code) (Q : State → Prop) (ls : Array Slot), CallFix p m c cc n s args bw y.cls → va_P D vwCl w s.heap → va_K D vwCl ty s → va_D (wIn w) w → zOK s → lv_has ls n (lv_args 0 av) →
      (∀ (u : va_W) (H : Heap) (locs : List Loc) (ls' : Array Slot) (pc : Nat), decode cc pc = .ok (.return_, 1) → post u → (u.map (·.1)).Perm (w.map (·.1)) → va_P D vwCl u H → va_S (wIn w) s.heap H locs → W p l e (rmB fr lo) s m args below meth c H locs 0 0 Q (F0 m pc ls' [])) →
      W p l e (rmB fr lo) s m args below meth c s.heap [] 0 0 Q (F0 m 0 ls [])) : Mv l y (Cond.code y cc n none :: bw) fr lo D ty av w post := by
  refine Met.ofW (cc := cc) (maxL := n) (ret := none) hy rfl ?_
  intro p e s m args below meth c s₁ B hml hv
  obtain ⟨rfl, hP, hK, hD0, hZ⟩ := hv
  have hts := atoms_spec (ws := Cond.code y cc n none :: bw) B.pre
  rw [lg_entry_eq]
  refine body p e s m _ below meth c _ _ ⟨B.exec, B.bytes, hml, findClass_of_methodNamed B.named, fun w h => hts w (List.mem_cons_of_mem _ h)⟩ hP hK (va_D_self hD0) hZ (lv_entry av (n := n) hn) ?_
  intro u H locs ls' pc hdg hpost hu hPu hS
  exact W.vret B.exec B.bytes B.returns (fun t ht hW => ⟨⟨u, rfl, hpost, by rw [ht]; exact hPu, hu⟩, hS.F ht⟩) hS.2.2 hdg B.notSynchronized
end CO
end
section
/-! rows of the walk in whole numbers (nI) and truth values (bI) -/
abbrev tyL (cI cZ cS cW : ClassId) : List (ClassId × FieldType) := [(cI, .int), (cZ, .boolean), (cS, .array .boolean), (cW, .array .int)]
def bI (b : Bool) : Int32 := if b then 1 else 0
def upN {α : Type} (f : Nat → α) (k : Nat) (v : α) : Nat → α := fun j => if j = k then v else f j
theorem upN_s {α : Type} (f : Nat → α) (k : Nat) (v : α) : upN f k v k = v := by simp [upN]
theorem upN_n {α : Type} (f : Nat → α) {k j : Nat} (v : α) (h : j ≠ k) : upN f k v j = f j := by simp [upN, h]
theorem nI_and (a b : Nat) : nI a &&& nI b = nI (a &&& b) := by
  apply Int32.toBitVec_inj.1
  show BitVec.ofNat 32 a &&& BitVec.ofNat 32 b = BitVec.ofNat 32 (a &&& b)
  apply BitVec.eq_of_getLsbD_eq
  intro i hi
  simp [hi]
theorem nI_or (a b : Nat) : nI a ||| nI b = nI (a ||| b) := by
  apply Int32.toBitVec_inj.1
  show BitVec.ofNat 32 a ||| BitVec.ofNat 32 b = BitVec.ofNat 32 (a ||| b)
  apply BitVec.eq_of_getLsbD_eq
  intro i hi
  simp [hi]
theorem nI_xor (a b : Nat) : nI a ^^^ nI b = nI (a ^^^ b) := by
  apply Int32.toBitVec_inj.1
  show BitVec.ofNat 32 a ^^^ BitVec.ofNat 32 b = BitVec.ofNat 32 (a ^^^ b)
  apply BitVec.eq_of_getLsbD_eq
  intro i hi
  simp [hi]
theorem nI_cnt : ∀ k, k < 32 → ((nI k &&& 31).toBitVec.smod 32).toNat = k := by decide +kernel
theorem nI_shl (a : Nat) {k : Nat} (hk : k < 32) : nI a <<< (nI k &&& 31) = nI (a * 2 ^ k) := by
  apply Int32.toBitVec_inj.mp
  apply BitVec.eq_of_toNat_eq
  rw [pk_shl _ _ k (nI_cnt k hk)]
  show (a % 2 ^ 32) * 2 ^ k % 2 ^ 32 = (a * 2 ^ k) % 2 ^ 32
  rw [Nat.mod_mul_mod]
theorem nI_shr {a k : Nat} (ha : a < 2 ^ 31) (hk : k < 32) : nI a >>> (nI k &&& 31) = nI (a / 2 ^ k) := pk_shrN ha _ k (nI_cnt k hk)
theorem bI_n (b : Bool) : bI b = nI (if b then 1 else 0) := by cases b <;> rfl
theorem bI_nar (b : Bool) : narrow .boolean (.int (bI b)) = .int (bI b) := by cases b <;> rfl
theorem nI_nar1 : narrow .boolean (.int (nI 1)) = .int (nI 1) := rfl
theorem nI_nar0 : narrow .boolean (.int (nI 0)) = .int (nI 0) := rfl
theorem bI_inj {a b : Bool} : bI a = bI b ↔ a = b := by cases a <;> cases b <;> decide
theorem bI_0 {b : Bool} : bI b = 0 ↔ b = false := by cases b <;> decide
theorem upd_nI {f : Nat → Nat} {j v : Nat} (hj : j < 2 ^ 31) : upd (fun k => nI (f k)) (nI j).toNatClampNeg (nI v) = fun k => nI (upN f j v k) := by
  rw [nI_clamp hj]
  funext k
  by_cases h : k = j <;> simp [upd, upN, h]
theorem upd_bI {f : Nat → Bool} {j : Nat} {v : Bool} (hj : j < 2 ^ 31) : upd (fun k => bI (f k)) (nI j).toNatClampNeg (bI v) = fun k => bI (upN f j v k) := by
  rw [nI_clamp hj]
  funext k
  by_cases h : k = j <;> simp [upd, upN, h]
theorem nI_le0 {x : Nat} (h : x < 2 ^ 31) : nI x ≤ 0 ↔ x = 0 := by
  rw [← nI_0, nI_leI h (by omega)]; omega
theorem nI_gt0 {x : Nat} (h : x < 2 ^ 31) : 0 < nI x ↔ 0 < x := by
  rw [← nI_0, nI_ltI (by omega) h]
theorem nI_eq0 {x : Nat} (h : x < 2 ^ 31) : nI x = 0 ↔ x = 0 := by
  rw [← nI_0, nI_eq h (by omega)]
theorem nI_lt0 {x : Nat} (h : x < 2 ^ 31) : nI x < 0 ↔ False := ⟨fun h2 => nI_pos h h2, False.elim⟩
section RW
variable {p : Program} {l : Launch} {e : Env} {R : Room} {s : State} {m : MethodId} {args : Array Value} {below : List Frame} {meth : Method} {c : Code} {H : Heap} {locs : List Loc} {cells slots : Nat} {Q : State → Prop}
variable {pc : Nat} {ls : Array Slot} {rest : List Value} {cc : ByteArray} {D : va_G} {cl : List vw_C} {A : Nat → Prop} {a : Nat} {tys : List (ClassId × FieldType)} {ws : va_W} {H0 : Heap}
theorem ia_ld (hexec : p.tables.exec = Jvm.exec) (hb : c.code = cc) (hK : va_K D cl tys s) (hP : va_P D cl ws H) (q0 t0 : Nat) {cA : ClassId} {n : Nat} {f : Nat → Nat} (ha : ws[q0]? = some (a, .inl (cA, n, .inl (fun k => nI (f k))))) (ht : tys[t0]? = some (cA, .int)) {j : Nat} (hj : j < n) (hn : n < 2 ^ 31) (hdg : decode cc pc = .ok (.iaload, 1))
    (kk : W p l e R s m args below meth c H locs cells slots Q (F0 m (pc + 1) ls (.int (nI (f j)) :: rest))) : W p l e R s m args below meth c H locs cells slots Q (F0 m pc ls (.int (nI j) :: .ref a :: rest)) := by
  refine va_iald hexec hb hK hP q0 t0 ha ht (vp_in_nI hj hn) hdg ?_
  rw [nI_clamp (by omega)]
  exact kk
theorem za_ld (hexec : p.tables.exec = Jvm.exec) (hb : c.code = cc) (hK : va_K D cl tys s) (hP : va_P D cl ws H) (q0 t0 : Nat) {cA : ClassId} {n : Nat} {f : Nat → Bool} (ha : ws[q0]? = some (a, .inl (cA, n, .inl (fun k => bI (f k))))) (ht : tys[t0]? = some (cA, .boolean)) {j : Nat} (hj : j < n) (hn : n < 2 ^ 31) (hdg : decode cc pc = .ok (.baload, 1))
    (kk : W p l e R s m args below meth c H locs cells slots Q (F0 m (pc + 1) ls (.int (bI (f j)) :: rest))) : W p l e R s m args below meth c H locs cells slots Q (F0 m pc ls (.int (nI j) :: .ref a :: rest)) := by
  refine va_zald hexec hb hK hP q0 t0 ha ht (vp_in_nI hj hn) hdg ?_
  rw [nI_clamp (by omega)]
  exact kk
theorem ia_st (hexec : p.tables.exec = Jvm.exec) (hb : c.code = cc) (hK : va_K D cl tys s) (hP : va_P D cl ws H) (hD : va_D A ws) (hS : va_S A H0 H locs) (q0 t0 : Nat) {cA : ClassId} {n : Nat} {f : Nat → Nat} (ha : ws[q0]? = some (a, .inl (cA, n, .inl (fun k => nI (f k))))) (ht : tys[t0]? = some (cA, .int)) {j v : Nat} (hj : j < n) (hn : n < 2 ^ 31) (hdg : decode cc pc = .ok (.iastore, 1))
    (kk : ∀ (H1 : Heap) (locs1 : List Loc), va_P D cl (ws.set q0 (a, .inl (cA, n, .inl (fun k => nI (upN f j v k))))) H1 → va_D A (ws.set q0 (a, .inl (cA, n, .inl (fun k => nI (upN f j v k))))) → va_S A H0 H1 locs1 → W p l e R s m args below meth c H1 locs1 cells slots Q (F0 m (pc + 1) ls rest)) : W p l e R s m args below meth c H locs cells slots Q (F0 m pc ls (.int (nI v) :: .int (nI j) :: .ref a :: rest)) := by
  refine va_iast hexec hb hK hP hD hS q0 t0 ha ht (vp_in_nI hj hn) hdg ?_
  rw [upd_nI (by omega)]
  exact kk
theorem za_st (hexec : p.tables.exec = Jvm.exec) (hb : c.code = cc) (hK : va_K D cl tys s) (hP : va_P D cl ws H) (hD : va_D A ws) (hS : va_S A H0 H locs) (q0 t0 : Nat) {cA : ClassId} {n : Nat} {f : Nat → Bool} (ha : ws[q0]? = some (a, .inl (cA, n, .inl (fun k => bI (f k))))) (ht : tys[t0]? = some (cA, .boolean)) {j : Nat} {v : Bool} (hj : j < n) (hn : n < 2 ^ 31) (hdg : decode cc pc = .ok (.bastore, 1))
    (kk : ∀ (H1 : Heap) (locs1 : List Loc), va_P D cl (ws.set q0 (a, .inl (cA, n, .inl (fun k => bI (upN f j v k))))) H1 → va_D A (ws.set q0 (a, .inl (cA, n, .inl (fun k => bI (upN f j v k))))) → va_S A H0 H1 locs1 → W p l e R s m args below meth c H1 locs1 cells slots Q (F0 m (pc + 1) ls rest)) : W p l e R s m args below meth c H locs cells slots Q (F0 m pc ls (.int (bI v) :: .int (nI j) :: .ref a :: rest)) := by
  refine va_zast hexec hb hK hP hD hS q0 t0 ha ht (vp_in_nI hj hn) hdg ?_
  rw [show vp_nar .boolean (bI v) = bI v by cases v <;> rfl, upd_bI (by omega)]
  exact kk
theorem icN_lt (hexec : p.tables.exec = Jvm.exec) (hb : c.code = cc) {u v : Nat} {off : Int} {tgt : Nat} (hdg : decode cc pc = .ok (.if_icmp .lt off, 3)) (ht : (pc : Int) + off = (tgt : Int)) (hu : u < 2 ^ 31) (hv : v < 2 ^ 31)
    (kt : u < v → W p l e R s m args below meth c H locs cells slots Q (F0 m tgt ls rest)) (kf : v ≤ u → W p l e R s m args below meth c H locs cells slots Q (F0 m (pc + 3) ls rest)) : W p l e R s m args below meth c H locs cells slots Q (F0 m pc ls (.int (nI v) :: .int (nI u) :: rest)) :=
  lv_icmp_lt hexec hb hdg ht (fun h => kt ((nI_ltI hu hv).mp h)) (fun h => kf (Nat.not_lt.mp (fun q => h ((nI_ltI hu hv).mpr q))))
theorem icN_ge (hexec : p.tables.exec = Jvm.exec) (hb : c.code = cc) {u v : Nat} {off : Int} {tgt : Nat} (hdg : decode cc pc = .ok (.if_icmp .ge off, 3)) (ht : (pc : Int) + off = (tgt : Int)) (hu : u < 2 ^ 31) (hv : v < 2 ^ 31)
    (kt : v ≤ u → W p l e R s m args below meth c H locs cells slots Q (F0 m tgt ls rest)) (kf : u < v → W p l e R s m args below meth c H locs cells slots Q (F0 m (pc + 3) ls rest)) : W p l e R s m args below meth c H locs cells slots Q (F0 m pc ls (.int (nI v) :: .int (nI u) :: rest)) :=
  lv_icmp_ge hexec hb hdg ht (fun h => kt ((nI_leI hv hu).mp h)) (fun h => kf (Nat.not_le.mp (fun q => h ((nI_leI hv hu).mpr q))))
theorem icN_gt (hexec : p.tables.exec = Jvm.exec) (hb : c.code = cc) {u v : Nat} {off : Int} {tgt : Nat} (hdg : decode cc pc = .ok (.if_icmp .gt off, 3)) (ht : (pc : Int) + off = (tgt : Int)) (hu : u < 2 ^ 31) (hv : v < 2 ^ 31)
    (kt : v < u → W p l e R s m args below meth c H locs cells slots Q (F0 m tgt ls rest)) (kf : u ≤ v → W p l e R s m args below meth c H locs cells slots Q (F0 m (pc + 3) ls rest)) : W p l e R s m args below meth c H locs cells slots Q (F0 m pc ls (.int (nI v) :: .int (nI u) :: rest)) :=
  lv_icmp_gt hexec hb hdg ht (fun h => kt ((nI_ltI hv hu).mp h)) (fun h => kf (Nat.not_lt.mp (fun q => h ((nI_ltI hv hu).mpr q))))
theorem icN_le (hexec : p.tables.exec = Jvm.exec) (hb : c.code = cc) {u v : Nat} {off : Int} {tgt : Nat} (hdg : decode cc pc = .ok (.if_icmp .le off, 3)) (ht : (pc : Int) + off = (tgt : Int)) (hu : u < 2 ^ 31) (hv : v < 2 ^ 31)
    (kt : u ≤ v → W p l e R s m args below meth c H locs cells slots Q (F0 m tgt ls rest)) (kf : v < u → W p l e R s m args below meth c H locs cells slots Q (F0 m (pc + 3) ls rest)) : W p l e R s m args below meth c H locs cells slots Q (F0 m pc ls (.int (nI v) :: .int (nI u) :: rest)) :=
  lv_icmp_le hexec hb hdg ht (fun h => kt ((nI_leI hu hv).mp h)) (fun h => kf (Nat.not_le.mp (fun q => h ((nI_leI hu hv).mpr q))))
theorem icN_eq (hexec : p.tables.exec = Jvm.exec) (hb : c.code = cc) {u v : Nat} {off : Int} {tgt : Nat} (hdg : decode cc pc = .ok (.if_icmp .eq off, 3)) (ht : (pc : Int) + off = (tgt : Int)) (hu : u < 2 ^ 31) (hv : v < 2 ^ 31)
    (kt : u = v → W p l e R s m args below meth c H locs cells slots Q (F0 m tgt ls rest)) (kf : u ≠ v → W p l e R s m args below meth c H locs cells slots Q (F0 m (pc + 3) ls rest)) : W p l e R s m args below meth c H locs cells slots Q (F0 m pc ls (.int (nI v) :: .int (nI u) :: rest)) :=
  lv_icmp_eq hexec hb hdg ht (fun h => kt ((nI_eq hu hv).mp h)) (fun h => kf (fun q => h ((nI_eq hu hv).mpr q)))
theorem icN_ne (hexec : p.tables.exec = Jvm.exec) (hb : c.code = cc) {u v : Nat} {off : Int} {tgt : Nat} (hdg : decode cc pc = .ok (.if_icmp .ne off, 3)) (ht : (pc : Int) + off = (tgt : Int)) (hu : u < 2 ^ 31) (hv : v < 2 ^ 31)
    (kt : u ≠ v → W p l e R s m args below meth c H locs cells slots Q (F0 m tgt ls rest)) (kf : u = v → W p l e R s m args below meth c H locs cells slots Q (F0 m (pc + 3) ls rest)) : W p l e R s m args below meth c H locs cells slots Q (F0 m pc ls (.int (nI v) :: .int (nI u) :: rest)) :=
  lv_icmp_ne hexec hb hdg ht (fun h => kt (fun q => h ((nI_eq hu hv).mpr q))) (fun h => kf ((nI_eq hu hv).mp h))
theorem ifN_eq (hexec : p.tables.exec = Jvm.exec) (hb : c.code = cc) {u : Nat} {off : Int} {tgt : Nat} (hdg : decode cc pc = .ok (.ifCond .eq off, 3)) (ht : (pc : Int) + off = (tgt : Int)) (hu : u < 2 ^ 31)
    (kt : u = 0 → W p l e R s m args below meth c H locs cells slots Q (F0 m tgt ls rest)) (kf : u ≠ 0 → W p l e R s m args below meth c H locs cells slots Q (F0 m (pc + 3) ls rest)) : W p l e R s m args below meth c H locs cells slots Q (F0 m pc ls (.int (nI u) :: rest)) :=
  lv_if_eq hexec hb hdg ht (fun h => kt ((nI_eq0 hu).mp h)) (fun h => kf (fun q => h ((nI_eq0 hu).mpr q)))
theorem ifN_ne (hexec : p.tables.exec = Jvm.exec) (hb : c.code = cc) {u : Nat} {off : Int} {tgt : Nat} (hdg : decode cc pc = .ok (.ifCond .ne off, 3)) (ht : (pc : Int) + off = (tgt : Int)) (hu : u < 2 ^ 31)
    (kt : u ≠ 0 → W p l e R s m args below meth c H locs cells slots Q (F0 m tgt ls rest)) (kf : u = 0 → W p l e R s m args below meth c H locs cells slots Q (F0 m (pc + 3) ls rest)) : W p l e R s m args below meth c H locs cells slots Q (F0 m pc ls (.int (nI u) :: rest)) :=
  lv_if_ne hexec hb hdg ht (fun h => kt (fun q => h ((nI_eq0 hu).mpr q))) (fun h => kf ((nI_eq0 hu).mp h))
theorem ifN_lt (hexec : p.tables.exec = Jvm.exec) (hb : c.code = cc) {u : Nat} {off : Int} {tgt : Nat} (hdg : decode cc pc = .ok (.ifCond .lt off, 3)) (ht : (pc : Int) + off = (tgt : Int)) (hu : u < 2 ^ 31)
    (kt : False → W p l e R s m args below meth c H locs cells slots Q (F0 m tgt ls rest)) (kf : True → W p l e R s m args below meth c H locs cells slots Q (F0 m (pc + 3) ls rest)) : W p l e R s m args below meth c H locs cells slots Q (F0 m pc ls (.int (nI u) :: rest)) :=
  lv_if_lt hexec hb hdg ht (fun h => kt ((nI_lt0 hu).mp h)) (fun h => kf trivial)
theorem ifN_ge (hexec : p.tables.exec = Jvm.exec) (hb : c.code = cc) {u : Nat} {off : Int} {tgt : Nat} (hdg : decode cc pc = .ok (.ifCond .ge off, 3)) (ht : (pc : Int) + off = (tgt : Int)) (hu : u < 2 ^ 31)
    (kt : True → W p l e R s m args below meth c H locs cells slots Q (F0 m tgt ls rest)) (kf : False → W p l e R s m args below meth c H locs cells slots Q (F0 m (pc + 3) ls rest)) : W p l e R s m args below meth c H locs cells slots Q (F0 m pc ls (.int (nI u) :: rest)) :=
  lv_if_ge hexec hb hdg ht (fun h => kt trivial) (fun h => kf (h (nI_pos' hu)))
theorem ifN_le (hexec : p.tables.exec = Jvm.exec) (hb : c.code = cc) {u : Nat} {off : Int} {tgt : Nat} (hdg : decode cc pc = .ok (.ifCond .le off, 3)) (ht : (pc : Int) + off = (tgt : Int)) (hu : u < 2 ^ 31)
    (kt : u = 0 → W p l e R s m args below meth c H locs cells slots Q (F0 m tgt ls rest)) (kf : 0 < u → W p l e R s m args below meth c H locs cells slots Q (F0 m (pc + 3) ls rest)) : W p l e R s m args below meth c H locs cells slots Q (F0 m pc ls (.int (nI u) :: rest)) :=
  lv_if_le hexec hb hdg ht (fun h => kt ((nI_le0 hu).mp h)) (fun h => kf (Nat.pos_of_ne_zero (fun q => h ((nI_le0 hu).mpr q))))
theorem ifN_gt (hexec : p.tables.exec = Jvm.exec) (hb : c.code = cc) {u : Nat} {off : Int} {tgt : Nat} (hdg : decode cc pc = .ok (.ifCond .gt off, 3)) (ht : (pc : Int) + off = (tgt : Int)) (hu : u < 2 ^ 31)
    (kt : 0 < u → W p l e R s m args below meth c H locs cells slots Q (F0 m tgt ls rest)) (kf : u = 0 → W p l e R s m args below meth c H locs cells slots Q (F0 m (pc + 3) ls rest)) : W p l e R s m args below meth c H locs cells slots Q (F0 m pc ls (.int (nI u) :: rest)) :=
  lv_if_gt hexec hb hdg ht (fun h => kt ((nI_gt0 hu).mp h)) (fun h => kf (Nat.le_zero.mp (Nat.not_lt.mp (fun q => h ((nI_gt0 hu).mpr q)))))
theorem ifB_eq (hexec : p.tables.exec = Jvm.exec) (hb : c.code = cc) {v : Bool} {off : Int} {tgt : Nat} (hdg : decode cc pc = .ok (.ifCond .eq off, 3)) (ht : (pc : Int) + off = (tgt : Int))
    (kt : v = false → W p l e R s m args below meth c H locs cells slots Q (F0 m tgt ls rest)) (kf : v = true → W p l e R s m args below meth c H locs cells slots Q (F0 m (pc + 3) ls rest)) : W p l e R s m args below meth c H locs cells slots Q (F0 m pc ls (.int (bI v) :: rest)) :=
  lv_if_eq hexec hb hdg ht (fun h => kt (bI_0.mp h)) (fun h => kf (by cases hv : v with | true => rfl | false => exact absurd (bI_0.mpr hv) h))
theorem ifB_ne (hexec : p.tables.exec = Jvm.exec) (hb : c.code = cc) {v : Bool} {off : Int} {tgt : Nat} (hdg : decode cc pc = .ok (.ifCond .ne off, 3)) (ht : (pc : Int) + off = (tgt : Int))
    (kt : v = true → W p l e R s m args below meth c H locs cells slots Q (F0 m tgt ls rest)) (kf : v = false → W p l e R s m args below meth c H locs cells slots Q (F0 m (pc + 3) ls rest)) : W p l e R s m args below meth c H locs cells slots Q (F0 m pc ls (.int (bI v) :: rest)) :=
  lv_if_ne hexec hb hdg ht (fun h => kt (by cases hv : v with | true => rfl | false => exact absurd (bI_0.mpr hv) h)) (fun h => kf (bI_0.mp h))
theorem icB_eq (hexec : p.tables.exec = Jvm.exec) (hb : c.code = cc) {u v : Bool} {off : Int} {tgt : Nat} (hdg : decode cc pc = .ok (.if_icmp .eq off, 3)) (ht : (pc : Int) + off = (tgt : Int))
    (kt : u = v → W p l e R s m args below meth c H locs cells slots Q (F0 m tgt ls rest)) (kf : u ≠ v → W p l e R s m args below meth c H locs cells slots Q (F0 m (pc + 3) ls rest)) : W p l e R s m args below meth c H locs cells slots Q (F0 m pc ls (.int (bI v) :: .int (bI u) :: rest)) :=
  lv_icmp_eq hexec hb hdg ht (fun h => kt (bI_inj.mp h)) (fun h => kf (fun q => h (bI_inj.mpr q)))
theorem icB_ne (hexec : p.tables.exec = Jvm.exec) (hb : c.code = cc) {u v : Bool} {off : Int} {tgt : Nat} (hdg : decode cc pc = .ok (.if_icmp .ne off, 3)) (ht : (pc : Int) + off = (tgt : Int))
    (kt : u ≠ v → W p l e R s m args below meth c H locs cells slots Q (F0 m tgt ls rest)) (kf : u = v → W p l e R s m args below meth c H locs cells slots Q (F0 m (pc + 3) ls rest)) : W p l e R s m args below meth c H locs cells slots Q (F0 m pc ls (.int (bI v) :: .int (bI u) :: rest)) :=
  lv_icmp_ne hexec hb hdg ht (fun h => kt (fun q => h (bI_inj.mpr q))) (fun h => kf (bI_inj.mp h))
end RW
theorem hd_X0_add : yX0_add.cls = RX0 ∧ yX0_add.cls ≠ "java/lang/invoke/MethodHandle" ∧ yX0_add.cls ≠ "java/lang/invoke/VarHandle" ∧ (parseMethodDescriptor yX0_add.desc).map (fun d => d.parameters.length) = some 1 := by decide +kernel
theorem hd_X1_takeTurn : yX1_takeTurn.cls = RX1 ∧ yX1_takeTurn.cls ≠ "java/lang/invoke/MethodHandle" ∧ yX1_takeTurn.cls ≠ "java/lang/invoke/VarHandle" ∧ (parseMethodDescriptor yX1_takeTurn.desc).map (fun d => d.parameters.length) = some 0 := by decide +kernel
theorem hd_X1_requireSomePlayer : yX1_requireSomePlayer.cls = RX1 ∧ yX1_requireSomePlayer.cls ≠ "java/lang/invoke/MethodHandle" ∧ yX1_requireSomePlayer.cls ≠ "java/lang/invoke/VarHandle" ∧ (parseMethodDescriptor yX1_requireSomePlayer.desc).map (fun d => d.parameters.length) = some 0 := by decide +kernel
theorem hd_X1_passTurn : yX1_passTurn.cls = RX1 ∧ yX1_passTurn.cls ≠ "java/lang/invoke/MethodHandle" ∧ yX1_passTurn.cls ≠ "java/lang/invoke/VarHandle" ∧ (parseMethodDescriptor yX1_passTurn.desc).map (fun d => d.parameters.length) = some 2 := by decide +kernel
theorem hd_X1_isCertainBy : yX1_isCertainBy.cls = RX1 ∧ yX1_isCertainBy.cls ≠ "java/lang/invoke/MethodHandle" ∧ yX1_isCertainBy.cls ≠ "java/lang/invoke/VarHandle" ∧ (parseMethodDescriptor yX1_isCertainBy.desc).map (fun d => d.parameters.length) = some 2 := by decide +kernel
theorem hd_X1_possibleColours : yX1_possibleColours.cls = RX1 ∧ yX1_possibleColours.cls ≠ "java/lang/invoke/MethodHandle" ∧ yX1_possibleColours.cls ≠ "java/lang/invoke/VarHandle" ∧ (parseMethodDescriptor yX1_possibleColours.desc).map (fun d => d.parameters.length) = some 3 := by decide +kernel
theorem hd_X1_seenHatsOf : yX1_seenHatsOf.cls = RX1 ∧ yX1_seenHatsOf.cls ≠ "java/lang/invoke/MethodHandle" ∧ yX1_seenHatsOf.cls ≠ "java/lang/invoke/VarHandle" ∧ (parseMethodDescriptor yX1_seenHatsOf.desc).map (fun d => d.parameters.length) = some 1 := by decide +kernel
theorem hd_X0_count : yX0_count.cls = RX0 ∧ yX0_count.cls ≠ "java/lang/invoke/MethodHandle" ∧ yX0_count.cls ≠ "java/lang/invoke/VarHandle" ∧ (parseMethodDescriptor yX0_count.desc).map (fun d => d.parameters.length) = some 0 := by decide +kernel
theorem hd_X0_at : yX0_at.cls = RX0 ∧ yX0_at.cls ≠ "java/lang/invoke/MethodHandle" ∧ yX0_at.cls ≠ "java/lang/invoke/VarHandle" ∧ (parseMethodDescriptor yX0_at.desc).map (fun d => d.parameters.length) = some 1 := by decide +kernel
theorem hd_X1_agreesWithNow : yX1_agreesWithNow.cls = RX1 ∧ yX1_agreesWithNow.cls ≠ "java/lang/invoke/MethodHandle" ∧ yX1_agreesWithNow.cls ≠ "java/lang/invoke/VarHandle" ∧ (parseMethodDescriptor yX1_agreesWithNow.desc).map (fun d => d.parameters.length) = some 2 := by decide +kernel
theorem hd_X1_colourIn : yX1_colourIn.cls ≠ "java/lang/invoke/MethodHandle" ∧ yX1_colourIn.cls ≠ "java/lang/invoke/VarHandle" ∧ (parseMethodDescriptor yX1_colourIn.desc).map (fun d => d.parameters.length) = some 2 := by decide +kernel
theorem hd_X1_isOneColour : yX1_isOneColour.cls ≠ "java/lang/invoke/MethodHandle" ∧ yX1_isOneColour.cls ≠ "java/lang/invoke/VarHandle" ∧ (parseMethodDescriptor yX1_isOneColour.desc).map (fun d => d.parameters.length) = some 1 := by decide +kernel
theorem hd_J6_bitCount_0f7a4 : yJ6_bitCount_0f7a4.cls ≠ "java/lang/invoke/MethodHandle" ∧ yJ6_bitCount_0f7a4.cls ≠ "java/lang/invoke/VarHandle" ∧ (parseMethodDescriptor yJ6_bitCount_0f7a4.desc).map (fun d => d.parameters.length) = some 1 := by decide +kernel
theorem hd_X1_keepByCertainty : yX1_keepByCertainty.cls = RX1 ∧ yX1_keepByCertainty.cls ≠ "java/lang/invoke/MethodHandle" ∧ yX1_keepByCertainty.cls ≠ "java/lang/invoke/VarHandle" ∧ (parseMethodDescriptor yX1_keepByCertainty.desc).map (fun d => d.parameters.length) = some 3 := by decide +kernel
theorem hd_X1_noteOwnColours : yX1_noteOwnColours.cls = RX1 ∧ yX1_noteOwnColours.cls ≠ "java/lang/invoke/MethodHandle" ∧ yX1_noteOwnColours.cls ≠ "java/lang/invoke/VarHandle" ∧ (parseMethodDescriptor yX1_noteOwnColours.desc).map (fun d => d.parameters.length) = some 2 := by decide +kernel
theorem hd_X1_viewOf : yX1_viewOf.cls = RX1 ∧ yX1_viewOf.cls ≠ "java/lang/invoke/MethodHandle" ∧ yX1_viewOf.cls ≠ "java/lang/invoke/VarHandle" ∧ (parseMethodDescriptor yX1_viewOf.desc).map (fun d => d.parameters.length) = some 2 := by decide +kernel
theorem hd_X1_setOwnColours : yX1_setOwnColours.cls = RX1 ∧ yX1_setOwnColours.cls ≠ "java/lang/invoke/MethodHandle" ∧ yX1_setOwnColours.cls ≠ "java/lang/invoke/VarHandle" ∧ (parseMethodDescriptor yX1_setOwnColours.desc).map (fun d => d.parameters.length) = some 2 := by decide +kernel
theorem hd_X1_ownColours : yX1_ownColours.cls = RX1 ∧ yX1_ownColours.cls ≠ "java/lang/invoke/MethodHandle" ∧ yX1_ownColours.cls ≠ "java/lang/invoke/VarHandle" ∧ (parseMethodDescriptor yX1_ownColours.desc).map (fun d => d.parameters.length) = some 1 := by decide +kernel
theorem hd_X0_clear : yX0_clear.cls = RX0 ∧ yX0_clear.cls ≠ "java/lang/invoke/MethodHandle" ∧ yX0_clear.cls ≠ "java/lang/invoke/VarHandle" ∧ (parseMethodDescriptor yX0_clear.desc).map (fun d => d.parameters.length) = some 0 := by decide +kernel
theorem hd_X1_wouldBeCertain : yX1_wouldBeCertain.cls = RX1 ∧ yX1_wouldBeCertain.cls ≠ "java/lang/invoke/MethodHandle" ∧ yX1_wouldBeCertain.cls ≠ "java/lang/invoke/VarHandle" ∧ (parseMethodDescriptor yX1_wouldBeCertain.desc).map (fun d => d.parameters.length) = some 2 := by decide +kernel
theorem hd_X1_keepWithHat : yX1_keepWithHat.cls ≠ "java/lang/invoke/MethodHandle" ∧ yX1_keepWithHat.cls ≠ "java/lang/invoke/VarHandle" ∧ (parseMethodDescriptor yX1_keepWithHat.desc).map (fun d => d.parameters.length) = some 3 := by decide +kernel
theorem hd_X1_playerAfter : yX1_playerAfter.cls = RX1 ∧ yX1_playerAfter.cls ≠ "java/lang/invoke/MethodHandle" ∧ yX1_playerAfter.cls ≠ "java/lang/invoke/VarHandle" ∧ (parseMethodDescriptor yX1_playerAfter.desc).map (fun d => d.parameters.length) = some 1 := by decide +kernel
theorem hd_X1_players : yX1_players.cls = RX1 ∧ yX1_players.cls ≠ "java/lang/invoke/MethodHandle" ∧ yX1_players.cls ≠ "java/lang/invoke/VarHandle" ∧ (parseMethodDescriptor yX1_players.desc).map (fun d => d.parameters.length) = some 0 := by decide +kernel
theorem hd_X1_turnsTaken : yX1_turnsTaken.cls = RX1 ∧ yX1_turnsTaken.cls ≠ "java/lang/invoke/MethodHandle" ∧ yX1_turnsTaken.cls ≠ "java/lang/invoke/VarHandle" ∧ (parseMethodDescriptor yX1_turnsTaken.desc).map (fun d => d.parameters.length) = some 0 := by decide +kernel
theorem hd_X1_silentTurns : yX1_silentTurns.cls = RX1 ∧ yX1_silentTurns.cls ≠ "java/lang/invoke/MethodHandle" ∧ yX1_silentTurns.cls ≠ "java/lang/invoke/VarHandle" ∧ (parseMethodDescriptor yX1_silentTurns.desc).map (fun d => d.parameters.length) = some 0 := by decide +kernel
theorem hd_X1_playerInTurn : yX1_playerInTurn.cls = RX1 ∧ yX1_playerInTurn.cls ≠ "java/lang/invoke/MethodHandle" ∧ yX1_playerInTurn.cls ≠ "java/lang/invoke/VarHandle" ∧ (parseMethodDescriptor yX1_playerInTurn.desc).map (fun d => d.parameters.length) = some 0 := by decide +kernel
theorem hd_X1_hatOf : yX1_hatOf.cls = RX1 ∧ yX1_hatOf.cls ≠ "java/lang/invoke/MethodHandle" ∧ yX1_hatOf.cls ≠ "java/lang/invoke/VarHandle" ∧ (parseMethodDescriptor yX1_hatOf.desc).map (fun d => d.parameters.length) = some 1 := by decide +kernel
theorem hd_X1_requirePlayer : yX1_requirePlayer.cls = RX1 ∧ yX1_requirePlayer.cls ≠ "java/lang/invoke/MethodHandle" ∧ yX1_requirePlayer.cls ≠ "java/lang/invoke/VarHandle" ∧ (parseMethodDescriptor yX1_requirePlayer.desc).map (fun d => d.parameters.length) = some 1 := by decide +kernel
theorem hd_X1_sees : yX1_sees.cls = RX1 ∧ yX1_sees.cls ≠ "java/lang/invoke/MethodHandle" ∧ yX1_sees.cls ≠ "java/lang/invoke/VarHandle" ∧ (parseMethodDescriptor yX1_sees.desc).map (fun d => d.parameters.length) = some 2 := by decide +kernel
theorem hd_X1_seesHat : yX1_seesHat.cls = RX1 ∧ yX1_seesHat.cls ≠ "java/lang/invoke/MethodHandle" ∧ yX1_seesHat.cls ≠ "java/lang/invoke/VarHandle" ∧ (parseMethodDescriptor yX1_seesHat.desc).map (fun d => d.parameters.length) = some 2 := by decide +kernel
theorem hd_X1_hatMask : yX1_hatMask.cls ≠ "java/lang/invoke/MethodHandle" ∧ yX1_hatMask.cls ≠ "java/lang/invoke/VarHandle" ∧ (parseMethodDescriptor yX1_hatMask.desc).map (fun d => d.parameters.length) = some 1 := by decide +kernel
theorem hd_X1_shiftOf : yX1_shiftOf.cls ≠ "java/lang/invoke/MethodHandle" ∧ yX1_shiftOf.cls ≠ "java/lang/invoke/VarHandle" ∧ (parseMethodDescriptor yX1_shiftOf.desc).map (fun d => d.parameters.length) = some 1 := by decide +kernel
theorem hd_X1_hatsOf : yX1_hatsOf.cls = RX1 ∧ yX1_hatsOf.cls ≠ "java/lang/invoke/MethodHandle" ∧ yX1_hatsOf.cls ≠ "java/lang/invoke/VarHandle" ∧ (parseMethodDescriptor yX1_hatsOf.desc).map (fun d => d.parameters.length) = some 1 := by decide +kernel
theorem hd_X1_requireColour : yX1_requireColour.cls ≠ "java/lang/invoke/MethodHandle" ∧ yX1_requireColour.cls ≠ "java/lang/invoke/VarHandle" ∧ (parseMethodDescriptor yX1_requireColour.desc).map (fun d => d.parameters.length) = some 1 := by decide +kernel
theorem hd_X1_hatsIn : yX1_hatsIn.cls = RX1 ∧ yX1_hatsIn.cls ≠ "java/lang/invoke/MethodHandle" ∧ yX1_hatsIn.cls ≠ "java/lang/invoke/VarHandle" ∧ (parseMethodDescriptor yX1_hatsIn.desc).map (fun d => d.parameters.length) = some 2 := by decide +kernel
theorem hd_X1_openWays : yX1_openWays.cls = RX1 ∧ yX1_openWays.cls ≠ "java/lang/invoke/MethodHandle" ∧ yX1_openWays.cls ≠ "java/lang/invoke/VarHandle" ∧ (parseMethodDescriptor yX1_openWays.desc).map (fun d => d.parameters.length) = some 0 := by decide +kernel
theorem hd_X1_openWaysWith : yX1_openWaysWith.cls = RX1 ∧ yX1_openWaysWith.cls ≠ "java/lang/invoke/MethodHandle" ∧ yX1_openWaysWith.cls ≠ "java/lang/invoke/VarHandle" ∧ (parseMethodDescriptor yX1_openWaysWith.desc).map (fun d => d.parameters.length) = some 2 := by decide +kernel
theorem hd_X1_countWithHat : yX1_countWithHat.cls = RX1 ∧ yX1_countWithHat.cls ≠ "java/lang/invoke/MethodHandle" ∧ yX1_countWithHat.cls ≠ "java/lang/invoke/VarHandle" ∧ (parseMethodDescriptor yX1_countWithHat.desc).map (fun d => d.parameters.length) = some 2 := by decide +kernel
theorem hd_X1_isKnownToAll : yX1_isKnownToAll.cls = RX1 ∧ yX1_isKnownToAll.cls ≠ "java/lang/invoke/MethodHandle" ∧ yX1_isKnownToAll.cls ≠ "java/lang/invoke/VarHandle" ∧ (parseMethodDescriptor yX1_isKnownToAll.desc).map (fun d => d.parameters.length) = some 1 := by decide +kernel
theorem hd_X1_possibleWays : yX1_possibleWays.cls = RX1 ∧ yX1_possibleWays.cls ≠ "java/lang/invoke/MethodHandle" ∧ yX1_possibleWays.cls ≠ "java/lang/invoke/VarHandle" ∧ (parseMethodDescriptor yX1_possibleWays.desc).map (fun d => d.parameters.length) = some 1 := by decide +kernel
theorem hd_X1_countPossible : yX1_countPossible.cls = RX1 ∧ yX1_countPossible.cls ≠ "java/lang/invoke/MethodHandle" ∧ yX1_countPossible.cls ≠ "java/lang/invoke/VarHandle" ∧ (parseMethodDescriptor yX1_countPossible.desc).map (fun d => d.parameters.length) = some 1 := by decide +kernel
theorem hd_X1_holdsPossible : yX1_holdsPossible.cls = RX1 ∧ yX1_holdsPossible.cls ≠ "java/lang/invoke/MethodHandle" ∧ yX1_holdsPossible.cls ≠ "java/lang/invoke/VarHandle" ∧ (parseMethodDescriptor yX1_holdsPossible.desc).map (fun d => d.parameters.length) = some 3 := by decide +kernel
theorem hd_X1_isCertain : yX1_isCertain.cls = RX1 ∧ yX1_isCertain.cls ≠ "java/lang/invoke/MethodHandle" ∧ yX1_isCertain.cls ≠ "java/lang/invoke/VarHandle" ∧ (parseMethodDescriptor yX1_isCertain.desc).map (fun d => d.parameters.length) = some 1 := by decide +kernel
theorem hd_X1_knowsHatOf : yX1_knowsHatOf.cls = RX1 ∧ yX1_knowsHatOf.cls ≠ "java/lang/invoke/MethodHandle" ∧ yX1_knowsHatOf.cls ≠ "java/lang/invoke/VarHandle" ∧ (parseMethodDescriptor yX1_knowsHatOf.desc).map (fun d => d.parameters.length) = some 2 := by decide +kernel
theorem hd_X1_knowsCertain : yX1_knowsCertain.cls = RX1 ∧ yX1_knowsCertain.cls ≠ "java/lang/invoke/MethodHandle" ∧ yX1_knowsCertain.cls ≠ "java/lang/invoke/VarHandle" ∧ (parseMethodDescriptor yX1_knowsCertain.desc).map (fun d => d.parameters.length) = some 2 := by decide +kernel
theorem hd_X1_certainPlayers : yX1_certainPlayers.cls = RX1 ∧ yX1_certainPlayers.cls ≠ "java/lang/invoke/MethodHandle" ∧ yX1_certainPlayers.cls ≠ "java/lang/invoke/VarHandle" ∧ (parseMethodDescriptor yX1_certainPlayers.desc).map (fun d => d.parameters.length) = some 0 := by decide +kernel
theorem hd_X1_countCertain : yX1_countCertain.cls = RX1 ∧ yX1_countCertain.cls ≠ "java/lang/invoke/MethodHandle" ∧ yX1_countCertain.cls ≠ "java/lang/invoke/VarHandle" ∧ (parseMethodDescriptor yX1_countCertain.desc).map (fun d => d.parameters.length) = some 1 := by decide +kernel
theorem hd_X1_certainIfTold : yX1_certainIfTold.cls = RX1 ∧ yX1_certainIfTold.cls ≠ "java/lang/invoke/MethodHandle" ∧ yX1_certainIfTold.cls ≠ "java/lang/invoke/VarHandle" ∧ (parseMethodDescriptor yX1_certainIfTold.desc).map (fun d => d.parameters.length) = some 1 := by decide +kernel
theorem hd_X0_copyFrom : yX0_copyFrom.cls = RX0 ∧ yX0_copyFrom.cls ≠ "java/lang/invoke/MethodHandle" ∧ yX0_copyFrom.cls ≠ "java/lang/invoke/VarHandle" ∧ (parseMethodDescriptor yX0_copyFrom.desc).map (fun d => d.parameters.length) = some 1 := by decide +kernel
theorem hd_X2_turn : yX2_turn.cls = RX2 ∧ yX2_turn.cls ≠ "java/lang/invoke/MethodHandle" ∧ yX2_turn.cls ≠ "java/lang/invoke/VarHandle" ∧ (parseMethodDescriptor yX2_turn.desc).map (fun d => d.parameters.length) = some 0 := by decide +kernel
theorem hd_X2_isSure : yX2_isSure.cls = RX2 ∧ yX2_isSure.cls ≠ "java/lang/invoke/MethodHandle" ∧ yX2_isSure.cls ≠ "java/lang/invoke/VarHandle" ∧ (parseMethodDescriptor yX2_isSure.desc).map (fun d => d.parameters.length) = some 3 := by decide +kernel
theorem hd_X2_agree : yX2_agree.cls = RX2 ∧ yX2_agree.cls ≠ "java/lang/invoke/MethodHandle" ∧ yX2_agree.cls ≠ "java/lang/invoke/VarHandle" ∧ (parseMethodDescriptor yX2_agree.desc).map (fun d => d.parameters.length) = some 3 := by decide +kernel
theorem hd_X2_isSame : yX2_isSame.cls = RX2 ∧ yX2_isSame.cls ≠ "java/lang/invoke/MethodHandle" ∧ yX2_isSame.cls ≠ "java/lang/invoke/VarHandle" ∧ (parseMethodDescriptor yX2_isSame.desc).map (fun d => d.parameters.length) = some 1 := by decide +kernel
theorem hd_X2_many : yX2_many.cls = RX2 ∧ yX2_many.cls ≠ "java/lang/invoke/MethodHandle" ∧ yX2_many.cls ≠ "java/lang/invoke/VarHandle" ∧ (parseMethodDescriptor yX2_many.desc).map (fun d => d.parameters.length) = some 0 := by decide +kernel
theorem hd_X2_certain : yX2_certain.cls = RX2 ∧ yX2_certain.cls ≠ "java/lang/invoke/MethodHandle" ∧ yX2_certain.cls ≠ "java/lang/invoke/VarHandle" ∧ (parseMethodDescriptor yX2_certain.desc).map (fun d => d.parameters.length) = some 0 := by decide +kernel
theorem hd_X2_have : yX2_have.cls = RX2 ∧ yX2_have.cls ≠ "java/lang/invoke/MethodHandle" ∧ yX2_have.cls ≠ "java/lang/invoke/VarHandle" ∧ (parseMethodDescriptor yX2_have.desc).map (fun d => d.parameters.length) = some 2 := by decide +kernel
theorem hd_X1_meanPossible : yX1_meanPossible.cls = RX1 ∧ yX1_meanPossible.cls ≠ "java/lang/invoke/MethodHandle" ∧ yX1_meanPossible.cls ≠ "java/lang/invoke/VarHandle" ∧ (parseMethodDescriptor yX1_meanPossible.desc).map (fun d => d.parameters.length) = some 0 := by decide +kernel
theorem hd_L_cell : yL_cell.cls ≠ "java/lang/invoke/MethodHandle" ∧ yL_cell.cls ≠ "java/lang/invoke/VarHandle" ∧ (parseMethodDescriptor yL_cell.desc).map (fun d => d.parameters.length) = some 2 := by decide +kernel
theorem hd_L_act : yL_act.cls ≠ "java/lang/invoke/MethodHandle" ∧ yL_act.cls ≠ "java/lang/invoke/VarHandle" ∧ (parseMethodDescriptor yL_act.desc).map (fun d => d.parameters.length) = some 3 := by decide +kernel
theorem hd_L_below : yL_below.cls ≠ "java/lang/invoke/MethodHandle" ∧ yL_below.cls ≠ "java/lang/invoke/VarHandle" ∧ (parseMethodDescriptor yL_below.desc).map (fun d => d.parameters.length) = some 2 := by decide +kernel
theorem hd_X2_add : yX2_add.cls = RX2 ∧ yX2_add.cls ≠ "java/lang/invoke/MethodHandle" ∧ yX2_add.cls ≠ "java/lang/invoke/VarHandle" ∧ (parseMethodDescriptor yX2_add.desc).map (fun d => d.parameters.length) = some 1 := by decide +kernel
theorem hd_X2_all : yX2_all.cls = RX2 ∧ yX2_all.cls ≠ "java/lang/invoke/MethodHandle" ∧ yX2_all.cls ≠ "java/lang/invoke/VarHandle" ∧ (parseMethodDescriptor yX2_all.desc).map (fun d => d.parameters.length) = some 0 := by decide +kernel
theorem hd_X1_addPlayer : yX1_addPlayer.cls = RX1 ∧ yX1_addPlayer.cls ≠ "java/lang/invoke/MethodHandle" ∧ yX1_addPlayer.cls ≠ "java/lang/invoke/VarHandle" ∧ (parseMethodDescriptor yX1_addPlayer.desc).map (fun d => d.parameters.length) = some 1 := by decide +kernel
theorem hd_X1_lookAtEachOther : yX1_lookAtEachOther.cls = RX1 ∧ yX1_lookAtEachOther.cls ≠ "java/lang/invoke/MethodHandle" ∧ yX1_lookAtEachOther.cls ≠ "java/lang/invoke/VarHandle" ∧ (parseMethodDescriptor yX1_lookAtEachOther.desc).map (fun d => d.parameters.length) = some 1 := by decide +kernel
theorem hd_X1_setSeenHatsOf : yX1_setSeenHatsOf.cls = RX1 ∧ yX1_setSeenHatsOf.cls ≠ "java/lang/invoke/MethodHandle" ∧ yX1_setSeenHatsOf.cls ≠ "java/lang/invoke/VarHandle" ∧ (parseMethodDescriptor yX1_setSeenHatsOf.desc).map (fun d => d.parameters.length) = some 2 := by decide +kernel
theorem hd_X1_openColoursOf : yX1_openColoursOf.cls = RX1 ∧ yX1_openColoursOf.cls ≠ "java/lang/invoke/MethodHandle" ∧ yX1_openColoursOf.cls ≠ "java/lang/invoke/VarHandle" ∧ (parseMethodDescriptor yX1_openColoursOf.desc).map (fun d => d.parameters.length) = some 1 := by decide +kernel
theorem hd_J9_max_7cf53 : yJ9_max_7cf53.cls ≠ "java/lang/invoke/MethodHandle" ∧ yJ9_max_7cf53.cls ≠ "java/lang/invoke/VarHandle" ∧ (parseMethodDescriptor yJ9_max_7cf53.desc).map (fun d => d.parameters.length) = some 2 := by decide +kernel
theorem hd_X1_turnAway : yX1_turnAway.cls = RX1 ∧ yX1_turnAway.cls ≠ "java/lang/invoke/MethodHandle" ∧ yX1_turnAway.cls ≠ "java/lang/invoke/VarHandle" ∧ (parseMethodDescriptor yX1_turnAway.desc).map (fun d => d.parameters.length) = some 2 := by decide +kernel
theorem hd_X1_requireTwoPlayers : yX1_requireTwoPlayers.cls = RX1 ∧ yX1_requireTwoPlayers.cls ≠ "java/lang/invoke/MethodHandle" ∧ yX1_requireTwoPlayers.cls ≠ "java/lang/invoke/VarHandle" ∧ (parseMethodDescriptor yX1_requireTwoPlayers.desc).map (fun d => d.parameters.length) = some 2 := by decide +kernel
theorem hd_X2_borrow : yX2_borrow.cls = RX2 ∧ yX2_borrow.cls ≠ "java/lang/invoke/MethodHandle" ∧ yX2_borrow.cls ≠ "java/lang/invoke/VarHandle" ∧ (parseMethodDescriptor yX2_borrow.desc).map (fun d => d.parameters.length) = some 2 := by decide +kernel
theorem hd_X1_borrow : yX1_borrow.cls = RX1 ∧ yX1_borrow.cls ≠ "java/lang/invoke/MethodHandle" ∧ yX1_borrow.cls ≠ "java/lang/invoke/VarHandle" ∧ (parseMethodDescriptor yX1_borrow.desc).map (fun d => d.parameters.length) = some 2 := by decide +kernel
theorem hd_X1_exchanged : yX1_exchanged.cls ≠ "java/lang/invoke/MethodHandle" ∧ yX1_exchanged.cls ≠ "java/lang/invoke/VarHandle" ∧ (parseMethodDescriptor yX1_exchanged.desc).map (fun d => d.parameters.length) = some 3 := by decide +kernel
theorem hd_X0_put : yX0_put.cls = RX0 ∧ yX0_put.cls ≠ "java/lang/invoke/MethodHandle" ∧ yX0_put.cls ≠ "java/lang/invoke/VarHandle" ∧ (parseMethodDescriptor yX0_put.desc).map (fun d => d.parameters.length) = some 2 := by decide +kernel
theorem hd_X1_sayAtLeast : yX1_sayAtLeast.cls = RX1 ∧ yX1_sayAtLeast.cls ≠ "java/lang/invoke/MethodHandle" ∧ yX1_sayAtLeast.cls ≠ "java/lang/invoke/VarHandle" ∧ (parseMethodDescriptor yX1_sayAtLeast.desc).map (fun d => d.parameters.length) = some 2 := by decide +kernel
theorem hd_X1_requireMany : yX1_requireMany.cls ≠ "java/lang/invoke/MethodHandle" ∧ yX1_requireMany.cls ≠ "java/lang/invoke/VarHandle" ∧ (parseMethodDescriptor yX1_requireMany.desc).map (fun d => d.parameters.length) = some 1 := by decide +kernel
theorem hd_X1_sayBetween : yX1_sayBetween.cls = RX1 ∧ yX1_sayBetween.cls ≠ "java/lang/invoke/MethodHandle" ∧ yX1_sayBetween.cls ≠ "java/lang/invoke/VarHandle" ∧ (parseMethodDescriptor yX1_sayBetween.desc).map (fun d => d.parameters.length) = some 3 := by decide +kernel
theorem hd_X1_keepWithHats : yX1_keepWithHats.cls = RX1 ∧ yX1_keepWithHats.cls ≠ "java/lang/invoke/MethodHandle" ∧ yX1_keepWithHats.cls ≠ "java/lang/invoke/VarHandle" ∧ (parseMethodDescriptor yX1_keepWithHats.desc).map (fun d => d.parameters.length) = some 4 := by decide +kernel
theorem hd_X2_say : yX2_say.cls = RX2 ∧ yX2_say.cls ≠ "java/lang/invoke/MethodHandle" ∧ yX2_say.cls ≠ "java/lang/invoke/VarHandle" ∧ (parseMethodDescriptor yX2_say.desc).map (fun d => d.parameters.length) = some 3 := by decide +kernel
theorem hd_X1_sayAtMost : yX1_sayAtMost.cls = RX1 ∧ yX1_sayAtMost.cls ≠ "java/lang/invoke/MethodHandle" ∧ yX1_sayAtMost.cls ≠ "java/lang/invoke/VarHandle" ∧ (parseMethodDescriptor yX1_sayAtMost.desc).map (fun d => d.parameters.length) = some 2 := by decide +kernel
theorem hd_X1_begin : yX1_begin.cls = RX1 ∧ yX1_begin.cls ≠ "java/lang/invoke/MethodHandle" ∧ yX1_begin.cls ≠ "java/lang/invoke/VarHandle" ∧ (parseMethodDescriptor yX1_begin.desc).map (fun d => d.parameters.length) = some 0 := by decide +kernel
theorem hd_L_build : yL_build.cls ≠ "java/lang/invoke/MethodHandle" ∧ yL_build.cls ≠ "java/lang/invoke/VarHandle" ∧ (parseMethodDescriptor yL_build.desc).map (fun d => d.parameters.length) = some 2 := by decide +kernel
end
section
/-! what the game's methods answer, in whole numbers -/
def qd (x p : Nat) : Nat := x / 2 ^ (p * 2) &&& 3
def xch (x p q : Nat) : Nat := x ^^^ ((qd x p ^^^ qd x q) * 2 ^ (p * 2)) ^^^ ((qd x p ^^^ qd x q) * 2 ^ (q * 2))
def hatsN : Nat → Nat → Nat → Nat
  | 0, _, _ => 0
  | n + 1, x, c => hatsN n x c + if qd x n = c then 1 else 0
def one1 (b : Nat) : Bool := b == 1 || b == 2 || b == 4 || b == 8
abbrev waW (cI : ClassId) (h1 h5 c : Nat) (hf : Nat → Nat) : va_W := [(h1, .inr (0, [.ref h5, .int (nI c)])), (h5, .inl (cI, 243, .inl (fun k => nI (hf k))))]
abbrev wbW (cI : ClassId) (h1 h5 c : Nat) (hf : Nat → Nat) (h2 h6 c2 : Nat) (tf : Nat → Nat) : va_W := [(h1, .inr (0, [.ref h5, .int (nI c)])), (h5, .inl (cI, 243, .inl (fun k => nI (hf k)))), (h2, .inr (0, [.ref h6, .int (nI c2)])), (h6, .inl (cI, 243, .inl (fun k => nI (tf k))))]
abbrev gW (cI : ClassId) (h0 h1 h2 h3 h4 h5 h6 p1 p2 n wn t tc sc : Nat) (uw : Bool) (c1 c2 : Nat) (s ow hf tf : Nat → Nat) : va_W := [(h0, .inr (1, [.ref p1, .ref p2, .ref h3, .ref h4, .int (nI n), .int (nI wn), .int (nI t), .int (nI tc), .int (nI sc), .int (bI uw)])), (h1, .inr (0, [.ref h5, .int (nI c1)])), (h2, .inr (0, [.ref h6, .int (nI c2)])), (h3, .inl (cI, 5, .inl (fun k => nI (s k)))), (h4, .inl (cI, 1024, .inl (fun k => nI (ow k)))), (h5, .inl (cI, 243, .inl (fun k => nI (hf k)))), (h6, .inl (cI, 243, .inl (fun k => nI (tf k))))]
theorem qd_lt (x p : Nat) : qd x p < 4 := Nat.lt_of_le_of_lt Nat.and_le_right (by omega)
theorem hatsN_le : ∀ (n x c : Nat), hatsN n x c ≤ n
  | 0, _, _ => Nat.le_refl 0
  | n + 1, x, c => by
    have := hatsN_le n x c
    simp only [hatsN]
    split <;> omega
section
variable {l : Launch} {dC : Nat → ClassId} {dI : Nat → Nat → Nat} {cI cZ cS cW : ClassId}

set_option maxHeartbeats 4000000 in
set_option maxRecDepth 100000 in
theorem m_X0_count (h1 h5 c : Nat) (hf : Nat → Nat) : Mp l yX0_count ws_X0_count 0 0 (dC, dI) (tyL cI cZ cS cW) [.ref h1] (waW cI h1 h5 c hf) (fun r => r = nI c) := by
  refine Mi_of (by decide +kernel) (Nat.le_of_ble_eq_true rfl) ?_
  intro pr ev sx mi ag bl me cd Q ls S hP hK hD hZ hl ret
  obtain ⟨hx, hb, hml, hown, hts⟩ := id S
  have hown : sx.vm.findClass RX0 = some mi.cls := hown
  have hS : va_S (wIn (waW cI h1 h5 c hf)) sx.heap sx.heap [] := va_S.rf
  have hl : lv_has ls 1 [(0, .ref h1)] := hl
  refine lv_aload_n hx hb dX0_count_0 rfl (lv_at hl 0 rfl) ?_
  refine va_get (D := (dC, dI)) (ci := 0) (v := .int (nI c)) (C := RX0) (T := TX0) (N := 2) hx hb hts inX0 hown hK hP 0 rfl rfl 1 (by decide) (hts _ q_fl_X0_15) (fun _ h9 => h9) rfl dX0_count_1 ?_
  exact ret _ (waW cI h1 h5 c hf) _ _ _ _ dX0_count_4 rfl ⟨rfl, rfl⟩ (List.Perm.refl _) hP hS

set_option maxHeartbeats 4000000 in
set_option maxRecDepth 100000 in
theorem m_X0_at (h1 h5 c : Nat) (hf : Nat → Nat) (j : Nat) (hj : j < 243) : Mp l yX0_at ws_X0_at 0 0 (dC, dI) (tyL cI cZ cS cW) [.ref h1, .int (nI j)] (waW cI h1 h5 c hf) (fun r => r = nI (hf j)) := by
  refine Mi_of (by decide +kernel) (Nat.le_of_ble_eq_true rfl) ?_
  intro pr ev sx mi ag bl me cd Q ls S hP hK hD hZ hl ret
  obtain ⟨hx, hb, hml, hown, hts⟩ := id S
  have hown : sx.vm.findClass RX0 = some mi.cls := hown
  have hS : va_S (wIn (waW cI h1 h5 c hf)) sx.heap sx.heap [] := va_S.rf
  have hl : lv_has ls 2 [(0, .ref h1), (1, .int (nI j))] := hl
  refine lv_iload_n hx hb dX0_at_0 rfl (lv_at hl 1 rfl) ?_
  refine ifN_lt (tgt := 22) hx hb dX0_at_1 (by decide) (by omega) (fun c_1 => absurd c_1 id) (fun c_1 => ?_)
  refine lv_iload_n hx hb dX0_at_4 rfl (lv_at hl 1 rfl) ?_
  refine lv_aload_n hx hb dX0_at_5 rfl (lv_at hl 0 rfl) ?_
  refine va_get (D := (dC, dI)) (ci := 0) (v := .ref h5) (C := RX0) (T := TX0) (N := 2) hx hb hts inX0 hown hK hP 0 rfl rfl 0 (by decide) (hts _ q_fl_X0_9) (fun _ h9 => h9) rfl dX0_at_6 ?_
  refine va_alen (v := nI 243) hx hb hK hP 1 0 rfl rfl rfl dX0_at_9 ?_
  refine icN_ge (tgt := 22) hx hb dX0_at_10 (by decide) (by omega) (by omega) (fun c_10 => absurd c_10 (by omega)) (fun c_10 => ?_)
  refine lv_aload_n hx hb dX0_at_13 rfl (lv_at hl 0 rfl) ?_
  refine va_get (D := (dC, dI)) (ci := 0) (v := .ref h5) (C := RX0) (T := TX0) (N := 2) hx hb hts inX0 hown hK hP 0 rfl rfl 0 (by decide) (hts _ q_fl_X0_9) (fun _ h9 => h9) rfl dX0_at_14 ?_
  refine lv_iload_n hx hb dX0_at_17 rfl (lv_at hl 1 rfl) ?_
  refine ia_ld hx hb hK hP 1 0 rfl rfl (j := j) (by omega) (by decide) dX0_at_18 ?_
  refine lv_goto (tgt := 23) hx hb dX0_at_19 (by decide) ?_
  exact ret _ (waW cI h1 h5 c hf) _ _ _ _ dX0_at_23 rfl ⟨rfl, rfl⟩ (List.Perm.refl _) hP hS

set_option maxHeartbeats 4000000 in
set_option maxRecDepth 100000 in
theorem m_X0_add (h1 h5 c : Nat) (hf : Nat → Nat) (x : Nat) (hc : c < 243) : Mv l yX0_add ws_X0_add 0 0 (dC, dI) (tyL cI cZ cS cW) [.ref h1, .int (nI x)] (waW cI h1 h5 c hf) (fun u => u = waW cI h1 h5 (c + 1) (upN hf c x)) := by
  refine Mv_of (by decide +kernel) (Nat.le_of_ble_eq_true rfl) ?_
  intro pr ev sx mi ag bl me cd Q ls S hP hK hD hZ hl ret
  obtain ⟨hx, hb, hml, hown, hts⟩ := id S
  have hown : sx.vm.findClass RX0 = some mi.cls := hown
  have hS : va_S (wIn (waW cI h1 h5 c hf)) sx.heap sx.heap [] := va_S.rf
  have hl : lv_has ls 2 [(0, .ref h1), (1, .int (nI x))] := hl
  refine lv_aload_n hx hb dX0_add_0 rfl (lv_at hl 0 rfl) ?_
  refine va_get (D := (dC, dI)) (ci := 0) (v := .int (nI c)) (C := RX0) (T := TX0) (N := 2) hx hb hts inX0 hown hK hP 0 rfl rfl 1 (by decide) (hts _ q_fl_X0_15) (fun _ h9 => h9) rfl dX0_add_1 ?_
  refine ifN_lt (tgt := 39) hx hb dX0_add_4 (by decide) (by omega) (fun c_4 => absurd c_4 id) (fun c_4 => ?_)
  refine lv_aload_n hx hb dX0_add_7 rfl (lv_at hl 0 rfl) ?_
  refine va_get (D := (dC, dI)) (ci := 0) (v := .int (nI c)) (C := RX0) (T := TX0) (N := 2) hx hb hts inX0 hown hK hP 0 rfl rfl 1 (by decide) (hts _ q_fl_X0_15) (fun _ h9 => h9) rfl dX0_add_8 ?_
  refine lv_aload_n hx hb dX0_add_11 rfl (lv_at hl 0 rfl) ?_
  refine va_get (D := (dC, dI)) (ci := 0) (v := .ref h5) (C := RX0) (T := TX0) (N := 2) hx hb hts inX0 hown hK hP 0 rfl rfl 0 (by decide) (hts _ q_fl_X0_9) (fun _ h9 => h9) rfl dX0_add_12 ?_
  refine va_alen (v := nI 243) hx hb hK hP 1 0 rfl rfl rfl dX0_add_15 ?_
  refine icN_ge (tgt := 39) hx hb dX0_add_16 (by decide) (by omega) (by omega) (fun c_16 => absurd c_16 (by omega)) (fun c_16 => ?_)
  refine lv_aload_n hx hb dX0_add_19 rfl (lv_at hl 0 rfl) ?_
  refine va_get (D := (dC, dI)) (ci := 0) (v := .ref h5) (C := RX0) (T := TX0) (N := 2) hx hb hts inX0 hown hK hP 0 rfl rfl 0 (by decide) (hts _ q_fl_X0_9) (fun _ h9 => h9) rfl dX0_add_20 ?_
  refine lv_aload_n hx hb dX0_add_23 rfl (lv_at hl 0 rfl) ?_
  refine va_get (D := (dC, dI)) (ci := 0) (v := .int (nI c)) (C := RX0) (T := TX0) (N := 2) hx hb hts inX0 hown hK hP 0 rfl rfl 1 (by decide) (hts _ q_fl_X0_15) (fun _ h9 => h9) rfl dX0_add_24 ?_
  refine lv_iload_n hx hb dX0_add_27 rfl (lv_at hl 1 rfl) ?_
  refine ia_st hx hb hK hP hD hS 1 0 rfl rfl (j := c) (v := x) (by omega) (by decide) dX0_add_28 (fun H locs hP hD hS => ?_)
  have hP : va_P (dC, dI) vwCl (waW cI h1 h5 c (upN hf c x)) H := hP
  have hD : va_D (wIn (waW cI h1 h5 c hf)) (waW cI h1 h5 c (upN hf c x)) := hD
  refine lv_aload_n hx hb dX0_add_29 rfl (lv_at hl 0 rfl) ?_
  refine lv_dup hx hb dX0_add_30 rfl ?_
  refine va_get (D := (dC, dI)) (ci := 0) (v := .int (nI c)) (C := RX0) (T := TX0) (N := 2) hx hb hts inX0 hown hK hP 0 rfl rfl 1 (by decide) (hts _ q_fl_X0_15) (fun _ h9 => h9) rfl dX0_add_31 ?_
  refine lv_iconst (v := nI 1) hx hb dX0_add_34 (by decide) ?_
  refine lv_iadd hx hb dX0_add_35 ?_
  refine W_i (y := nI (c + 1)) (nI_add _ _) ?_
  refine va_put (D := (dC, dI)) (ci := 0) (v := .int (nI (c + 1))) (ty := .int) (C := RX0) (T := TX0) (N := 2) hx hb hts inX0 tyX0 tyX0_ok nmX0 hown hK hP hD hS 0 rfl rfl 1 (by decide) (hts _ q_fl_X0_15) (fun _ h9 => h9) rfl (by decide +kernel) rfl rfl (Nat.le_of_ble_eq_true rfl) dX0_add_36 (fun H locs hP hD hS => ?_)
  have hP : va_P (dC, dI) vwCl (waW cI h1 h5 (c + 1) (upN hf c x)) H := hP
  have hD : va_D (wIn (waW cI h1 h5 c hf)) (waW cI h1 h5 (c + 1) (upN hf c x)) := hD
  exact ret (waW cI h1 h5 (c + 1) (upN hf c x)) _ _ _ _ dX0_add_39 rfl (List.Perm.refl _) hP hS

set_option maxHeartbeats 4000000 in
set_option maxRecDepth 100000 in
theorem m_X0_clear (h1 h5 c : Nat) (hf : Nat → Nat) : Mv l yX0_clear ws_X0_clear 0 0 (dC, dI) (tyL cI cZ cS cW) [.ref h1] (waW cI h1 h5 c hf) (fun u => u = waW cI h1 h5 0 hf) := by
  refine Mv_of (by decide +kernel) (Nat.le_of_ble_eq_true rfl) ?_
  intro pr ev sx mi ag bl me cd Q ls S hP hK hD hZ hl ret
  obtain ⟨hx, hb, hml, hown, hts⟩ := id S
  have hown : sx.vm.findClass RX0 = some mi.cls := hown
  have hS : va_S (wIn (waW cI h1 h5 c hf)) sx.heap sx.heap [] := va_S.rf
  have hl : lv_has ls 1 [(0, .ref h1)] := hl
  refine lv_aload_n hx hb dX0_clear_0 rfl (lv_at hl 0 rfl) ?_
  refine lv_iconst (v := nI 0) hx hb dX0_clear_1 (by decide) ?_
  refine va_put (D := (dC, dI)) (ci := 0) (v := .int (nI 0)) (ty := .int) (C := RX0) (T := TX0) (N := 2) hx hb hts inX0 tyX0 tyX0_ok nmX0 hown hK hP hD hS 0 rfl rfl 1 (by decide) (hts _ q_fl_X0_15) (fun _ h9 => h9) rfl (by decide +kernel) rfl rfl (Nat.le_of_ble_eq_true rfl) dX0_clear_2 (fun H locs hP hD hS => ?_)
  have hP : va_P (dC, dI) vwCl (waW cI h1 h5 0 hf) H := hP
  have hD : va_D (wIn (waW cI h1 h5 c hf)) (waW cI h1 h5 0 hf) := hD
  exact ret (waW cI h1 h5 0 hf) _ _ _ _ dX0_clear_5 rfl (List.Perm.refl _) hP hS

set_option maxHeartbeats 4000000 in
set_option maxRecDepth 100000 in
theorem m_X0_put (h1 h5 c : Nat) (hf : Nat → Nat) (j x : Nat) (hj : j < 243) : Mv l yX0_put ws_X0_put 0 0 (dC, dI) (tyL cI cZ cS cW) [.ref h1, .int (nI j), .int (nI x)] (waW cI h1 h5 c hf) (fun u => u = waW cI h1 h5 c (upN hf j x)) := by
  refine Mv_of (by decide +kernel) (Nat.le_of_ble_eq_true rfl) ?_
  intro pr ev sx mi ag bl me cd Q ls S hP hK hD hZ hl ret
  obtain ⟨hx, hb, hml, hown, hts⟩ := id S
  have hown : sx.vm.findClass RX0 = some mi.cls := hown
  have hS : va_S (wIn (waW cI h1 h5 c hf)) sx.heap sx.heap [] := va_S.rf
  have hl : lv_has ls 3 [(0, .ref h1), (1, .int (nI j)), (2, .int (nI x))] := hl
  refine lv_iload_n hx hb dX0_put_0 rfl (lv_at hl 1 rfl) ?_
  refine ifN_lt (tgt := 20) hx hb dX0_put_1 (by decide) (by omega) (fun c_1 => absurd c_1 id) (fun c_1 => ?_)
  refine lv_iload_n hx hb dX0_put_4 rfl (lv_at hl 1 rfl) ?_
  refine lv_aload_n hx hb dX0_put_5 rfl (lv_at hl 0 rfl) ?_
  refine va_get (D := (dC, dI)) (ci := 0) (v := .ref h5) (C := RX0) (T := TX0) (N := 2) hx hb hts inX0 hown hK hP 0 rfl rfl 0 (by decide) (hts _ q_fl_X0_9) (fun _ h9 => h9) rfl dX0_put_6 ?_
  refine va_alen (v := nI 243) hx hb hK hP 1 0 rfl rfl rfl dX0_put_9 ?_
  refine icN_ge (tgt := 20) hx hb dX0_put_10 (by decide) (by omega) (by omega) (fun c_10 => absurd c_10 (by omega)) (fun c_10 => ?_)
  refine lv_aload_n hx hb dX0_put_13 rfl (lv_at hl 0 rfl) ?_
  refine va_get (D := (dC, dI)) (ci := 0) (v := .ref h5) (C := RX0) (T := TX0) (N := 2) hx hb hts inX0 hown hK hP 0 rfl rfl 0 (by decide) (hts _ q_fl_X0_9) (fun _ h9 => h9) rfl dX0_put_14 ?_
  refine lv_iload_n hx hb dX0_put_17 rfl (lv_at hl 1 rfl) ?_
  refine lv_iload_n hx hb dX0_put_18 rfl (lv_at hl 2 rfl) ?_
  refine ia_st hx hb hK hP hD hS 1 0 rfl rfl (j := j) (v := x) (by omega) (by decide) dX0_put_19 (fun H locs hP hD hS => ?_)
  have hP : va_P (dC, dI) vwCl (waW cI h1 h5 c (upN hf j x)) H := hP
  have hD : va_D (wIn (waW cI h1 h5 c hf)) (waW cI h1 h5 c (upN hf j x)) := hD
  exact ret (waW cI h1 h5 c (upN hf j x)) _ _ _ _ dX0_put_20 rfl (List.Perm.refl _) hP hS

set_option maxHeartbeats 4000000 in
set_option maxRecDepth 100000 in
theorem m_X0_copyFrom (h1 h5 c : Nat) (hf : Nat → Nat) (h2 h6 c2 : Nat) (tf : Nat → Nat) (hc2 : c2 ≤ 243) : Mv l yX0_copyFrom ws_X0_copyFrom 1 21 (dC, dI) (tyL cI cZ cS cW) [.ref h1, .ref h2] (wbW cI h1 h5 c hf h2 h6 c2 tf) (fun u => ∃ hf2, u = wbW cI h1 h5 c2 hf2 h2 h6 c2 tf ∧ ∀ j, j < c2 → hf2 j = tf j) := by
  refine Mv_of (by decide +kernel) (Nat.le_of_ble_eq_true rfl) ?_
  intro pr ev sx mi ag bl me cd Q ls S hP hK hD hZ hl ret
  obtain ⟨hx, hb, hml, hown, hts⟩ := id S
  have hown : sx.vm.findClass RX0 = some mi.cls := hown
  have hS : va_S (wIn (wbW cI h1 h5 c hf h2 h6 c2 tf)) sx.heap sx.heap [] := va_S.rf
  have hl : lv_has ls 3 [(0, .ref h1), (1, .ref h2)] := hl
  refine lv_aload_n hx hb dX0_copyFrom_0 rfl (lv_at hl 0 rfl) ?_
  refine call_Vv (As := []) (wr := [(h2, .inr (0, [.ref h6, .int (nI c2)])), (h6, .inl (cI, 243, .inl (fun k => nI (tf k))))]) (rest := []) S (m_X0_clear h1 h5 c hf) g_X0_X0_clear hd_X0_clear ⟨Nat.le_of_ble_eq_true rfl, Nat.le_of_ble_eq_true rfl⟩ ⟨Nat.zero_le _, Nat.zero_le _⟩ hP hD hK hS hZ [0, 1] [2, 3] rfl rfl (by decide) 0 rfl rfl hl.1 rfl (Nat.le_of_ble_eq_true rfl) dX0_copyFrom_1 (fun u H locs hq hP hD hS => ?_)
  obtain rfl := hq
  have hP := hP.sub (ws' := wbW cI h1 h5 0 hf h2 h6 c2 tf) [2, 3, 0, 1] rfl
  have hD := hD.sub (ws' := wbW cI h1 h5 0 hf h2 h6 c2 tf) [2, 3, 0, 1] (by decide) rfl
  refine lv_iconst (v := nI 0) hx hb dX0_copyFrom_4 (by decide) ?_
  refine lv_istore_n (lv' := [(2, .int (nI 0)), (0, .ref h1), (1, .ref h2)]) hx hb dX0_copyFrom_5 rfl hl (by decide) rfl (fun ls hl => ?_)
  have lp6 : ∀ (kf : Nat) (i : Nat) (g : Nat → Nat), c2 < i + kf → (i ≤ c2) → (∀ j, j < i → g j = tf j) → ∀ (H : Heap) (locs : List Loc), va_P (dC, dI) vwCl (wbW cI h1 h5 i g h2 h6 c2 tf) H → va_D (wIn (wbW cI h1 h5 c hf h2 h6 c2 tf)) (wbW cI h1 h5 i g h2 h6 c2 tf) → va_S (wIn (wbW cI h1 h5 c hf h2 h6 c2 tf)) sx.heap H locs → ∀ ls : Array Slot, lv_has ls 3 [(2, .int (nI i)), (0, .ref h1), (1, .ref h2)] → W pr l ev (rmB 1 21) sx mi ag bl me cd H locs 0 0 Q (F0 mi 6 ls []) := by
    intro kf
    induction kf with
    | zero => intro i g hkf hi hg; exact absurd hkf (by omega)
    | succ kf ih6 =>
      intro i g hkf hi hg H locs hP hD hS ls hl
      refine lv_iload_n hx hb dX0_copyFrom_6 rfl (lv_at hl 0 rfl) ?_
      refine lv_aload_n hx hb dX0_copyFrom_7 rfl (lv_at hl 2 rfl) ?_
      refine call_Vp (As := []) (rest := [.int (nI i)]) S (m_X0_count h2 h6 c2 tf) g_X0_X0_count hd_X0_count ⟨Nat.le_of_ble_eq_true rfl, Nat.le_of_ble_eq_true rfl⟩ ⟨Nat.zero_le _, Nat.zero_le _⟩ hP hD hK hS hZ [2, 3] rfl (by decide) 0 rfl rfl hl.1 rfl (Nat.le_of_ble_eq_true rfl) dX0_copyFrom_8 (fun r H locs hq hP hS => ?_)
      obtain rfl := hq
      refine icN_ge (tgt := 29) hx hb dX0_copyFrom_11 (by decide) (by omega) (by omega) (fun c_11 => ?_) (fun c_11 => ?_)
      · exact ret (wbW cI h1 h5 i g h2 h6 c2 tf) _ _ _ _ dX0_copyFrom_29 ⟨g, by rw [show i = c2 by omega], fun j hj => hg j (by omega)⟩ (List.Perm.refl _) hP hS
      · refine lv_aload_n hx hb dX0_copyFrom_14 rfl (lv_at hl 1 rfl) ?_
        refine lv_aload_n hx hb dX0_copyFrom_15 rfl (lv_at hl 2 rfl) ?_
        refine lv_iload_n hx hb dX0_copyFrom_16 rfl (lv_at hl 0 rfl) ?_
        refine call_Vp (As := [.int (nI i)]) (rest := [.ref h1]) S (m_X0_at h2 h6 c2 tf i (by omega)) g_X0_X0_at hd_X0_at ⟨Nat.le_of_ble_eq_true rfl, Nat.le_of_ble_eq_true rfl⟩ ⟨Nat.zero_le _, Nat.zero_le _⟩ hP hD hK hS hZ [2, 3] rfl (by decide) 0 rfl rfl hl.1 rfl (Nat.le_of_ble_eq_true rfl) dX0_copyFrom_17 (fun r H locs hq hP hS => ?_)
        obtain rfl := hq
        refine call_Vv (As := [.int (nI (tf i))]) (wr := [(h2, .inr (0, [.ref h6, .int (nI c2)])), (h6, .inl (cI, 243, .inl (fun k => nI (tf k))))]) (rest := []) S (m_X0_add h1 h5 i g (tf i) (by omega)) g_X0_X0_add hd_X0_add ⟨Nat.le_of_ble_eq_true rfl, Nat.le_of_ble_eq_true rfl⟩ ⟨Nat.zero_le _, Nat.zero_le _⟩ hP hD hK hS hZ [0, 1] [2, 3] rfl rfl (by decide) 0 rfl rfl hl.1 rfl (Nat.le_of_ble_eq_true rfl) dX0_copyFrom_20 (fun u H locs hq hP hD hS => ?_)
        obtain rfl := hq
        have hP := hP.sub (ws' := wbW cI h1 h5 (i + 1) (upN g i (tf i)) h2 h6 c2 tf) [2, 3, 0, 1] rfl
        have hD := hD.sub (ws' := wbW cI h1 h5 (i + 1) (upN g i (tf i)) h2 h6 c2 tf) [2, 3, 0, 1] (by decide) rfl
        refine lv_iinc (v := nI (i + 1)) (lv' := [(2, .int (nI (i + 1))), (0, .ref h1), (1, .ref h2)]) hx hb dX0_copyFrom_23 hl (k := 0) rfl (nI_add _ _) (by decide) rfl (fun ls hl => ?_)
        refine lv_goto (tgt := 6) hx hb dX0_copyFrom_26 (by decide) ?_
        exact ih6 (i + 1) _ (by omega) (by omega) (fun j hj => by by_cases hji : j = i; (· subst hji; exact upN_s _ _ _); (· rw [upN_n _ _ hji]; exact hg j (by omega))) _ _ hP hD hS _ (lv_sub hl [0, 1, 2] rfl)
  exact lp6 (c2 + 1) 0 hf (by omega) (by omega) (fun j hj => absurd hj (by omega)) _ _ hP hD hS _ (lv_sub hl [0, 1, 2] rfl)

set_option maxHeartbeats 4000000 in
set_option maxRecDepth 100000 in
theorem m_X1_shiftOf (p : Nat) : Mp l yX1_shiftOf ws_X1_shiftOf 0 0 (dC, dI) (tyL cI cZ cS cW) [.int (nI p)] ([]) (fun r => r = nI (p * 2)) := by
  refine Mi_of (by decide +kernel) (Nat.le_of_ble_eq_true rfl) ?_
  intro pr ev sx mi ag bl me cd Q ls S hP hK hD hZ hl ret
  obtain ⟨hx, hb, hml, hown, hts⟩ := id S
  have hown : sx.vm.findClass RX1 = some mi.cls := hown
  have hS : va_S (wIn ([])) sx.heap sx.heap [] := va_S.rf
  have hl : lv_has ls 1 [(0, .int (nI p))] := hl
  refine lv_iload_n hx hb dX1_shiftOf_0 rfl (lv_at hl 0 rfl) ?_
  refine lv_iconst (v := nI 2) hx hb dX1_shiftOf_1 (by decide) ?_
  refine lv_imul hx hb dX1_shiftOf_2 ?_
  refine W_i (y := nI (p * 2)) (pk_mul _ _) ?_
  exact ret _ ([]) _ _ _ _ dX1_shiftOf_3 rfl ⟨rfl, rfl⟩ (List.Perm.refl _) hP hS

set_option maxHeartbeats 4000000 in
set_option maxRecDepth 100000 in
theorem m_X1_hatMask (p : Nat) (hp : p < 5) : Mp l yX1_hatMask ws_X1_hatMask 1 20 (dC, dI) (tyL cI cZ cS cW) [.int (nI p)] ([]) (fun r => r = nI (3 * 2 ^ (p * 2))) := by
  refine Mi_of (by decide +kernel) (Nat.le_of_ble_eq_true rfl) ?_
  intro pr ev sx mi ag bl me cd Q ls S hP hK hD hZ hl ret
  obtain ⟨hx, hb, hml, hown, hts⟩ := id S
  have hown : sx.vm.findClass RX1 = some mi.cls := hown
  have hS : va_S (wIn ([])) sx.heap sx.heap [] := va_S.rf
  have hl : lv_has ls 1 [(0, .int (nI p))] := hl
  refine lv_iconst (v := nI 3) hx hb dX1_hatMask_0 (by decide) ?_
  refine lv_iload_n hx hb dX1_hatMask_1 rfl (lv_at hl 0 rfl) ?_
  refine call_Sp (As := [.int (nI p)]) (rest := [.int (nI 3)]) S (m_X1_shiftOf p ) g_X1_X1_shiftOf hd_X1_shiftOf ⟨Nat.le_of_ble_eq_true rfl, Nat.le_of_ble_eq_true rfl⟩ ⟨Nat.zero_le _, Nat.zero_le _⟩ hP hD hK hS hZ [] rfl (by decide) hl.1 rfl (Nat.le_of_ble_eq_true rfl) dX1_hatMask_2 (fun r H locs hq hP hS => ?_)
  obtain rfl := hq
  refine lv_ishl hx hb dX1_hatMask_5 ?_
  refine W_i (y := nI (3 * 2 ^ (p * 2))) (nI_shl _ (by omega)) ?_
  exact ret _ ([]) _ _ _ _ dX1_hatMask_6 rfl ⟨rfl, rfl⟩ (List.Perm.refl _) hP hS

set_option maxHeartbeats 4000000 in
set_option maxRecDepth 100000 in
theorem m_X1_colourIn (x p : Nat) (hx : x < 1024) (hp : p < 5) : Mp l yX1_colourIn ws_X1_colourIn 0 0 (dC, dI) (tyL cI cZ cS cW) [.int (nI x), .int (nI p)] ([]) (fun r => r = nI (qd x p)) := by
  refine Mi_of (by decide +kernel) (Nat.le_of_ble_eq_true rfl) ?_
  intro pr ev sx mi ag bl me cd Q ls S hP hK hD hZ hl ret
  obtain ⟨hx, hb, hml, hown, hts⟩ := id S
  have hown : sx.vm.findClass RX1 = some mi.cls := hown
  have hS : va_S (wIn ([])) sx.heap sx.heap [] := va_S.rf
  have hl : lv_has ls 2 [(0, .int (nI x)), (1, .int (nI p))] := hl
  refine lv_iload_n hx hb dX1_colourIn_0 rfl (lv_at hl 0 rfl) ?_
  refine lv_iload_n hx hb dX1_colourIn_1 rfl (lv_at hl 1 rfl) ?_
  refine lv_iconst (v := nI 2) hx hb dX1_colourIn_2 (by decide) ?_
  refine lv_imul hx hb dX1_colourIn_3 ?_
  refine W_i (y := nI (p * 2)) (pk_mul _ _) ?_
  refine lv_ishr hx hb dX1_colourIn_4 ?_
  refine W_i (y := nI (x / 2 ^ (p * 2))) (nI_shr (by omega) (by omega)) ?_
  refine lv_iconst (v := nI 3) hx hb dX1_colourIn_5 (by decide) ?_
  refine lv_iand hx hb dX1_colourIn_6 ?_
  refine W_i (y := nI ((x / 2 ^ (p * 2)) &&& 3)) (nI_and _ _) ?_
  exact ret _ ([]) _ _ _ _ dX1_colourIn_7 rfl ⟨rfl, rfl⟩ (List.Perm.refl _) hP hS

set_option maxHeartbeats 4000000 in
set_option maxRecDepth 100000 in
theorem m_X1_exchanged (x p q : Nat) (hx : x < 1024) (hp : p < 5) (hq : q < 5) : Mp l yX1_exchanged ws_X1_exchanged 1 21 (dC, dI) (tyL cI cZ cS cW) [.int (nI x), .int (nI p), .int (nI q)] ([]) (fun r => r = nI (xch x p q)) := by
  refine Mi_of (by decide +kernel) (Nat.le_of_ble_eq_true rfl) ?_
  intro pr ev sx mi ag bl me cd Q ls S hP hK hD hZ hl ret
  obtain ⟨hx, hb, hml, hown, hts⟩ := id S
  have hown : sx.vm.findClass RX1 = some mi.cls := hown
  have hS : va_S (wIn ([])) sx.heap sx.heap [] := va_S.rf
  have hl : lv_has ls 4 [(0, .int (nI x)), (1, .int (nI p)), (2, .int (nI q))] := hl
  refine lv_iload_n hx hb dX1_exchanged_0 rfl (lv_at hl 0 rfl) ?_
  refine lv_iload_n hx hb dX1_exchanged_1 rfl (lv_at hl 1 rfl) ?_
  refine call_Sp (As := [.int (nI x), .int (nI p)]) (rest := []) S (m_X1_colourIn x p (by omega) (by omega)) g_X1_X1_colourIn hd_X1_colourIn ⟨Nat.le_of_ble_eq_true rfl, Nat.le_of_ble_eq_true rfl⟩ ⟨Nat.zero_le _, Nat.zero_le _⟩ hP hD hK hS hZ [] rfl (by decide) hl.1 rfl (Nat.le_of_ble_eq_true rfl) dX1_exchanged_2 (fun r H locs hq hP hS => ?_)
  obtain rfl := hq
  refine lv_iload_n hx hb dX1_exchanged_5 rfl (lv_at hl 0 rfl) ?_
  refine lv_iload_n hx hb dX1_exchanged_6 rfl (lv_at hl 2 rfl) ?_
  refine call_Sp (As := [.int (nI x), .int (nI q)]) (rest := [.int (nI (qd x p))]) S (m_X1_colourIn x q (by omega) (by omega)) g_X1_X1_colourIn hd_X1_colourIn ⟨Nat.le_of_ble_eq_true rfl, Nat.le_of_ble_eq_true rfl⟩ ⟨Nat.zero_le _, Nat.zero_le _⟩ hP hD hK hS hZ [] rfl (by decide) hl.1 rfl (Nat.le_of_ble_eq_true rfl) dX1_exchanged_7 (fun r H locs hq hP hS => ?_)
  obtain rfl := hq
  refine lv_ixor hx hb dX1_exchanged_10 ?_
  refine W_i (y := nI ((qd x p) ^^^ (qd x q))) (nI_xor _ _) ?_
  refine lv_istore_n (lv' := [(3, .int (nI ((qd x p) ^^^ (qd x q)))), (0, .int (nI x)), (1, .int (nI p)), (2, .int (nI q))]) hx hb dX1_exchanged_11 rfl hl (by decide) rfl (fun ls hl => ?_)
  refine lv_iload_n hx hb dX1_exchanged_12 rfl (lv_at hl 1 rfl) ?_
  refine lv_iload_n hx hb dX1_exchanged_13 rfl (lv_at hl 0 rfl) ?_
  refine lv_iload_n hx hb dX1_exchanged_14 rfl (lv_at hl 2 rfl) ?_
  refine call_Sp (As := [.int (nI p)]) (rest := [.int (nI ((qd x p) ^^^ (qd x q))), .int (nI x)]) S (m_X1_shiftOf p ) g_X1_X1_shiftOf hd_X1_shiftOf ⟨Nat.le_of_ble_eq_true rfl, Nat.le_of_ble_eq_true rfl⟩ ⟨Nat.zero_le _, Nat.zero_le _⟩ hP hD hK hS hZ [] rfl (by decide) hl.1 rfl (Nat.le_of_ble_eq_true rfl) dX1_exchanged_15 (fun r H locs hq hP hS => ?_)
  obtain rfl := hq
  refine lv_ishl hx hb dX1_exchanged_18 ?_
  refine W_i (y := nI (((qd x p) ^^^ (qd x q)) * 2 ^ (p * 2))) (nI_shl _ (by omega)) ?_
  refine lv_ixor hx hb dX1_exchanged_19 ?_
  refine W_i (y := nI (x ^^^ (((qd x p) ^^^ (qd x q)) * 2 ^ (p * 2)))) (nI_xor _ _) ?_
  refine lv_iload_n hx hb dX1_exchanged_20 rfl (lv_at hl 0 rfl) ?_
  refine lv_iload_n hx hb dX1_exchanged_21 rfl (lv_at hl 3 rfl) ?_
  refine call_Sp (As := [.int (nI q)]) (rest := [.int (nI ((qd x p) ^^^ (qd x q))), .int (nI (x ^^^ (((qd x p) ^^^ (qd x q)) * 2 ^ (p * 2))))]) S (m_X1_shiftOf q ) g_X1_X1_shiftOf hd_X1_shiftOf ⟨Nat.le_of_ble_eq_true rfl, Nat.le_of_ble_eq_true rfl⟩ ⟨Nat.zero_le _, Nat.zero_le _⟩ hP hD hK hS hZ [] rfl (by decide) hl.1 rfl (Nat.le_of_ble_eq_true rfl) dX1_exchanged_22 (fun r H locs hq hP hS => ?_)
  obtain rfl := hq
  refine lv_ishl hx hb dX1_exchanged_25 ?_
  refine W_i (y := nI (((qd x p) ^^^ (qd x q)) * 2 ^ (q * 2))) (nI_shl _ (by omega)) ?_
  refine lv_ixor hx hb dX1_exchanged_26 ?_
  refine W_i (y := nI ((x ^^^ (((qd x p) ^^^ (qd x q)) * 2 ^ (p * 2))) ^^^ (((qd x p) ^^^ (qd x q)) * 2 ^ (q * 2)))) (nI_xor _ _) ?_
  exact ret _ ([]) _ _ _ _ dX1_exchanged_27 rfl ⟨rfl, rfl⟩ (List.Perm.refl _) hP hS

end
end
section
/-! the held ways as a list; what the helpers answer over it -/
def Lof (f : Nat → Nat) (c : Nat) : List Nat := (List.range c).map f
theorem Lof_s (f : Nat → Nat) (i : Nat) : Lof f (i + 1) = Lof f i ++ [f i] := by simp [Lof, List.range_succ]
theorem Lof_len (f : Nat → Nat) (c : Nat) : (Lof f c).length = c := by simp [Lof]
theorem Lof_congr {f g : Nat → Nat} {c : Nat} (h : ∀ j, j < c → f j = g j) : Lof f c = Lof g c := by
  refine List.map_congr_left (fun j hj => h j (List.mem_range.mp hj))
theorem Lof_up (f : Nat → Nat) (k v : Nat) : Lof (upN f k v) k = Lof f k := Lof_congr (fun j hj => upN_n f v (by omega))
theorem Lof_mem {f : Nat → Nat} {c x : Nat} : x ∈ Lof f c ↔ ∃ j, j < c ∧ f j = x := by simp [Lof]
theorem Lof_bd {f g : Nat → Nat} {c k : Nat} {P : Nat → Bool} (h : Lof g k = (Lof f c).filter P) (hb : ∀ j, j < c → f j < 1024) : ∀ j, j < k → g j < 1024 := by
  intro j hj
  have : g j ∈ Lof g k := Lof_mem.mpr ⟨j, hj, rfl⟩
  rw [h, List.mem_filter] at this
  obtain ⟨i, hi, e⟩ := Lof_mem.mp this.1
  rw [← e]; exact hb i hi
theorem Lof_le {f g : Nat → Nat} {c k : Nat} {P : Nat → Bool} (h : Lof g k = (Lof f c).filter P) : k ≤ c := by
  have := List.length_filter_le P (Lof f c)
  rw [← h, Lof_len, Lof_len] at this
  exact this
theorem cnt_t {P : Nat → Bool} {f : Nat → Nat} {i a : Nat} (hp : P (f i) = true) (ha : a = (Lof f i).countP P) : a + 1 = (Lof f (i + 1)).countP P := by
  rw [Lof_s, List.countP_append, ← ha]; simp [hp]
theorem cnt_f {P : Nat → Bool} {f : Nat → Nat} {i a : Nat} (hp : P (f i) = false) (ha : a = (Lof f i).countP P) : a = (Lof f (i + 1)).countP P := by
  rw [Lof_s, List.countP_append, ← ha]; simp [hp]
theorem cnt_le {P : Nat → Bool} {f : Nat → Nat} {i a : Nat} (ha : a = (Lof f i).countP P) : a ≤ i := by
  have := List.countP_le_length (p := P) (l := Lof f i)
  rw [Lof_len] at this; omega
theorem flt_t {P : Nat → Bool} {f g : Nat → Nat} {i k : Nat} (hx : g i = f i) (hp : P (g i) = true) (h : Lof g k = (Lof f i).filter P) : Lof (upN g k (g i)) (k + 1) = (Lof f (i + 1)).filter P := by
  rw [Lof_s, Lof_s, List.filter_append, Lof_up, upN_s, h, ← hx]; simp [hp]
theorem flt_f {P : Nat → Bool} {f g : Nat → Nat} {i k : Nat} (hx : g i = f i) (hp : P (g i) = false) (h : Lof g k = (Lof f i).filter P) : Lof g k = (Lof f (i + 1)).filter P := by
  rw [Lof_s, List.filter_append, h, ← hx]; simp [hp]
theorem and_l {a b : Nat} (h : a < 1024) : a &&& b < 1024 := Nat.lt_of_le_of_lt Nat.and_le_left h
theorem and_r {a b : Nat} (h : b < 1024) : a &&& b < 1024 := Nat.lt_of_le_of_lt Nat.and_le_right h
theorem xor_k {a b : Nat} (h : a < 1024) (h2 : b < 1024) : a ^^^ b < 1024 := Nat.xor_lt_two_pow (n := 10) h h2
theorem or_k {a b : Nat} (h : a < 1024) (h2 : b < 1024) : a ||| b < 1024 := Nat.or_lt_two_pow (n := 10) h h2
theorem or_16 {a b : Nat} (h : a < 16) (h2 : b < 16) : a ||| b < 16 := Nat.or_lt_two_pow (n := 4) h h2
theorem lt_31 {a : Nat} (h : a < 1024) : a < 2 ^ 31 := by omega
theorem bI_t {b : Bool} (h : b = true) : nI 1 = bI b := by rw [h]; rfl
theorem bI_f {b : Bool} (h : b = false) : nI 0 = bI b := by rw [h]; rfl
theorem msk_lt {p : Nat} (h : p < 5) : 3 * 2 ^ (p * 2) < 1024 := by
  have : ∀ p, p < 5 → 3 * 2 ^ (p * 2) < 1024 := by decide
  exact this p h
theorem bit_lt (x p : Nat) : 1 * 2 ^ qd x p < 16 := by
  have := qd_lt x p
  have h : ∀ k, k < 4 → 1 * 2 ^ k < 16 := by decide
  exact h _ this
def agr (wn x m : Nat) : Bool := ((x ^^^ wn) &&& m) == 0
def vw (x m : Nat) : Nat := (x &&& m) &&& 1023
theorem vw_lt (x m : Nat) : vw x m < 1024 := Nat.lt_of_le_of_lt Nat.and_le_right (by omega)
def pcol (wn m q : Nat) (L : List Nat) : Nat := L.foldl (fun a x => if agr wn x m then a ||| (1 * 2 ^ qd x q) else a) 0
theorem pcol_t {wn m q : Nat} {f : Nat → Nat} {i a : Nat} (hp : agr wn (f i) m = true) (ha : a = pcol wn m q (Lof f i)) : a ||| (1 * 2 ^ qd (f i) q) = pcol wn m q (Lof f (i + 1)) := by
  rw [Lof_s, pcol, List.foldl_append, ← pcol, ← ha]; simp [hp]
theorem pcol_f {wn m q : Nat} {f : Nat → Nat} {i a : Nat} (hp : agr wn (f i) m = false) (ha : a = pcol wn m q (Lof f i)) : a = pcol wn m q (Lof f (i + 1)) := by
  rw [Lof_s, pcol, List.foldl_append, ← pcol, ← ha]; simp [hp]
theorem pcol_lt (wn m q : Nat) (L : List Nat) : pcol wn m q L < 16 := by
  have : ∀ (L : List Nat) (a : Nat), a < 16 → L.foldl (fun a x => if agr wn x m then a ||| (1 * 2 ^ qd x q) else a) a < 16 := by
    intro L
    induction L with
    | nil => intro a h; exact h
    | cons x t ih =>
      intro a h
      simp only [List.foldl_cons]
      refine ih _ ?_
      split
      · exact or_16 h (bit_lt x q)
      · exact h
  exact this L 0 (by omega)
def ocol (m p : Nat) (L : List Nat) (v : Nat) : Nat := L.foldl (fun a x => if vw x m == v then a ||| (1 * 2 ^ qd x p) else a) 0
theorem ocol_t {m p v : Nat} {f : Nat → Nat} {i : Nat} (hp : vw (f i) m = v) : ocol m p (Lof f i) v ||| (1 * 2 ^ qd (f i) p) = ocol m p (Lof f (i + 1)) v := by
  rw [Lof_s, ocol, ocol, List.foldl_append]; simp [hp]
theorem ocol_f {m p v : Nat} {f : Nat → Nat} {i : Nat} (hp : vw (f i) m ≠ v) : ocol m p (Lof f i) v = ocol m p (Lof f (i + 1)) v := by
  rw [Lof_s, ocol, ocol, List.foldl_append]; simp [hp]
theorem ocol_lt (m p v : Nat) (L : List Nat) : ocol m p L v < 16 := by
  have : ∀ (L : List Nat) (a : Nat), a < 16 → L.foldl (fun a x => if vw x m == v then a ||| (1 * 2 ^ qd x p) else a) a < 16 := by
    intro L
    induction L with
    | nil => intro a h; exact h
    | cons x t ih =>
      intro a h
      simp only [List.foldl_cons]
      refine ih _ ?_
      split
      · exact or_16 h (bit_lt x p)
      · exact h
  exact this L 0 (by omega)
def cert (wn m p : Nat) (L : List Nat) : Bool := one1 (pcol wn m p L)
def wbc (m p : Nat) (L : List Nat) (x : Nat) : Bool := one1 (ocol m p L (vw x m))
def certN (wn : Nat) (s : Nat → Nat) (L : List Nat) : Nat → Nat
  | 0 => 0
  | p + 1 => certN wn s L p + if cert wn (s p) p L then 1 else 0
theorem certN_le (wn : Nat) (s : Nat → Nat) (L : List Nat) : ∀ p, certN wn s L p ≤ p
  | 0 => Nat.le_refl 0
  | p + 1 => by
    have := certN_le wn s L p
    simp only [certN]
    split <;> omega
def turnL (wn m p : Nat) (L : List Nat) : List Nat := if cert wn m p L then (L.filter (fun x => wbc m p L x == true)).filter (fun x => qd x p == qd wn p) else L.filter (fun x => wbc m p L x == false)
def aftN (n p : Nat) : Nat := if p + 1 < n then p + 1 else 0
def allC (wn : Nat) (s : Nat → Nat) (lo hi : Nat) (L : List Nat) : Bool := (List.range hi).all (fun p => decide (p < lo) || cert wn (s p) p L)
theorem allC_t {wn lo hi i : Nat} {s : Nat → Nat} {L : List Nat} (h : ∀ p, lo ≤ p → p < i → cert wn (s p) p L = true) (hi2 : hi ≤ i) : allC wn s lo hi L = true := by
  refine List.all_eq_true.mpr (fun p hp => ?_)
  have := List.mem_range.mp hp
  by_cases hl : p < lo
  · simp [hl]
  · simp [h p (by omega) (by omega)]
theorem allC_f {wn lo hi i : Nat} {s : Nat → Nat} {L : List Nat} (h1 : lo ≤ i) (h2 : i < hi) (h : cert wn (s i) i L = false) : allC wn s lo hi L = false := by
  cases hc : allC wn s lo hi L with
  | false => rfl
  | true =>
    have := List.all_eq_true.mp hc i (List.mem_range.mpr h2)
    rw [h] at this
    simp at this
    omega
/-- behind how many turns (at most k) all from lo to hi are certain -/
def untilL (n wn : Nat) (s : Nat → Nat) (lo hi : Nat) : Nat → List Nat → Nat → Option Nat
  | 0, L, _ => if allC wn s lo hi L then some 0 else none
  | k + 1, L, p => if allC wn s lo hi L then some 0 else (untilL n wn s lo hi k (turnL wn (s p) p L) (aftN n p)).map (· + 1)
def oI : Option Nat → Int32
  | none => -1
  | some v => nI v
theorem nI_hi {hi i : Nat} (h1 : hi < 2 ^ 30) (h2 : i < 2 ^ 30) : nI hi - 1 < nI i ↔ hi ≤ i := by
  rw [Int32.lt_iff_toInt_lt, show (1 : Int32) = nI 1 from rfl, pk_sub_toInt (by omega) (by omega), nI_toInt (by omega)]
  omega
def mskN : Nat → Nat
  | 0 => 0
  | k + 1 => mskN k ||| 3 * 2 ^ (k * 2)
def lkS (s : Nat → Nat) (p i : Nat) : Nat → Nat := fun k => if k < i then s k ||| 3 * 2 ^ (p * 2) else s k
theorem lkS_s (s : Nat → Nat) (p i : Nat) : upN (lkS s p i) i (lkS s p i i ||| 3 * 2 ^ (p * 2)) = lkS s p (i + 1) := by
  funext k
  by_cases h : k = i
  · subst h; simp [upN, lkS]
  · by_cases h2 : k < i
    · simp [upN, lkS, h, h2, show k < i + 1 by omega]
    · simp [upN, lkS, h, h2, show ¬ k < i + 1 by omega]
def addL (p cl : Nat) (L : List Nat) : List Nat := L.map (fun x => x ||| (cl * 2 ^ (p * 2)))
def ocL (p : Nat) (L : List Nat) : Nat → List Nat
  | 0 => L
  | c + 1 => ocL p L c ++ addL p (c + 1) L
section
variable {l : Launch} {dC : Nat → ClassId} {dI : Nat → Nat → Nat} {cI cZ cS cW : ClassId}

set_option maxHeartbeats 4000000 in
set_option maxRecDepth 100000 in
theorem m_X1_hatsIn (h0 h1 h2 h3 h4 h5 h6 p1 p2 n wn t tc sc : Nat) (uw : Bool) (c1 c2 : Nat) (s ow hf tf : Nat → Nat) (x co : Nat) (hn : n ≤ 5) (hx2 : x < 1024) (hco : co < 3) : Mp l yX1_hatsIn ws_X1_hatsIn 1 21 (dC, dI) (tyL cI cZ cS cW) [.ref h0, .int (nI x), .int (nI co)] (gW cI h0 h1 h2 h3 h4 h5 h6 p1 p2 n wn t tc sc uw c1 c2 s ow hf tf) (fun r => r = nI (hatsN n x co)) := by
  refine Mi_of (by decide +kernel) (Nat.le_of_ble_eq_true rfl) ?_
  intro pr ev sx mi ag bl me cd Q ls S hP hK hD hZ hl ret
  obtain ⟨hx, hb, hml, hown, hts⟩ := id S
  have hown : sx.vm.findClass RX1 = some mi.cls := hown
  have hS : va_S (wIn (gW cI h0 h1 h2 h3 h4 h5 h6 p1 p2 n wn t tc sc uw c1 c2 s ow hf tf)) sx.heap sx.heap [] := va_S.rf
  have hl : lv_has ls 5 [(0, .ref h0), (1, .int (nI x)), (2, .int (nI co))] := hl
  refine lv_iconst (v := nI 0) hx hb dX1_hatsIn_0 (by decide) ?_
  refine lv_istore_n (lv' := [(3, .int (nI 0)), (0, .ref h0), (1, .int (nI x)), (2, .int (nI co))]) hx hb dX1_hatsIn_1 rfl hl (by decide) rfl (fun ls hl => ?_)
  refine lv_iconst (v := nI 0) hx hb dX1_hatsIn_2 (by decide) ?_
  refine lv_istore (lv' := [(4, .int (nI 0)), (3, .int (nI 0)), (0, .ref h0), (1, .int (nI x)), (2, .int (nI co))]) hx hb dX1_hatsIn_3 hl (by decide) rfl (fun ls hl => ?_)
  have lp5 : ∀ (kf : Nat) (i : Nat) (a : Nat), n < i + kf → (i ≤ n) → (a = hatsN i x co) → ∀ (H : Heap) (locs : List Loc), va_P (dC, dI) vwCl (gW cI h0 h1 h2 h3 h4 h5 h6 p1 p2 n wn t tc sc uw c1 c2 s ow hf tf) H → va_D (wIn (gW cI h0 h1 h2 h3 h4 h5 h6 p1 p2 n wn t tc sc uw c1 c2 s ow hf tf)) (gW cI h0 h1 h2 h3 h4 h5 h6 p1 p2 n wn t tc sc uw c1 c2 s ow hf tf) → va_S (wIn (gW cI h0 h1 h2 h3 h4 h5 h6 p1 p2 n wn t tc sc uw c1 c2 s ow hf tf)) sx.heap H locs → ∀ ls : Array Slot, lv_has ls 5 [(4, .int (nI i)), (3, .int (nI a)), (0, .ref h0), (1, .int (nI x)), (2, .int (nI co))] → W pr l ev (rmB 1 21) sx mi ag bl me cd H locs 0 0 Q (F0 mi 5 ls []) := by
    intro kf
    induction kf with
    | zero => intro i a hkf hi ha; exact absurd hkf (by omega)
    | succ kf ih5 =>
      intro i a hkf hi ha H locs hP hD hS ls hl
      refine lv_iload hx hb dX1_hatsIn_5 (lv_at hl 0 rfl) ?_
      refine lv_aload_n hx hb dX1_hatsIn_7 rfl (lv_at hl 2 rfl) ?_
      refine va_get (D := (dC, dI)) (ci := 1) (v := .int (nI n)) (C := RX1) (T := TX1) (N := 10) hx hb hts inX1 hown hK hP 0 rfl rfl 4 (by decide) (hts _ q_fl_X1_26) (fun _ h9 => h9) rfl dX1_hatsIn_8 ?_
      refine icN_ge (tgt := 33) hx hb dX1_hatsIn_11 (by decide) (by omega) (by omega) (fun c_11 => ?_) (fun c_11 => ?_)
      · refine lv_iload_n hx hb dX1_hatsIn_33 rfl (lv_at hl 1 rfl) ?_
        exact ret _ (gW cI h0 h1 h2 h3 h4 h5 h6 p1 p2 n wn t tc sc uw c1 c2 s ow hf tf) _ _ _ _ dX1_hatsIn_34 rfl ⟨rfl, by rw [ha, show i = n by omega]⟩ (List.Perm.refl _) hP hS
      · refine lv_iload_n hx hb dX1_hatsIn_14 rfl (lv_at hl 3 rfl) ?_
        refine lv_iload hx hb dX1_hatsIn_15 (lv_at hl 0 rfl) ?_
        refine call_Sp (As := [.int (nI x), .int (nI i)]) (rest := []) S (m_X1_colourIn x i (by omega) (by omega)) g_X1_X1_colourIn hd_X1_colourIn ⟨Nat.le_of_ble_eq_true rfl, Nat.le_of_ble_eq_true rfl⟩ ⟨Nat.zero_le _, Nat.zero_le _⟩ hP hD hK hS hZ [] rfl (by decide) hl.1 rfl (Nat.le_of_ble_eq_true rfl) dX1_hatsIn_17 (fun r H locs hq hP hS => ?_)
        obtain rfl := hq
        refine lv_iload_n hx hb dX1_hatsIn_20 rfl (lv_at hl 4 rfl) ?_
        refine icN_ne (tgt := 27) hx hb dX1_hatsIn_21 (by decide) (by have := qd_lt x i; omega) (by omega) (fun c_21 => ?_) (fun c_21 => ?_)
        · refine lv_iinc (v := nI (i + 1)) (lv' := [(4, .int (nI (i + 1))), (3, .int (nI a)), (0, .ref h0), (1, .int (nI x)), (2, .int (nI co))]) hx hb dX1_hatsIn_27 hl (k := 0) rfl (nI_add _ _) (by decide) rfl (fun ls hl => ?_)
          refine lv_goto (tgt := 5) hx hb dX1_hatsIn_30 (by decide) ?_
          exact ih5 (i + 1) _ (by omega) (by omega) (by simp [hatsN, ha, c_21]) _ _ hP hD hS _ (lv_sub hl [0, 1, 2, 3, 4] rfl)
        · refine lv_iinc (v := nI (a + 1)) (lv' := [(3, .int (nI (a + 1))), (4, .int (nI i)), (0, .ref h0), (1, .int (nI x)), (2, .int (nI co))]) hx hb dX1_hatsIn_24 hl (k := 1) rfl (nI_add _ _) (by decide) rfl (fun ls hl => ?_)
          refine lv_iinc (v := nI (i + 1)) (lv' := [(4, .int (nI (i + 1))), (3, .int (nI (a + 1))), (0, .ref h0), (1, .int (nI x)), (2, .int (nI co))]) hx hb dX1_hatsIn_27 hl (k := 1) rfl (nI_add _ _) (by decide) rfl (fun ls hl => ?_)
          refine lv_goto (tgt := 5) hx hb dX1_hatsIn_30 (by decide) ?_
          exact ih5 (i + 1) _ (by omega) (by omega) (by simp [hatsN, ha, c_21]) _ _ hP hD hS _ (lv_sub hl [0, 1, 2, 3, 4] rfl)
  exact lp5 (n + 1) 0 0 (by omega) (by omega) rfl _ _ hP hD hS _ (lv_sub hl [0, 1, 2, 3, 4] rfl)

set_option maxHeartbeats 4000000 in
set_option maxRecDepth 100000 in
theorem m_X1_seenHatsOf (h0 h1 h2 h3 h4 h5 h6 p1 p2 n wn t tc sc : Nat) (uw : Bool) (c1 c2 : Nat) (s ow hf tf : Nat → Nat) (j : Nat) (hj : j < 5) : Mp l yX1_seenHatsOf ws_X1_seenHatsOf 0 0 (dC, dI) (tyL cI cZ cS cW) [.ref h0, .int (nI j)] (gW cI h0 h1 h2 h3 h4 h5 h6 p1 p2 n wn t tc sc uw c1 c2 s ow hf tf) (fun r => r = nI (s j)) := by
  refine Mi_of (by decide +kernel) (Nat.le_of_ble_eq_true rfl) ?_
  intro pr ev sx mi ag bl me cd Q ls S hP hK hD hZ hl ret
  obtain ⟨hx, hb, hml, hown, hts⟩ := id S
  have hown : sx.vm.findClass RX1 = some mi.cls := hown
  have hS : va_S (wIn (gW cI h0 h1 h2 h3 h4 h5 h6 p1 p2 n wn t tc sc uw c1 c2 s ow hf tf)) sx.heap sx.heap [] := va_S.rf
  have hl : lv_has ls 2 [(0, .ref h0), (1, .int (nI j))] := hl
  refine lv_iload_n hx hb dX1_seenHatsOf_0 rfl (lv_at hl 1 rfl) ?_
  refine ifN_lt (tgt := 22) hx hb dX1_seenHatsOf_1 (by decide) (by omega) (fun c_1 => absurd c_1 id) (fun c_1 => ?_)
  refine lv_iload_n hx hb dX1_seenHatsOf_4 rfl (lv_at hl 1 rfl) ?_
  refine lv_aload_n hx hb dX1_seenHatsOf_5 rfl (lv_at hl 0 rfl) ?_
  refine va_get (D := (dC, dI)) (ci := 1) (v := .ref h3) (C := RX1) (T := TX1) (N := 10) hx hb hts inX1 hown hK hP 0 rfl rfl 2 (by decide) (hts _ q_fl_X1_19) (fun _ h9 => h9) rfl dX1_seenHatsOf_6 ?_
  refine va_alen (v := nI 5) hx hb hK hP 3 0 rfl rfl rfl dX1_seenHatsOf_9 ?_
  refine icN_ge (tgt := 22) hx hb dX1_seenHatsOf_10 (by decide) (by omega) (by omega) (fun c_10 => absurd c_10 (by omega)) (fun c_10 => ?_)
  refine lv_aload_n hx hb dX1_seenHatsOf_13 rfl (lv_at hl 0 rfl) ?_
  refine va_get (D := (dC, dI)) (ci := 1) (v := .ref h3) (C := RX1) (T := TX1) (N := 10) hx hb hts inX1 hown hK hP 0 rfl rfl 2 (by decide) (hts _ q_fl_X1_19) (fun _ h9 => h9) rfl dX1_seenHatsOf_14 ?_
  refine lv_iload_n hx hb dX1_seenHatsOf_17 rfl (lv_at hl 1 rfl) ?_
  refine ia_ld hx hb hK hP 3 0 rfl rfl (j := j) (by omega) (by decide) dX1_seenHatsOf_18 ?_
  refine lv_goto (tgt := 23) hx hb dX1_seenHatsOf_19 (by decide) ?_
  exact ret _ (gW cI h0 h1 h2 h3 h4 h5 h6 p1 p2 n wn t tc sc uw c1 c2 s ow hf tf) _ _ _ _ dX1_seenHatsOf_23 rfl ⟨rfl, rfl⟩ (List.Perm.refl _) hP hS

set_option maxHeartbeats 4000000 in
set_option maxRecDepth 100000 in
theorem m_X1_setSeenHatsOf (h0 h1 h2 h3 h4 h5 h6 p1 p2 n wn t tc sc : Nat) (uw : Bool) (c1 c2 : Nat) (s ow hf tf : Nat → Nat) (j v : Nat) (hj : j < 5) : Mv l yX1_setSeenHatsOf ws_X1_setSeenHatsOf 0 0 (dC, dI) (tyL cI cZ cS cW) [.ref h0, .int (nI j), .int (nI v)] (gW cI h0 h1 h2 h3 h4 h5 h6 p1 p2 n wn t tc sc uw c1 c2 s ow hf tf) (fun u => u = gW cI h0 h1 h2 h3 h4 h5 h6 p1 p2 n wn t tc sc uw c1 c2 (upN s j v) ow hf tf) := by
  refine Mv_of (by decide +kernel) (Nat.le_of_ble_eq_true rfl) ?_
  intro pr ev sx mi ag bl me cd Q ls S hP hK hD hZ hl ret
  obtain ⟨hx, hb, hml, hown, hts⟩ := id S
  have hown : sx.vm.findClass RX1 = some mi.cls := hown
  have hS : va_S (wIn (gW cI h0 h1 h2 h3 h4 h5 h6 p1 p2 n wn t tc sc uw c1 c2 s ow hf tf)) sx.heap sx.heap [] := va_S.rf
  have hl : lv_has ls 3 [(0, .ref h0), (1, .int (nI j)), (2, .int (nI v))] := hl
  refine lv_iload_n hx hb dX1_setSeenHatsOf_0 rfl (lv_at hl 1 rfl) ?_
  refine ifN_lt (tgt := 20) hx hb dX1_setSeenHatsOf_1 (by decide) (by omega) (fun c_1 => absurd c_1 id) (fun c_1 => ?_)
  refine lv_iload_n hx hb dX1_setSeenHatsOf_4 rfl (lv_at hl 1 rfl) ?_
  refine lv_aload_n hx hb dX1_setSeenHatsOf_5 rfl (lv_at hl 0 rfl) ?_
  refine va_get (D := (dC, dI)) (ci := 1) (v := .ref h3) (C := RX1) (T := TX1) (N := 10) hx hb hts inX1 hown hK hP 0 rfl rfl 2 (by decide) (hts _ q_fl_X1_19) (fun _ h9 => h9) rfl dX1_setSeenHatsOf_6 ?_
  refine va_alen (v := nI 5) hx hb hK hP 3 0 rfl rfl rfl dX1_setSeenHatsOf_9 ?_
  refine icN_ge (tgt := 20) hx hb dX1_setSeenHatsOf_10 (by decide) (by omega) (by omega) (fun c_10 => absurd c_10 (by omega)) (fun c_10 => ?_)
  refine lv_aload_n hx hb dX1_setSeenHatsOf_13 rfl (lv_at hl 0 rfl) ?_
  refine va_get (D := (dC, dI)) (ci := 1) (v := .ref h3) (C := RX1) (T := TX1) (N := 10) hx hb hts inX1 hown hK hP 0 rfl rfl 2 (by decide) (hts _ q_fl_X1_19) (fun _ h9 => h9) rfl dX1_setSeenHatsOf_14 ?_
  refine lv_iload_n hx hb dX1_setSeenHatsOf_17 rfl (lv_at hl 1 rfl) ?_
  refine lv_iload_n hx hb dX1_setSeenHatsOf_18 rfl (lv_at hl 2 rfl) ?_
  refine ia_st hx hb hK hP hD hS 3 0 rfl rfl (j := j) (v := v) (by omega) (by decide) dX1_setSeenHatsOf_19 (fun H locs hP hD hS => ?_)
  have hP : va_P (dC, dI) vwCl (gW cI h0 h1 h2 h3 h4 h5 h6 p1 p2 n wn t tc sc uw c1 c2 (upN s j v) ow hf tf) H := hP
  have hD : va_D (wIn (gW cI h0 h1 h2 h3 h4 h5 h6 p1 p2 n wn t tc sc uw c1 c2 s ow hf tf)) (gW cI h0 h1 h2 h3 h4 h5 h6 p1 p2 n wn t tc sc uw c1 c2 (upN s j v) ow hf tf) := hD
  exact ret (gW cI h0 h1 h2 h3 h4 h5 h6 p1 p2 n wn t tc sc uw c1 c2 (upN s j v) ow hf tf) _ _ _ _ dX1_setSeenHatsOf_20 rfl (List.Perm.refl _) hP hS

set_option maxHeartbeats 4000000 in
set_option maxRecDepth 100000 in
theorem m_X1_ownColours (h0 h1 h2 h3 h4 h5 h6 p1 p2 n wn t tc sc : Nat) (uw : Bool) (c1 c2 : Nat) (s ow hf tf : Nat → Nat) (j : Nat) (hj : j < 1024) : Mp l yX1_ownColours ws_X1_ownColours 0 0 (dC, dI) (tyL cI cZ cS cW) [.ref h0, .int (nI j)] (gW cI h0 h1 h2 h3 h4 h5 h6 p1 p2 n wn t tc sc uw c1 c2 s ow hf tf) (fun r => r = nI (ow j)) := by
  refine Mi_of (by decide +kernel) (Nat.le_of_ble_eq_true rfl) ?_
  intro pr ev sx mi ag bl me cd Q ls S hP hK hD hZ hl ret
  obtain ⟨hx, hb, hml, hown, hts⟩ := id S
  have hown : sx.vm.findClass RX1 = some mi.cls := hown
  have hS : va_S (wIn (gW cI h0 h1 h2 h3 h4 h5 h6 p1 p2 n wn t tc sc uw c1 c2 s ow hf tf)) sx.heap sx.heap [] := va_S.rf
  have hl : lv_has ls 2 [(0, .ref h0), (1, .int (nI j))] := hl
  refine lv_iload_n hx hb dX1_ownColours_0 rfl (lv_at hl 1 rfl) ?_
  refine ifN_lt (tgt := 22) hx hb dX1_ownColours_1 (by decide) (by omega) (fun c_1 => absurd c_1 id) (fun c_1 => ?_)
  refine lv_iload_n hx hb dX1_ownColours_4 rfl (lv_at hl 1 rfl) ?_
  refine lv_aload_n hx hb dX1_ownColours_5 rfl (lv_at hl 0 rfl) ?_
  refine va_get (D := (dC, dI)) (ci := 1) (v := .ref h4) (C := RX1) (T := TX1) (N := 10) hx hb hts inX1 hown hK hP 0 rfl rfl 3 (by decide) (hts _ q_fl_X1_23) (fun _ h9 => h9) rfl dX1_ownColours_6 ?_
  refine va_alen (v := nI 1024) hx hb hK hP 4 0 rfl rfl rfl dX1_ownColours_9 ?_
  refine icN_ge (tgt := 22) hx hb dX1_ownColours_10 (by decide) (by omega) (by omega) (fun c_10 => absurd c_10 (by omega)) (fun c_10 => ?_)
  refine lv_aload_n hx hb dX1_ownColours_13 rfl (lv_at hl 0 rfl) ?_
  refine va_get (D := (dC, dI)) (ci := 1) (v := .ref h4) (C := RX1) (T := TX1) (N := 10) hx hb hts inX1 hown hK hP 0 rfl rfl 3 (by decide) (hts _ q_fl_X1_23) (fun _ h9 => h9) rfl dX1_ownColours_14 ?_
  refine lv_iload_n hx hb dX1_ownColours_17 rfl (lv_at hl 1 rfl) ?_
  refine ia_ld hx hb hK hP 4 0 rfl rfl (j := j) (by omega) (by decide) dX1_ownColours_18 ?_
  refine lv_goto (tgt := 23) hx hb dX1_ownColours_19 (by decide) ?_
  exact ret _ (gW cI h0 h1 h2 h3 h4 h5 h6 p1 p2 n wn t tc sc uw c1 c2 s ow hf tf) _ _ _ _ dX1_ownColours_23 rfl ⟨rfl, rfl⟩ (List.Perm.refl _) hP hS

set_option maxHeartbeats 4000000 in
set_option maxRecDepth 100000 in
theorem m_X1_setOwnColours (h0 h1 h2 h3 h4 h5 h6 p1 p2 n wn t tc sc : Nat) (uw : Bool) (c1 c2 : Nat) (s ow hf tf : Nat → Nat) (j v : Nat) (hj : j < 1024) : Mv l yX1_setOwnColours ws_X1_setOwnColours 0 0 (dC, dI) (tyL cI cZ cS cW) [.ref h0, .int (nI j), .int (nI v)] (gW cI h0 h1 h2 h3 h4 h5 h6 p1 p2 n wn t tc sc uw c1 c2 s ow hf tf) (fun u => u = gW cI h0 h1 h2 h3 h4 h5 h6 p1 p2 n wn t tc sc uw c1 c2 s (upN ow j v) hf tf) := by
  refine Mv_of (by decide +kernel) (Nat.le_of_ble_eq_true rfl) ?_
  intro pr ev sx mi ag bl me cd Q ls S hP hK hD hZ hl ret
  obtain ⟨hx, hb, hml, hown, hts⟩ := id S
  have hown : sx.vm.findClass RX1 = some mi.cls := hown
  have hS : va_S (wIn (gW cI h0 h1 h2 h3 h4 h5 h6 p1 p2 n wn t tc sc uw c1 c2 s ow hf tf)) sx.heap sx.heap [] := va_S.rf
  have hl : lv_has ls 3 [(0, .ref h0), (1, .int (nI j)), (2, .int (nI v))] := hl
  refine lv_iload_n hx hb dX1_setOwnColours_0 rfl (lv_at hl 1 rfl) ?_
  refine ifN_lt (tgt := 20) hx hb dX1_setOwnColours_1 (by decide) (by omega) (fun c_1 => absurd c_1 id) (fun c_1 => ?_)
  refine lv_iload_n hx hb dX1_setOwnColours_4 rfl (lv_at hl 1 rfl) ?_
  refine lv_aload_n hx hb dX1_setOwnColours_5 rfl (lv_at hl 0 rfl) ?_
  refine va_get (D := (dC, dI)) (ci := 1) (v := .ref h4) (C := RX1) (T := TX1) (N := 10) hx hb hts inX1 hown hK hP 0 rfl rfl 3 (by decide) (hts _ q_fl_X1_23) (fun _ h9 => h9) rfl dX1_setOwnColours_6 ?_
  refine va_alen (v := nI 1024) hx hb hK hP 4 0 rfl rfl rfl dX1_setOwnColours_9 ?_
  refine icN_ge (tgt := 20) hx hb dX1_setOwnColours_10 (by decide) (by omega) (by omega) (fun c_10 => absurd c_10 (by omega)) (fun c_10 => ?_)
  refine lv_aload_n hx hb dX1_setOwnColours_13 rfl (lv_at hl 0 rfl) ?_
  refine va_get (D := (dC, dI)) (ci := 1) (v := .ref h4) (C := RX1) (T := TX1) (N := 10) hx hb hts inX1 hown hK hP 0 rfl rfl 3 (by decide) (hts _ q_fl_X1_23) (fun _ h9 => h9) rfl dX1_setOwnColours_14 ?_
  refine lv_iload_n hx hb dX1_setOwnColours_17 rfl (lv_at hl 1 rfl) ?_
  refine lv_iload_n hx hb dX1_setOwnColours_18 rfl (lv_at hl 2 rfl) ?_
  refine ia_st hx hb hK hP hD hS 4 0 rfl rfl (j := j) (v := v) (by omega) (by decide) dX1_setOwnColours_19 (fun H locs hP hD hS => ?_)
  have hP : va_P (dC, dI) vwCl (gW cI h0 h1 h2 h3 h4 h5 h6 p1 p2 n wn t tc sc uw c1 c2 s (upN ow j v) hf tf) H := hP
  have hD : va_D (wIn (gW cI h0 h1 h2 h3 h4 h5 h6 p1 p2 n wn t tc sc uw c1 c2 s ow hf tf)) (gW cI h0 h1 h2 h3 h4 h5 h6 p1 p2 n wn t tc sc uw c1 c2 s (upN ow j v) hf tf) := hD
  exact ret (gW cI h0 h1 h2 h3 h4 h5 h6 p1 p2 n wn t tc sc uw c1 c2 s (upN ow j v) hf tf) _ _ _ _ dX1_setOwnColours_20 rfl (List.Perm.refl _) hP hS

set_option maxHeartbeats 4000000 in
set_option maxRecDepth 100000 in
theorem m_X1_seesHat (h0 h1 h2 h3 h4 h5 h6 p1 p2 n wn t tc sc : Nat) (uw : Bool) (c1 c2 : Nat) (s ow hf tf : Nat → Nat) (j k : Nat) (hj : j < 5) (hk : k < 5) (hs : ∀ p, p < 5 → s p < 1024) : Mp l yX1_seesHat ws_X1_seesHat 2 40 (dC, dI) (tyL cI cZ cS cW) [.ref h0, .int (nI j), .int (nI k)] (gW cI h0 h1 h2 h3 h4 h5 h6 p1 p2 n wn t tc sc uw c1 c2 s ow hf tf) (fun r => r = bI (!((s j &&& (3 * 2 ^ (k * 2))) == 0))) := by
  refine Mi_of (by decide +kernel) (Nat.le_of_ble_eq_true rfl) ?_
  intro pr ev sx mi ag bl me cd Q ls S hP hK hD hZ hl ret
  obtain ⟨hx, hb, hml, hown, hts⟩ := id S
  have hown : sx.vm.findClass RX1 = some mi.cls := hown
  have hS : va_S (wIn (gW cI h0 h1 h2 h3 h4 h5 h6 p1 p2 n wn t tc sc uw c1 c2 s ow hf tf)) sx.heap sx.heap [] := va_S.rf
  have hl : lv_has ls 3 [(0, .ref h0), (1, .int (nI j)), (2, .int (nI k))] := hl
  refine lv_aload_n hx hb dX1_seesHat_0 rfl (lv_at hl 0 rfl) ?_
  refine lv_iload_n hx hb dX1_seesHat_1 rfl (lv_at hl 1 rfl) ?_
  refine call_Vp (As := [.int (nI j)]) (rest := []) S (m_X1_seenHatsOf h0 h1 h2 h3 h4 h5 h6 p1 p2 n wn t tc sc uw c1 c2 s ow hf tf j (by omega)) g_X1_X1_seenHatsOf hd_X1_seenHatsOf ⟨Nat.le_of_ble_eq_true rfl, Nat.le_of_ble_eq_true rfl⟩ ⟨Nat.zero_le _, Nat.zero_le _⟩ hP hD hK hS hZ [0, 1, 2, 3, 4, 5, 6] rfl (by decide) 0 rfl rfl hl.1 rfl (Nat.le_of_ble_eq_true rfl) dX1_seesHat_2 (fun r H locs hq hP hS => ?_)
  obtain rfl := hq
  refine lv_iload_n hx hb dX1_seesHat_5 rfl (lv_at hl 2 rfl) ?_
  refine call_Sp (As := [.int (nI k)]) (rest := [.int (nI (s j))]) S (m_X1_hatMask k (by omega)) g_X1_X1_hatMask hd_X1_hatMask ⟨Nat.le_of_ble_eq_true rfl, Nat.le_of_ble_eq_true rfl⟩ ⟨Nat.zero_le _, Nat.zero_le _⟩ hP hD hK hS hZ [] rfl (by decide) hl.1 rfl (Nat.le_of_ble_eq_true rfl) dX1_seesHat_6 (fun r H locs hq hP hS => ?_)
  obtain rfl := hq
  refine lv_iand hx hb dX1_seesHat_9 ?_
  refine W_i (y := nI ((s j) &&& (3 * 2 ^ (k * 2)))) (nI_and _ _) ?_
  refine ifN_eq (tgt := 17) hx hb dX1_seesHat_10 (by decide) (lt_31 (and_l (hs j hj))) (fun c_10 => ?_) (fun c_10 => ?_)
  · refine lv_iconst (v := nI 0) hx hb dX1_seesHat_17 (by decide) ?_
    exact ret _ (gW cI h0 h1 h2 h3 h4 h5 h6 p1 p2 n wn t tc sc uw c1 c2 s ow hf tf) _ _ _ _ dX1_seesHat_18 rfl ⟨rfl, bI_f (by simp [c_10])⟩ (List.Perm.refl _) hP hS
  · refine lv_iconst (v := nI 1) hx hb dX1_seesHat_13 (by decide) ?_
    refine lv_goto (tgt := 18) hx hb dX1_seesHat_14 (by decide) ?_
    exact ret _ (gW cI h0 h1 h2 h3 h4 h5 h6 p1 p2 n wn t tc sc uw c1 c2 s ow hf tf) _ _ _ _ dX1_seesHat_18 rfl ⟨rfl, bI_t (by simp [c_10])⟩ (List.Perm.refl _) hP hS

set_option maxHeartbeats 4000000 in
set_option maxRecDepth 100000 in
theorem m_X1_lookAtEachOther (h0 h1 h2 h3 h4 h5 h6 p1 p2 n wn t tc sc : Nat) (uw : Bool) (c1 c2 : Nat) (s ow hf tf : Nat → Nat) (j : Nat) (hj : j < 5) : Mv l yX1_lookAtEachOther ws_X1_lookAtEachOther 2 40 (dC, dI) (tyL cI cZ cS cW) [.ref h0, .int (nI j)] (gW cI h0 h1 h2 h3 h4 h5 h6 p1 p2 n wn t tc sc uw c1 c2 s ow hf tf) (fun u => u = gW cI h0 h1 h2 h3 h4 h5 h6 p1 p2 n wn t tc sc uw c1 c2 (upN (lkS s j j) j (mskN j)) ow hf tf) := by
  refine Mv_of (by decide +kernel) (Nat.le_of_ble_eq_true rfl) ?_
  intro pr ev sx mi ag bl me cd Q ls S hP hK hD hZ hl ret
  obtain ⟨hx, hb, hml, hown, hts⟩ := id S
  have hown : sx.vm.findClass RX1 = some mi.cls := hown
  have hS : va_S (wIn (gW cI h0 h1 h2 h3 h4 h5 h6 p1 p2 n wn t tc sc uw c1 c2 s ow hf tf)) sx.heap sx.heap [] := va_S.rf
  have hl : lv_has ls 4 [(0, .ref h0), (1, .int (nI j))] := hl
  refine lv_iconst (v := nI 0) hx hb dX1_lookAtEachOther_0 (by decide) ?_
  refine lv_istore_n (lv' := [(2, .int (nI 0)), (0, .ref h0), (1, .int (nI j))]) hx hb dX1_lookAtEachOther_1 rfl hl (by decide) rfl (fun ls hl => ?_)
  refine lv_iconst (v := nI 0) hx hb dX1_lookAtEachOther_2 (by decide) ?_
  refine lv_istore_n (lv' := [(3, .int (nI 0)), (2, .int (nI 0)), (0, .ref h0), (1, .int (nI j))]) hx hb dX1_lookAtEachOther_3 rfl hl (by decide) rfl (fun ls hl => ?_)
  have lp4 : ∀ (kf : Nat) (i : Nat) (a : Nat) (g : Nat → Nat), j < i + kf → (i ≤ j) → (a = mskN i) → (g = lkS s j i) → ∀ (H : Heap) (locs : List Loc), va_P (dC, dI) vwCl (gW cI h0 h1 h2 h3 h4 h5 h6 p1 p2 n wn t tc sc uw c1 c2 g ow hf tf) H → va_D (wIn (gW cI h0 h1 h2 h3 h4 h5 h6 p1 p2 n wn t tc sc uw c1 c2 s ow hf tf)) (gW cI h0 h1 h2 h3 h4 h5 h6 p1 p2 n wn t tc sc uw c1 c2 g ow hf tf) → va_S (wIn (gW cI h0 h1 h2 h3 h4 h5 h6 p1 p2 n wn t tc sc uw c1 c2 s ow hf tf)) sx.heap H locs → ∀ ls : Array Slot, lv_has ls 4 [(3, .int (nI i)), (2, .int (nI a)), (0, .ref h0), (1, .int (nI j))] → W pr l ev (rmB 2 40) sx mi ag bl me cd H locs 0 0 Q (F0 mi 4 ls []) := by
    intro kf
    induction kf with
    | zero => intro i a g hkf hi ha hg; exact absurd hkf (by omega)
    | succ kf ih4 =>
      intro i a g hkf hi ha hg H locs hP hD hS ls hl
      refine lv_iload_n hx hb dX1_lookAtEachOther_4 rfl (lv_at hl 0 rfl) ?_
      refine lv_iload_n hx hb dX1_lookAtEachOther_5 rfl (lv_at hl 3 rfl) ?_
      refine icN_ge (tgt := 37) hx hb dX1_lookAtEachOther_6 (by decide) (by omega) (by omega) (fun c_6 => ?_) (fun c_6 => ?_)
      · refine lv_aload_n hx hb dX1_lookAtEachOther_37 rfl (lv_at hl 2 rfl) ?_
        refine lv_iload_n hx hb dX1_lookAtEachOther_38 rfl (lv_at hl 3 rfl) ?_
        refine lv_iload_n hx hb dX1_lookAtEachOther_39 rfl (lv_at hl 1 rfl) ?_
        refine call_Vv (As := [.int (nI j), .int (nI a)]) (wr := []) (rest := []) S (m_X1_setSeenHatsOf h0 h1 h2 h3 h4 h5 h6 p1 p2 n wn t tc sc uw c1 c2 g ow hf tf j a (by omega)) g_X1_X1_setSeenHatsOf hd_X1_setSeenHatsOf ⟨Nat.le_of_ble_eq_true rfl, Nat.le_of_ble_eq_true rfl⟩ ⟨Nat.zero_le _, Nat.zero_le _⟩ hP hD hK hS hZ [0, 1, 2, 3, 4, 5, 6] [] rfl rfl (by decide) 0 rfl rfl hl.1 rfl (Nat.le_of_ble_eq_true rfl) dX1_lookAtEachOther_40 (fun u H locs hq hP hD hS => ?_)
        obtain rfl := hq
        have hP : va_P (dC, dI) vwCl (gW cI h0 h1 h2 h3 h4 h5 h6 p1 p2 n wn t tc sc uw c1 c2 (upN g j a) ow hf tf) H := hP
        have hD : va_D (wIn (gW cI h0 h1 h2 h3 h4 h5 h6 p1 p2 n wn t tc sc uw c1 c2 s ow hf tf)) (gW cI h0 h1 h2 h3 h4 h5 h6 p1 p2 n wn t tc sc uw c1 c2 (upN g j a) ow hf tf) := hD
        exact ret (gW cI h0 h1 h2 h3 h4 h5 h6 p1 p2 n wn t tc sc uw c1 c2 (upN g j a) ow hf tf) _ _ _ _ dX1_lookAtEachOther_43 (by rw [ha, hg, show i = j by omega]) (List.Perm.refl _) hP hS
      · refine lv_aload_n hx hb dX1_lookAtEachOther_9 rfl (lv_at hl 2 rfl) ?_
        refine lv_iload_n hx hb dX1_lookAtEachOther_10 rfl (lv_at hl 0 rfl) ?_
        refine lv_aload_n hx hb dX1_lookAtEachOther_11 rfl (lv_at hl 2 rfl) ?_
        refine lv_iload_n hx hb dX1_lookAtEachOther_12 rfl (lv_at hl 0 rfl) ?_
        refine call_Vp (As := [.int (nI i)]) (rest := [.int (nI i), .ref h0]) S (m_X1_seenHatsOf h0 h1 h2 h3 h4 h5 h6 p1 p2 n wn t tc sc uw c1 c2 g ow hf tf i (by omega)) g_X1_X1_seenHatsOf hd_X1_seenHatsOf ⟨Nat.le_of_ble_eq_true rfl, Nat.le_of_ble_eq_true rfl⟩ ⟨Nat.zero_le _, Nat.zero_le _⟩ hP hD hK hS hZ [0, 1, 2, 3, 4, 5, 6] rfl (by decide) 0 rfl rfl hl.1 rfl (Nat.le_of_ble_eq_true rfl) dX1_lookAtEachOther_13 (fun r H locs hq hP hS => ?_)
        obtain rfl := hq
        refine lv_iload_n hx hb dX1_lookAtEachOther_16 rfl (lv_at hl 3 rfl) ?_
        refine call_Sp (As := [.int (nI j)]) (rest := [.int (nI (g i)), .int (nI i), .ref h0]) S (m_X1_hatMask j (by omega)) g_X1_X1_hatMask hd_X1_hatMask ⟨Nat.le_of_ble_eq_true rfl, Nat.le_of_ble_eq_true rfl⟩ ⟨Nat.zero_le _, Nat.zero_le _⟩ hP hD hK hS hZ [] rfl (by decide) hl.1 rfl (Nat.le_of_ble_eq_true rfl) dX1_lookAtEachOther_17 (fun r H locs hq hP hS => ?_)
        obtain rfl := hq
        refine lv_ior hx hb dX1_lookAtEachOther_20 ?_
        refine W_i (y := nI ((g i) ||| (3 * 2 ^ (j * 2)))) (nI_or _ _) ?_
        refine call_Vv (As := [.int (nI i), .int (nI ((g i) ||| (3 * 2 ^ (j * 2))))]) (wr := []) (rest := []) S (m_X1_setSeenHatsOf h0 h1 h2 h3 h4 h5 h6 p1 p2 n wn t tc sc uw c1 c2 g ow hf tf i ((g i) ||| (3 * 2 ^ (j * 2))) (by omega)) g_X1_X1_setSeenHatsOf hd_X1_setSeenHatsOf ⟨Nat.le_of_ble_eq_true rfl, Nat.le_of_ble_eq_true rfl⟩ ⟨Nat.zero_le _, Nat.zero_le _⟩ hP hD hK hS hZ [0, 1, 2, 3, 4, 5, 6] [] rfl rfl (by decide) 0 rfl rfl hl.1 rfl (Nat.le_of_ble_eq_true rfl) dX1_lookAtEachOther_21 (fun u H locs hq hP hD hS => ?_)
        obtain rfl := hq
        have hP : va_P (dC, dI) vwCl (gW cI h0 h1 h2 h3 h4 h5 h6 p1 p2 n wn t tc sc uw c1 c2 (upN g i ((g i) ||| (3 * 2 ^ (j * 2)))) ow hf tf) H := hP
        have hD : va_D (wIn (gW cI h0 h1 h2 h3 h4 h5 h6 p1 p2 n wn t tc sc uw c1 c2 s ow hf tf)) (gW cI h0 h1 h2 h3 h4 h5 h6 p1 p2 n wn t tc sc uw c1 c2 (upN g i ((g i) ||| (3 * 2 ^ (j * 2)))) ow hf tf) := hD
        refine lv_iload_n hx hb dX1_lookAtEachOther_24 rfl (lv_at hl 1 rfl) ?_
        refine lv_iload_n hx hb dX1_lookAtEachOther_25 rfl (lv_at hl 0 rfl) ?_
        refine call_Sp (As := [.int (nI i)]) (rest := [.int (nI a)]) S (m_X1_hatMask i (by omega)) g_X1_X1_hatMask hd_X1_hatMask ⟨Nat.le_of_ble_eq_true rfl, Nat.le_of_ble_eq_true rfl⟩ ⟨Nat.zero_le _, Nat.zero_le _⟩ hP hD hK hS hZ [] rfl (by decide) hl.1 rfl (Nat.le_of_ble_eq_true rfl) dX1_lookAtEachOther_26 (fun r H locs hq hP hS => ?_)
        obtain rfl := hq
        refine lv_ior hx hb dX1_lookAtEachOther_29 ?_
        refine W_i (y := nI (a ||| (3 * 2 ^ (i * 2)))) (nI_or _ _) ?_
        refine lv_istore_n (lv' := [(2, .int (nI (a ||| (3 * 2 ^ (i * 2))))), (3, .int (nI i)), (0, .ref h0), (1, .int (nI j))]) hx hb dX1_lookAtEachOther_30 rfl hl (by decide) rfl (fun ls hl => ?_)
        refine lv_iinc (v := nI (i + 1)) (lv' := [(3, .int (nI (i + 1))), (2, .int (nI (a ||| (3 * 2 ^ (i * 2))))), (0, .ref h0), (1, .int (nI j))]) hx hb dX1_lookAtEachOther_31 hl (k := 1) rfl (nI_add _ _) (by decide) rfl (fun ls hl => ?_)
        refine lv_goto (tgt := 4) hx hb dX1_lookAtEachOther_34 (by decide) ?_
        exact ih4 (i + 1) _ _ (by omega) (by omega) (by rw [ha]; rfl) (by rw [hg]; exact lkS_s s j i) _ _ hP hD hS _ (lv_sub hl [0, 1, 2, 3] rfl)
  exact lp4 (j + 1) 0 0 s (by omega) (by omega) rfl (by funext k; simp [lkS]) _ _ hP hD hS _ (lv_sub hl [0, 1, 2, 3] rfl)

set_option maxHeartbeats 4000000 in
set_option maxRecDepth 100000 in
theorem m_X1_viewOf (h0 h1 h2 h3 h4 h5 h6 p1 p2 n wn t tc sc : Nat) (uw : Bool) (c1 c2 : Nat) (s ow hf tf : Nat → Nat) (x j : Nat) (hj : j < 5) : Mp l yX1_viewOf ws_X1_viewOf 1 21 (dC, dI) (tyL cI cZ cS cW) [.ref h0, .int (nI x), .int (nI j)] (gW cI h0 h1 h2 h3 h4 h5 h6 p1 p2 n wn t tc sc uw c1 c2 s ow hf tf) (fun r => r = nI (vw x (s j))) := by
  refine Mi_of (by decide +kernel) (Nat.le_of_ble_eq_true rfl) ?_
  intro pr ev sx mi ag bl me cd Q ls S hP hK hD hZ hl ret
  obtain ⟨hx, hb, hml, hown, hts⟩ := id S
  have hown : sx.vm.findClass RX1 = some mi.cls := hown
  have hS : va_S (wIn (gW cI h0 h1 h2 h3 h4 h5 h6 p1 p2 n wn t tc sc uw c1 c2 s ow hf tf)) sx.heap sx.heap [] := va_S.rf
  have hl : lv_has ls 3 [(0, .ref h0), (1, .int (nI x)), (2, .int (nI j))] := hl
  refine lv_iload_n hx hb dX1_viewOf_0 rfl (lv_at hl 1 rfl) ?_
  refine lv_aload_n hx hb dX1_viewOf_1 rfl (lv_at hl 0 rfl) ?_
  refine lv_iload_n hx hb dX1_viewOf_2 rfl (lv_at hl 2 rfl) ?_
  refine call_Vp (As := [.int (nI j)]) (rest := [.int (nI x)]) S (m_X1_seenHatsOf h0 h1 h2 h3 h4 h5 h6 p1 p2 n wn t tc sc uw c1 c2 s ow hf tf j (by omega)) g_X1_X1_seenHatsOf hd_X1_seenHatsOf ⟨Nat.le_of_ble_eq_true rfl, Nat.le_of_ble_eq_true rfl⟩ ⟨Nat.zero_le _, Nat.zero_le _⟩ hP hD hK hS hZ [0, 1, 2, 3, 4, 5, 6] rfl (by decide) 0 rfl rfl hl.1 rfl (Nat.le_of_ble_eq_true rfl) dX1_viewOf_3 (fun r H locs hq hP hS => ?_)
  obtain rfl := hq
  refine lv_iand hx hb dX1_viewOf_6 ?_
  refine W_i (y := nI (x &&& (s j))) (nI_and _ _) ?_
  refine lv_sipush (v := nI 1023) hx hb dX1_viewOf_7 (by decide) ?_
  refine lv_iand hx hb dX1_viewOf_10 ?_
  refine W_i (y := nI ((x &&& (s j)) &&& 1023)) (nI_and _ _) ?_
  exact ret _ (gW cI h0 h1 h2 h3 h4 h5 h6 p1 p2 n wn t tc sc uw c1 c2 s ow hf tf) _ _ _ _ dX1_viewOf_11 rfl ⟨rfl, rfl⟩ (List.Perm.refl _) hP hS

set_option maxHeartbeats 4000000 in
set_option maxRecDepth 100000 in
theorem m_X1_agreesWithNow (h0 h1 h2 h3 h4 h5 h6 p1 p2 n wn t tc sc : Nat) (uw : Bool) (c1 c2 : Nat) (s ow hf tf : Nat → Nat) (x k : Nat) (hx2 : x < 1024) (hw : wn < 1024) : Mp l yX1_agreesWithNow ws_X1_agreesWithNow 0 0 (dC, dI) (tyL cI cZ cS cW) [.ref h0, .int (nI x), .int (nI k)] (gW cI h0 h1 h2 h3 h4 h5 h6 p1 p2 n wn t tc sc uw c1 c2 s ow hf tf) (fun r => r = bI (agr wn x k)) := by
  refine Mi_of (by decide +kernel) (Nat.le_of_ble_eq_true rfl) ?_
  intro pr ev sx mi ag bl me cd Q ls S hP hK hD hZ hl ret
  obtain ⟨hx, hb, hml, hown, hts⟩ := id S
  have hown : sx.vm.findClass RX1 = some mi.cls := hown
  have hS : va_S (wIn (gW cI h0 h1 h2 h3 h4 h5 h6 p1 p2 n wn t tc sc uw c1 c2 s ow hf tf)) sx.heap sx.heap [] := va_S.rf
  have hl : lv_has ls 3 [(0, .ref h0), (1, .int (nI x)), (2, .int (nI k))] := hl
  refine lv_iload_n hx hb dX1_agreesWithNow_0 rfl (lv_at hl 1 rfl) ?_
  refine lv_aload_n hx hb dX1_agreesWithNow_1 rfl (lv_at hl 0 rfl) ?_
  refine va_get (D := (dC, dI)) (ci := 1) (v := .int (nI wn)) (C := RX1) (T := TX1) (N := 10) hx hb hts inX1 hown hK hP 0 rfl rfl 5 (by decide) (hts _ q_fl_X1_30) (fun _ h9 => h9) rfl dX1_agreesWithNow_2 ?_
  refine lv_ixor hx hb dX1_agreesWithNow_5 ?_
  refine W_i (y := nI (x ^^^ wn)) (nI_xor _ _) ?_
  refine lv_iload_n hx hb dX1_agreesWithNow_6 rfl (lv_at hl 2 rfl) ?_
  refine lv_iand hx hb dX1_agreesWithNow_7 ?_
  refine W_i (y := nI ((x ^^^ wn) &&& k)) (nI_and _ _) ?_
  refine ifN_ne (tgt := 15) hx hb dX1_agreesWithNow_8 (by decide) (lt_31 (and_l (xor_k hx2 hw))) (fun c_8 => ?_) (fun c_8 => ?_)
  · refine lv_iconst (v := nI 0) hx hb dX1_agreesWithNow_15 (by decide) ?_
    exact ret _ (gW cI h0 h1 h2 h3 h4 h5 h6 p1 p2 n wn t tc sc uw c1 c2 s ow hf tf) _ _ _ _ dX1_agreesWithNow_16 rfl ⟨rfl, bI_f (by simp [agr, c_8])⟩ (List.Perm.refl _) hP hS
  · refine lv_iconst (v := nI 1) hx hb dX1_agreesWithNow_11 (by decide) ?_
    refine lv_goto (tgt := 16) hx hb dX1_agreesWithNow_12 (by decide) ?_
    exact ret _ (gW cI h0 h1 h2 h3 h4 h5 h6 p1 p2 n wn t tc sc uw c1 c2 s ow hf tf) _ _ _ _ dX1_agreesWithNow_16 rfl ⟨rfl, bI_t (by simp [agr, c_8])⟩ (List.Perm.refl _) hP hS

end
end
section
section
variable {l : Launch} {dC : Nat → ClassId} {dI : Nat → Nat → Nat} {cI cZ cS cW : ClassId}

set_option maxHeartbeats 4000000 in
set_option maxRecDepth 100000 in
theorem m_X1_countWithHat (h0 h1 h2 h3 h4 h5 h6 p2 n wn t tc sc : Nat) (uw : Bool) (c1 c2 : Nat) (s ow hf tf : Nat → Nat) (j co : Nat) (hj : j < 5) (hco : co < 4) (hc1 : c1 ≤ 243) (hb1 : ∀ j, j < c1 → hf j < 1024) : Mp l yX1_countWithHat ws_X1_countWithHat 1 21 (dC, dI) (tyL cI cZ cS cW) [.ref h0, .int (nI j), .int (nI co)] (gW cI h0 h1 h2 h3 h4 h5 h6 h1 p2 n wn t tc sc uw c1 c2 s ow hf tf) (fun r => r = nI ((Lof hf c1).countP (fun x => qd x j == co))) := by
  refine Mi_of (by decide +kernel) (Nat.le_of_ble_eq_true rfl) ?_
  intro pr ev sx mi ag bl me cd Q ls S hP hK hD hZ hl ret
  obtain ⟨hx, hb, hml, hown, hts⟩ := id S
  have hown : sx.vm.findClass RX1 = some mi.cls := hown
  have hS : va_S (wIn (gW cI h0 h1 h2 h3 h4 h5 h6 h1 p2 n wn t tc sc uw c1 c2 s ow hf tf)) sx.heap sx.heap [] := va_S.rf
  have hl : lv_has ls 5 [(0, .ref h0), (1, .int (nI j)), (2, .int (nI co))] := hl
  refine lv_iconst (v := nI 0) hx hb dX1_countWithHat_0 (by decide) ?_
  refine lv_istore_n (lv' := [(3, .int (nI 0)), (0, .ref h0), (1, .int (nI j)), (2, .int (nI co))]) hx hb dX1_countWithHat_1 rfl hl (by decide) rfl (fun ls hl => ?_)
  refine lv_iconst (v := nI 0) hx hb dX1_countWithHat_2 (by decide) ?_
  refine lv_istore (lv' := [(4, .int (nI 0)), (3, .int (nI 0)), (0, .ref h0), (1, .int (nI j)), (2, .int (nI co))]) hx hb dX1_countWithHat_3 hl (by decide) rfl (fun ls hl => ?_)
  have lp5 : ∀ (kf : Nat) (i : Nat) (a : Nat), c1 < i + kf → (i ≤ c1) → (a = (Lof hf i).countP (fun x => qd x j == co)) → ∀ (H : Heap) (locs : List Loc), va_P (dC, dI) vwCl (gW cI h0 h1 h2 h3 h4 h5 h6 h1 p2 n wn t tc sc uw c1 c2 s ow hf tf) H → va_D (wIn (gW cI h0 h1 h2 h3 h4 h5 h6 h1 p2 n wn t tc sc uw c1 c2 s ow hf tf)) (gW cI h0 h1 h2 h3 h4 h5 h6 h1 p2 n wn t tc sc uw c1 c2 s ow hf tf) → va_S (wIn (gW cI h0 h1 h2 h3 h4 h5 h6 h1 p2 n wn t tc sc uw c1 c2 s ow hf tf)) sx.heap H locs → ∀ ls : Array Slot, lv_has ls 5 [(4, .int (nI i)), (3, .int (nI a)), (0, .ref h0), (1, .int (nI j)), (2, .int (nI co))] → W pr l ev (rmB 1 21) sx mi ag bl me cd H locs 0 0 Q (F0 mi 5 ls []) := by
    intro kf
    induction kf with
    | zero => intro i a hkf hi ha; exact absurd hkf (by omega)
    | succ kf ih5 =>
      intro i a hkf hi ha H locs hP hD hS ls hl
      refine lv_iload hx hb dX1_countWithHat_5 (lv_at hl 0 rfl) ?_
      refine lv_aload_n hx hb dX1_countWithHat_7 rfl (lv_at hl 2 rfl) ?_
      refine va_get (D := (dC, dI)) (ci := 1) (v := .ref h1) (C := RX1) (T := TX1) (N := 10) hx hb hts inX1 hown hK hP 0 rfl rfl 0 (by decide) (hts _ q_fl_X1_10) (fun _ h9 => h9) rfl dX1_countWithHat_8 ?_
      refine call_Vp (As := []) (rest := [.int (nI i)]) S (m_X0_count h1 h5 c1 hf) g_X1_X0_count hd_X0_count ⟨Nat.le_of_ble_eq_true rfl, Nat.le_of_ble_eq_true rfl⟩ ⟨Nat.zero_le _, Nat.zero_le _⟩ hP hD hK hS hZ [1, 5] rfl (by decide) 0 rfl rfl hl.1 rfl (Nat.le_of_ble_eq_true rfl) dX1_countWithHat_11 (fun r H locs hq hP hS => ?_)
      obtain rfl := hq
      refine icN_ge (tgt := 43) hx hb dX1_countWithHat_14 (by decide) (by omega) (by omega) (fun c_14 => ?_) (fun c_14 => ?_)
      · refine lv_iload_n hx hb dX1_countWithHat_43 rfl (lv_at hl 1 rfl) ?_
        exact ret _ (gW cI h0 h1 h2 h3 h4 h5 h6 h1 p2 n wn t tc sc uw c1 c2 s ow hf tf) _ _ _ _ dX1_countWithHat_44 rfl ⟨rfl, by rw [ha, show i = c1 by omega]⟩ (List.Perm.refl _) hP hS
      · refine lv_aload_n hx hb dX1_countWithHat_17 rfl (lv_at hl 2 rfl) ?_
        refine va_get (D := (dC, dI)) (ci := 1) (v := .ref h1) (C := RX1) (T := TX1) (N := 10) hx hb hts inX1 hown hK hP 0 rfl rfl 0 (by decide) (hts _ q_fl_X1_10) (fun _ h9 => h9) rfl dX1_countWithHat_18 ?_
        refine lv_iload hx hb dX1_countWithHat_21 (lv_at hl 0 rfl) ?_
        refine call_Vp (As := [.int (nI i)]) (rest := []) S (m_X0_at h1 h5 c1 hf i (by omega)) g_X1_X0_at hd_X0_at ⟨Nat.le_of_ble_eq_true rfl, Nat.le_of_ble_eq_true rfl⟩ ⟨Nat.zero_le _, Nat.zero_le _⟩ hP hD hK hS hZ [1, 5] rfl (by decide) 0 rfl rfl hl.1 rfl (Nat.le_of_ble_eq_true rfl) dX1_countWithHat_23 (fun r H locs hq hP hS => ?_)
        obtain rfl := hq
        refine lv_iload_n hx hb dX1_countWithHat_26 rfl (lv_at hl 3 rfl) ?_
        refine call_Sp (As := [.int (nI (hf i)), .int (nI j)]) (rest := []) S (m_X1_colourIn (hf i) j (hb1 _ (by omega)) (by omega)) g_X1_X1_colourIn hd_X1_colourIn ⟨Nat.le_of_ble_eq_true rfl, Nat.le_of_ble_eq_true rfl⟩ ⟨Nat.zero_le _, Nat.zero_le _⟩ hP hD hK hS hZ [] rfl (by decide) hl.1 rfl (Nat.le_of_ble_eq_true rfl) dX1_countWithHat_27 (fun r H locs hq hP hS => ?_)
        obtain rfl := hq
        refine lv_iload_n hx hb dX1_countWithHat_30 rfl (lv_at hl 4 rfl) ?_
        refine icN_ne (tgt := 37) hx hb dX1_countWithHat_31 (by decide) (by have := qd_lt (hf i) j; omega) (by omega) (fun c_31 => ?_) (fun c_31 => ?_)
        · refine lv_iinc (v := nI (i + 1)) (lv' := [(4, .int (nI (i + 1))), (3, .int (nI a)), (0, .ref h0), (1, .int (nI j)), (2, .int (nI co))]) hx hb dX1_countWithHat_37 hl (k := 0) rfl (nI_add _ _) (by decide) rfl (fun ls hl => ?_)
          refine lv_goto (tgt := 5) hx hb dX1_countWithHat_40 (by decide) ?_
          exact ih5 (i + 1) _ (by omega) (by omega) (cnt_f (by simp [c_31]) ha) _ _ hP hD hS _ (lv_sub hl [0, 1, 2, 3, 4] rfl)
        · refine lv_iinc (v := nI (a + 1)) (lv' := [(3, .int (nI (a + 1))), (4, .int (nI i)), (0, .ref h0), (1, .int (nI j)), (2, .int (nI co))]) hx hb dX1_countWithHat_34 hl (k := 1) rfl (nI_add _ _) (by decide) rfl (fun ls hl => ?_)
          refine lv_iinc (v := nI (i + 1)) (lv' := [(4, .int (nI (i + 1))), (3, .int (nI (a + 1))), (0, .ref h0), (1, .int (nI j)), (2, .int (nI co))]) hx hb dX1_countWithHat_37 hl (k := 1) rfl (nI_add _ _) (by decide) rfl (fun ls hl => ?_)
          refine lv_goto (tgt := 5) hx hb dX1_countWithHat_40 (by decide) ?_
          exact ih5 (i + 1) _ (by omega) (by omega) (cnt_t (by simp [c_31]) ha) _ _ hP hD hS _ (lv_sub hl [0, 1, 2, 3, 4] rfl)
  exact lp5 (c1 + 1) 0 0 (by omega) (by omega) rfl _ _ hP hD hS _ (lv_sub hl [0, 1, 2, 3, 4] rfl)


set_option maxHeartbeats 4000000 in
set_option maxRecDepth 100000 in
theorem m_X1_countPossible (h0 h1 h2 h3 h4 h5 h6 p2 n wn t tc sc : Nat) (uw : Bool) (c1 c2 : Nat) (s ow hf tf : Nat → Nat) (j : Nat) (hj : j < 5) (hw : wn < 1024) (hc1 : c1 ≤ 243) (hb1 : ∀ j, j < c1 → hf j < 1024) : Mp l yX1_countPossible ws_X1_countPossible 1 22 (dC, dI) (tyL cI cZ cS cW) [.ref h0, .int (nI j)] (gW cI h0 h1 h2 h3 h4 h5 h6 h1 p2 n wn t tc sc uw c1 c2 s ow hf tf) (fun r => r = nI ((Lof hf c1).countP (fun x => agr wn x (s j)))) := by
  refine Mi_of (by decide +kernel) (Nat.le_of_ble_eq_true rfl) ?_
  intro pr ev sx mi ag bl me cd Q ls S hP hK hD hZ hl ret
  obtain ⟨hx, hb, hml, hown, hts⟩ := id S
  have hown : sx.vm.findClass RX1 = some mi.cls := hown
  have hS : va_S (wIn (gW cI h0 h1 h2 h3 h4 h5 h6 h1 p2 n wn t tc sc uw c1 c2 s ow hf tf)) sx.heap sx.heap [] := va_S.rf
  have hl : lv_has ls 5 [(0, .ref h0), (1, .int (nI j))] := hl
  refine lv_iconst (v := nI 0) hx hb dX1_countPossible_0 (by decide) ?_
  refine lv_istore_n (lv' := [(2, .int (nI 0)), (0, .ref h0), (1, .int (nI j))]) hx hb dX1_countPossible_1 rfl hl (by decide) rfl (fun ls hl => ?_)
  refine lv_aload_n hx hb dX1_countPossible_2 rfl (lv_at hl 1 rfl) ?_
  refine lv_iload_n hx hb dX1_countPossible_3 rfl (lv_at hl 2 rfl) ?_
  refine call_Vp (As := [.int (nI j)]) (rest := []) S (m_X1_seenHatsOf h0 h1 h2 h3 h4 h5 h6 h1 p2 n wn t tc sc uw c1 c2 s ow hf tf j (by omega)) g_X1_X1_seenHatsOf hd_X1_seenHatsOf ⟨Nat.le_of_ble_eq_true rfl, Nat.le_of_ble_eq_true rfl⟩ ⟨Nat.zero_le _, Nat.zero_le _⟩ hP hD hK hS hZ [0, 1, 2, 3, 4, 5, 6] rfl (by decide) 0 rfl rfl hl.1 rfl (Nat.le_of_ble_eq_true rfl) dX1_countPossible_4 (fun r H locs hq hP hS => ?_)
  obtain rfl := hq
  refine lv_istore_n (lv' := [(3, .int (nI (s j))), (2, .int (nI 0)), (0, .ref h0), (1, .int (nI j))]) hx hb dX1_countPossible_7 rfl hl (by decide) rfl (fun ls hl => ?_)
  refine lv_iconst (v := nI 0) hx hb dX1_countPossible_8 (by decide) ?_
  refine lv_istore (lv' := [(4, .int (nI 0)), (3, .int (nI (s j))), (2, .int (nI 0)), (0, .ref h0), (1, .int (nI j))]) hx hb dX1_countPossible_9 hl (by decide) rfl (fun ls hl => ?_)
  have lp11 : ∀ (kf : Nat) (i : Nat) (a : Nat), c1 < i + kf → (i ≤ c1) → (a = (Lof hf i).countP (fun x => agr wn x (s j))) → ∀ (H : Heap) (locs : List Loc), va_P (dC, dI) vwCl (gW cI h0 h1 h2 h3 h4 h5 h6 h1 p2 n wn t tc sc uw c1 c2 s ow hf tf) H → va_D (wIn (gW cI h0 h1 h2 h3 h4 h5 h6 h1 p2 n wn t tc sc uw c1 c2 s ow hf tf)) (gW cI h0 h1 h2 h3 h4 h5 h6 h1 p2 n wn t tc sc uw c1 c2 s ow hf tf) → va_S (wIn (gW cI h0 h1 h2 h3 h4 h5 h6 h1 p2 n wn t tc sc uw c1 c2 s ow hf tf)) sx.heap H locs → ∀ ls : Array Slot, lv_has ls 5 [(4, .int (nI i)), (3, .int (nI (s j))), (2, .int (nI a)), (0, .ref h0), (1, .int (nI j))] → W pr l ev (rmB 1 22) sx mi ag bl me cd H locs 0 0 Q (F0 mi 11 ls []) := by
    intro kf
    induction kf with
    | zero => intro i a hkf hi ha; exact absurd hkf (by omega)
    | succ kf ih11 =>
      intro i a hkf hi ha H locs hP hD hS ls hl
      refine lv_iload hx hb dX1_countPossible_11 (lv_at hl 0 rfl) ?_
      refine lv_aload_n hx hb dX1_countPossible_13 rfl (lv_at hl 3 rfl) ?_
      refine va_get (D := (dC, dI)) (ci := 1) (v := .ref h1) (C := RX1) (T := TX1) (N := 10) hx hb hts inX1 hown hK hP 0 rfl rfl 0 (by decide) (hts _ q_fl_X1_10) (fun _ h9 => h9) rfl dX1_countPossible_14 ?_
      refine call_Vp (As := []) (rest := [.int (nI i)]) S (m_X0_count h1 h5 c1 hf) g_X1_X0_count hd_X0_count ⟨Nat.le_of_ble_eq_true rfl, Nat.le_of_ble_eq_true rfl⟩ ⟨Nat.zero_le _, Nat.zero_le _⟩ hP hD hK hS hZ [1, 5] rfl (by decide) 0 rfl rfl hl.1 rfl (Nat.le_of_ble_eq_true rfl) dX1_countPossible_17 (fun r H locs hq hP hS => ?_)
      obtain rfl := hq
      refine icN_ge (tgt := 49) hx hb dX1_countPossible_20 (by decide) (by omega) (by omega) (fun c_20 => ?_) (fun c_20 => ?_)
      · refine lv_iload_n hx hb dX1_countPossible_49 rfl (lv_at hl 2 rfl) ?_
        exact ret _ (gW cI h0 h1 h2 h3 h4 h5 h6 h1 p2 n wn t tc sc uw c1 c2 s ow hf tf) _ _ _ _ dX1_countPossible_50 rfl ⟨rfl, by rw [ha, show i = c1 by omega]⟩ (List.Perm.refl _) hP hS
      · refine lv_aload_n hx hb dX1_countPossible_23 rfl (lv_at hl 3 rfl) ?_
        refine lv_aload_n hx hb dX1_countPossible_24 rfl (lv_at hl 3 rfl) ?_
        refine va_get (D := (dC, dI)) (ci := 1) (v := .ref h1) (C := RX1) (T := TX1) (N := 10) hx hb hts inX1 hown hK hP 0 rfl rfl 0 (by decide) (hts _ q_fl_X1_10) (fun _ h9 => h9) rfl dX1_countPossible_25 ?_
        refine lv_iload hx hb dX1_countPossible_28 (lv_at hl 0 rfl) ?_
        refine call_Vp (As := [.int (nI i)]) (rest := [.ref h0]) S (m_X0_at h1 h5 c1 hf i (by omega)) g_X1_X0_at hd_X0_at ⟨Nat.le_of_ble_eq_true rfl, Nat.le_of_ble_eq_true rfl⟩ ⟨Nat.zero_le _, Nat.zero_le _⟩ hP hD hK hS hZ [1, 5] rfl (by decide) 0 rfl rfl hl.1 rfl (Nat.le_of_ble_eq_true rfl) dX1_countPossible_30 (fun r H locs hq hP hS => ?_)
        obtain rfl := hq
        refine lv_iload_n hx hb dX1_countPossible_33 rfl (lv_at hl 1 rfl) ?_
        refine call_Vp (As := [.int (nI (hf i)), .int (nI (s j))]) (rest := []) S (m_X1_agreesWithNow h0 h1 h2 h3 h4 h5 h6 h1 p2 n wn t tc sc uw c1 c2 s ow hf tf (hf i) (s j) (hb1 _ (by omega)) hw) g_X1_X1_agreesWithNow hd_X1_agreesWithNow ⟨Nat.le_of_ble_eq_true rfl, Nat.le_of_ble_eq_true rfl⟩ ⟨Nat.zero_le _, Nat.zero_le _⟩ hP hD hK hS hZ [0, 1, 2, 3, 4, 5, 6] rfl (by decide) 0 rfl rfl hl.1 rfl (Nat.le_of_ble_eq_true rfl) dX1_countPossible_34 (fun r H locs hq hP hS => ?_)
        obtain rfl := hq
        refine ifB_eq (tgt := 43) hx hb dX1_countPossible_37 (by decide) (fun c_37 => ?_) (fun c_37 => ?_)
        · refine lv_iinc (v := nI (i + 1)) (lv' := [(4, .int (nI (i + 1))), (3, .int (nI (s j))), (2, .int (nI a)), (0, .ref h0), (1, .int (nI j))]) hx hb dX1_countPossible_43 hl (k := 0) rfl (nI_add _ _) (by decide) rfl (fun ls hl => ?_)
          refine lv_goto (tgt := 11) hx hb dX1_countPossible_46 (by decide) ?_
          exact ih11 (i + 1) _ (by omega) (by omega) (cnt_f c_37 ha) _ _ hP hD hS _ (lv_sub hl [0, 1, 2, 3, 4] rfl)
        · refine lv_iinc (v := nI (a + 1)) (lv' := [(2, .int (nI (a + 1))), (4, .int (nI i)), (3, .int (nI (s j))), (0, .ref h0), (1, .int (nI j))]) hx hb dX1_countPossible_40 hl (k := 2) rfl (nI_add _ _) (by decide) rfl (fun ls hl => ?_)
          refine lv_iinc (v := nI (i + 1)) (lv' := [(4, .int (nI (i + 1))), (2, .int (nI (a + 1))), (3, .int (nI (s j))), (0, .ref h0), (1, .int (nI j))]) hx hb dX1_countPossible_43 hl (k := 1) rfl (nI_add _ _) (by decide) rfl (fun ls hl => ?_)
          refine lv_goto (tgt := 11) hx hb dX1_countPossible_46 (by decide) ?_
          exact ih11 (i + 1) _ (by omega) (by omega) (cnt_t c_37 ha) _ _ hP hD hS _ (lv_sub hl [0, 2, 1, 3, 4] rfl)
  exact lp11 (c1 + 1) 0 0 (by omega) (by omega) rfl _ _ hP hD hS _ (lv_sub hl [0, 1, 2, 3, 4] rfl)

set_option maxHeartbeats 4000000 in
set_option maxRecDepth 100000 in
theorem m_X1_possibleColours (h0 h1 h2 h3 h4 h5 h6 p1 p2 n wn t tc sc : Nat) (uw : Bool) (c1 c2 : Nat) (s ow hf tf : Nat → Nat) (j k : Nat) (hj : j < 5) (hk : k < 5) (hw : wn < 1024) (hc1 : c1 ≤ 243) (hb1 : ∀ j, j < c1 → hf j < 1024) : Mp l yX1_possibleColours ws_X1_possibleColours 1 22 (dC, dI) (tyL cI cZ cS cW) [.ref h0, .ref h1, .int (nI j), .int (nI k)] (gW cI h0 h1 h2 h3 h4 h5 h6 p1 p2 n wn t tc sc uw c1 c2 s ow hf tf) (fun r => r = nI (pcol wn (s j) k (Lof hf c1))) := by
  refine Mi_of (by decide +kernel) (Nat.le_of_ble_eq_true rfl) ?_
  intro pr ev sx mi ag bl me cd Q ls S hP hK hD hZ hl ret
  obtain ⟨hx, hb, hml, hown, hts⟩ := id S
  have hown : sx.vm.findClass RX1 = some mi.cls := hown
  have hS : va_S (wIn (gW cI h0 h1 h2 h3 h4 h5 h6 p1 p2 n wn t tc sc uw c1 c2 s ow hf tf)) sx.heap sx.heap [] := va_S.rf
  have hl : lv_has ls 8 [(0, .ref h0), (1, .ref h1), (2, .int (nI j)), (3, .int (nI k))] := hl
  refine lv_iconst (v := nI 0) hx hb dX1_possibleColours_0 (by decide) ?_
  refine lv_istore (lv' := [(4, .int (nI 0)), (0, .ref h0), (1, .ref h1), (2, .int (nI j)), (3, .int (nI k))]) hx hb dX1_possibleColours_1 hl (by decide) rfl (fun ls hl => ?_)
  refine lv_aload_n hx hb dX1_possibleColours_3 rfl (lv_at hl 1 rfl) ?_
  refine lv_iload_n hx hb dX1_possibleColours_4 rfl (lv_at hl 3 rfl) ?_
  refine call_Vp (As := [.int (nI j)]) (rest := []) S (m_X1_seenHatsOf h0 h1 h2 h3 h4 h5 h6 p1 p2 n wn t tc sc uw c1 c2 s ow hf tf j (by omega)) g_X1_X1_seenHatsOf hd_X1_seenHatsOf ⟨Nat.le_of_ble_eq_true rfl, Nat.le_of_ble_eq_true rfl⟩ ⟨Nat.zero_le _, Nat.zero_le _⟩ hP hD hK hS hZ [0, 1, 2, 3, 4, 5, 6] rfl (by decide) 0 rfl rfl hl.1 rfl (Nat.le_of_ble_eq_true rfl) dX1_possibleColours_5 (fun r H locs hq hP hS => ?_)
  obtain rfl := hq
  refine lv_istore (lv' := [(5, .int (nI (s j))), (4, .int (nI 0)), (0, .ref h0), (1, .ref h1), (2, .int (nI j)), (3, .int (nI k))]) hx hb dX1_possibleColours_8 hl (by decide) rfl (fun ls hl => ?_)
  refine lv_iconst (v := nI 0) hx hb dX1_possibleColours_10 (by decide) ?_
  refine lv_istore (lv' := [(6, .int (nI 0)), (5, .int (nI (s j))), (4, .int (nI 0)), (0, .ref h0), (1, .ref h1), (2, .int (nI j)), (3, .int (nI k))]) hx hb dX1_possibleColours_11 hl (by decide) rfl (fun ls hl => ?_)
  have lp13 : ∀ (kf : Nat) (i : Nat) (a : Nat), c1 < i + kf → (i ≤ c1) → (a = pcol wn (s j) k (Lof hf i)) → ∀ (H : Heap) (locs : List Loc), va_P (dC, dI) vwCl (gW cI h0 h1 h2 h3 h4 h5 h6 p1 p2 n wn t tc sc uw c1 c2 s ow hf tf) H → va_D (wIn (gW cI h0 h1 h2 h3 h4 h5 h6 p1 p2 n wn t tc sc uw c1 c2 s ow hf tf)) (gW cI h0 h1 h2 h3 h4 h5 h6 p1 p2 n wn t tc sc uw c1 c2 s ow hf tf) → va_S (wIn (gW cI h0 h1 h2 h3 h4 h5 h6 p1 p2 n wn t tc sc uw c1 c2 s ow hf tf)) sx.heap H locs → ∀ ls : Array Slot, lv_has ls 8 [(6, .int (nI i)), (5, .int (nI (s j))), (4, .int (nI a)), (0, .ref h0), (1, .ref h1), (2, .int (nI j)), (3, .int (nI k))] → W pr l ev (rmB 1 22) sx mi ag bl me cd H locs 0 0 Q (F0 mi 13 ls []) := by
    intro kf
    induction kf with
    | zero => intro i a hkf hi ha; exact absurd hkf (by omega)
    | succ kf ih13 =>
      intro i a hkf hi ha H locs hP hD hS ls hl
      refine lv_iload hx hb dX1_possibleColours_13 (lv_at hl 0 rfl) ?_
      refine lv_aload_n hx hb dX1_possibleColours_15 rfl (lv_at hl 4 rfl) ?_
      refine call_Vp (As := []) (rest := [.int (nI i)]) S (m_X0_count h1 h5 c1 hf) g_X1_X0_count hd_X0_count ⟨Nat.le_of_ble_eq_true rfl, Nat.le_of_ble_eq_true rfl⟩ ⟨Nat.zero_le _, Nat.zero_le _⟩ hP hD hK hS hZ [1, 5] rfl (by decide) 0 rfl rfl hl.1 rfl (Nat.le_of_ble_eq_true rfl) dX1_possibleColours_16 (fun r H locs hq hP hS => ?_)
      obtain rfl := hq
      refine icN_ge (tgt := 60) hx hb dX1_possibleColours_19 (by decide) (by omega) (by omega) (fun c_19 => ?_) (fun c_19 => ?_)
      · refine lv_iload hx hb dX1_possibleColours_60 (lv_at hl 2 rfl) ?_
        exact ret _ (gW cI h0 h1 h2 h3 h4 h5 h6 p1 p2 n wn t tc sc uw c1 c2 s ow hf tf) _ _ _ _ dX1_possibleColours_62 rfl ⟨rfl, by rw [ha, show i = c1 by omega]⟩ (List.Perm.refl _) hP hS
      · refine lv_aload_n hx hb dX1_possibleColours_22 rfl (lv_at hl 4 rfl) ?_
        refine lv_iload hx hb dX1_possibleColours_23 (lv_at hl 0 rfl) ?_
        refine call_Vp (As := [.int (nI i)]) (rest := []) S (m_X0_at h1 h5 c1 hf i (by omega)) g_X1_X0_at hd_X0_at ⟨Nat.le_of_ble_eq_true rfl, Nat.le_of_ble_eq_true rfl⟩ ⟨Nat.zero_le _, Nat.zero_le _⟩ hP hD hK hS hZ [1, 5] rfl (by decide) 0 rfl rfl hl.1 rfl (Nat.le_of_ble_eq_true rfl) dX1_possibleColours_25 (fun r H locs hq hP hS => ?_)
        obtain rfl := hq
        refine lv_istore (lv' := [(7, .int (nI (hf i))), (6, .int (nI i)), (5, .int (nI (s j))), (4, .int (nI a)), (0, .ref h0), (1, .ref h1), (2, .int (nI j)), (3, .int (nI k))]) hx hb dX1_possibleColours_28 hl (by decide) rfl (fun ls hl => ?_)
        refine lv_aload_n hx hb dX1_possibleColours_30 rfl (lv_at hl 4 rfl) ?_
        refine lv_iload hx hb dX1_possibleColours_31 (lv_at hl 0 rfl) ?_
        refine lv_iload hx hb dX1_possibleColours_33 (lv_at hl 2 rfl) ?_
        refine call_Vp (As := [.int (nI (hf i)), .int (nI (s j))]) (rest := []) S (m_X1_agreesWithNow h0 h1 h2 h3 h4 h5 h6 p1 p2 n wn t tc sc uw c1 c2 s ow hf tf (hf i) (s j) (hb1 _ (by omega)) hw) g_X1_X1_agreesWithNow hd_X1_agreesWithNow ⟨Nat.le_of_ble_eq_true rfl, Nat.le_of_ble_eq_true rfl⟩ ⟨Nat.zero_le _, Nat.zero_le _⟩ hP hD hK hS hZ [0, 1, 2, 3, 4, 5, 6] rfl (by decide) 0 rfl rfl hl.1 rfl (Nat.le_of_ble_eq_true rfl) dX1_possibleColours_35 (fun r H locs hq hP hS => ?_)
        obtain rfl := hq
        refine ifB_eq (tgt := 54) hx hb dX1_possibleColours_38 (by decide) (fun c_38 => ?_) (fun c_38 => ?_)
        · refine lv_iinc (v := nI (i + 1)) (lv' := [(6, .int (nI (i + 1))), (7, .int (nI (hf i))), (5, .int (nI (s j))), (4, .int (nI a)), (0, .ref h0), (1, .ref h1), (2, .int (nI j)), (3, .int (nI k))]) hx hb dX1_possibleColours_54 hl (k := 1) rfl (nI_add _ _) (by decide) rfl (fun ls hl => ?_)
          refine lv_goto (tgt := 13) hx hb dX1_possibleColours_57 (by decide) ?_
          exact ih13 (i + 1) _ (by omega) (by omega) (pcol_f c_38 ha) _ _ hP hD hS _ (lv_sub hl [0, 2, 3, 4, 5, 6, 7] rfl)
        · refine lv_iload hx hb dX1_possibleColours_41 (lv_at hl 3 rfl) ?_
          refine lv_iconst (v := nI 1) hx hb dX1_possibleColours_43 (by decide) ?_
          refine lv_iload hx hb dX1_possibleColours_44 (lv_at hl 0 rfl) ?_
          refine lv_iload_n hx hb dX1_possibleColours_46 rfl (lv_at hl 7 rfl) ?_
          refine call_Sp (As := [.int (nI (hf i)), .int (nI k)]) (rest := [.int (nI 1), .int (nI a)]) S (m_X1_colourIn (hf i) k (hb1 _ (by omega)) (by omega)) g_X1_X1_colourIn hd_X1_colourIn ⟨Nat.le_of_ble_eq_true rfl, Nat.le_of_ble_eq_true rfl⟩ ⟨Nat.zero_le _, Nat.zero_le _⟩ hP hD hK hS hZ [] rfl (by decide) hl.1 rfl (Nat.le_of_ble_eq_true rfl) dX1_possibleColours_47 (fun r H locs hq hP hS => ?_)
          obtain rfl := hq
          refine lv_ishl hx hb dX1_possibleColours_50 ?_
          refine W_i (y := nI (1 * 2 ^ (qd (hf i) k))) (nI_shl _ (by have := qd_lt (hf i) k; omega)) ?_
          refine lv_ior hx hb dX1_possibleColours_51 ?_
          refine W_i (y := nI (a ||| (1 * 2 ^ (qd (hf i) k)))) (nI_or _ _) ?_
          refine lv_istore (lv' := [(4, .int (nI (a ||| (1 * 2 ^ (qd (hf i) k))))), (7, .int (nI (hf i))), (6, .int (nI i)), (5, .int (nI (s j))), (0, .ref h0), (1, .ref h1), (2, .int (nI j)), (3, .int (nI k))]) hx hb dX1_possibleColours_52 hl (by decide) rfl (fun ls hl => ?_)
          refine lv_iinc (v := nI (i + 1)) (lv' := [(6, .int (nI (i + 1))), (4, .int (nI (a ||| (1 * 2 ^ (qd (hf i) k))))), (7, .int (nI (hf i))), (5, .int (nI (s j))), (0, .ref h0), (1, .ref h1), (2, .int (nI j)), (3, .int (nI k))]) hx hb dX1_possibleColours_54 hl (k := 2) rfl (nI_add _ _) (by decide) rfl (fun ls hl => ?_)
          refine lv_goto (tgt := 13) hx hb dX1_possibleColours_57 (by decide) ?_
          exact ih13 (i + 1) _ (by omega) (by omega) (pcol_t c_38 ha) _ _ hP hD hS _ (lv_sub hl [0, 3, 1, 4, 5, 6, 7] rfl)
  exact lp13 (c1 + 1) 0 0 (by omega) (by omega) rfl _ _ hP hD hS _ (lv_sub hl [0, 1, 2, 3, 4, 5, 6] rfl)

def pop16 (b : Nat) : Nat := (b / 8) % 2 + (b / 4) % 2 + (b / 2) % 2 + b % 2
set_option maxRecDepth 100000 in
theorem bc16 : ∀ b, b < 16 → ((((((((nI b - (((((nI b).toUInt32 >>> ((1 : Int32).toUInt32 &&& Int32.toUInt32 31)).toInt32) &&& (1431655765 : Int32)) : Int32)) &&& (858993459 : Int32)) + ((((((nI b - (((((nI b).toUInt32 >>> ((1 : Int32).toUInt32 &&& Int32.toUInt32 31)).toInt32) &&& (1431655765 : Int32)) : Int32))).toUInt32 >>> ((2 : Int32).toUInt32 &&& Int32.toUInt32 31)).toInt32) &&& (858993459 : Int32)) : Int32)) + (((((((nI b - (((((nI b).toUInt32 >>> ((1 : Int32).toUInt32 &&& Int32.toUInt32 31)).toInt32) &&& (1431655765 : Int32)) : Int32)) &&& (858993459 : Int32)) + ((((((nI b - (((((nI b).toUInt32 >>> ((1 : Int32).toUInt32 &&& Int32.toUInt32 31)).toInt32) &&& (1431655765 : Int32)) : Int32))).toUInt32 >>> ((2 : Int32).toUInt32 &&& Int32.toUInt32 31)).toInt32) &&& (858993459 : Int32)) : Int32))).toUInt32 >>> ((4 : Int32).toUInt32 &&& Int32.toUInt32 31)).toInt32) : Int32)) &&& (252645135 : Int32)) + (((((((((nI b - (((((nI b).toUInt32 >>> ((1 : Int32).toUInt32 &&& Int32.toUInt32 31)).toInt32) &&& (1431655765 : Int32)) : Int32)) &&& (858993459 : Int32)) + ((((((nI b - (((((nI b).toUInt32 >>> ((1 : Int32).toUInt32 &&& Int32.toUInt32 31)).toInt32) &&& (1431655765 : Int32)) : Int32))).toUInt32 >>> ((2 : Int32).toUInt32 &&& Int32.toUInt32 31)).toInt32) &&& (858993459 : Int32)) : Int32)) + (((((((nI b - (((((nI b).toUInt32 >>> ((1 : Int32).toUInt32 &&& Int32.toUInt32 31)).toInt32) &&& (1431655765 : Int32)) : Int32)) &&& (858993459 : Int32)) + ((((((nI b - (((((nI b).toUInt32 >>> ((1 : Int32).toUInt32 &&& Int32.toUInt32 31)).toInt32) &&& (1431655765 : Int32)) : Int32))).toUInt32 >>> ((2 : Int32).toUInt32 &&& Int32.toUInt32 31)).toInt32) &&& (858993459 : Int32)) : Int32))).toUInt32 >>> ((4 : Int32).toUInt32 &&& Int32.toUInt32 31)).toInt32) : Int32)) &&& (252645135 : Int32))).toUInt32 >>> ((8 : Int32).toUInt32 &&& Int32.toUInt32 31)).toInt32) : Int32)) + ((((((((((nI b - (((((nI b).toUInt32 >>> ((1 : Int32).toUInt32 &&& Int32.toUInt32 31)).toInt32) &&& (1431655765 : Int32)) : Int32)) &&& (858993459 : Int32)) + ((((((nI b - (((((nI b).toUInt32 >>> ((1 : Int32).toUInt32 &&& Int32.toUInt32 31)).toInt32) &&& (1431655765 : Int32)) : Int32))).toUInt32 >>> ((2 : Int32).toUInt32 &&& Int32.toUInt32 31)).toInt32) &&& (858993459 : Int32)) : Int32)) + (((((((nI b - (((((nI b).toUInt32 >>> ((1 : Int32).toUInt32 &&& Int32.toUInt32 31)).toInt32) &&& (1431655765 : Int32)) : Int32)) &&& (858993459 : Int32)) + ((((((nI b - (((((nI b).toUInt32 >>> ((1 : Int32).toUInt32 &&& Int32.toUInt32 31)).toInt32) &&& (1431655765 : Int32)) : Int32))).toUInt32 >>> ((2 : Int32).toUInt32 &&& Int32.toUInt32 31)).toInt32) &&& (858993459 : Int32)) : Int32))).toUInt32 >>> ((4 : Int32).toUInt32 &&& Int32.toUInt32 31)).toInt32) : Int32)) &&& (252645135 : Int32)) + (((((((((nI b - (((((nI b).toUInt32 >>> ((1 : Int32).toUInt32 &&& Int32.toUInt32 31)).toInt32) &&& (1431655765 : Int32)) : Int32)) &&& (858993459 : Int32)) + ((((((nI b - (((((nI b).toUInt32 >>> ((1 : Int32).toUInt32 &&& Int32.toUInt32 31)).toInt32) &&& (1431655765 : Int32)) : Int32))).toUInt32 >>> ((2 : Int32).toUInt32 &&& Int32.toUInt32 31)).toInt32) &&& (858993459 : Int32)) : Int32)) + (((((((nI b - (((((nI b).toUInt32 >>> ((1 : Int32).toUInt32 &&& Int32.toUInt32 31)).toInt32) &&& (1431655765 : Int32)) : Int32)) &&& (858993459 : Int32)) + ((((((nI b - (((((nI b).toUInt32 >>> ((1 : Int32).toUInt32 &&& Int32.toUInt32 31)).toInt32) &&& (1431655765 : Int32)) : Int32))).toUInt32 >>> ((2 : Int32).toUInt32 &&& Int32.toUInt32 31)).toInt32) &&& (858993459 : Int32)) : Int32))).toUInt32 >>> ((4 : Int32).toUInt32 &&& Int32.toUInt32 31)).toInt32) : Int32)) &&& (252645135 : Int32))).toUInt32 >>> ((8 : Int32).toUInt32 &&& Int32.toUInt32 31)).toInt32) : Int32))).toUInt32 >>> ((16 : Int32).toUInt32 &&& Int32.toUInt32 31)).toInt32) : Int32)) &&& (63 : Int32)) = nI (pop16 b) := by decide +kernel
theorem pop_1 : ∀ b, b < 16 → (pop16 b = 1 ↔ one1 b = true) := by decide +kernel
theorem pop_lt : ∀ b, b < 16 → pop16 b < 5 := by decide +kernel
set_option maxHeartbeats 4000000 in
set_option maxRecDepth 100000 in
theorem m_J6_bitCount_0f7a4 (b : Nat) (hb16 : b < 16) : Mp l yJ6_bitCount_0f7a4 ws_J6_bitCount_0f7a4 0 0 (dC, dI) (tyL cI cZ cS cW) [.int (nI b)] [] (fun r => r = nI (pop16 b)) := by
  refine Mi_of (by decide +kernel) (Nat.le_of_ble_eq_true rfl) ?_
  intro pr ev sx mi ag bl me cd Q ls S hP hK hD hZ hl ret
  obtain ⟨hx, hb, hml, hown, hts⟩ := id S
  have hown : sx.vm.findClass RJ6 = some mi.cls := hown
  have hS : va_S (wIn []) sx.heap sx.heap [] := va_S.rf
  have hl : lv_has ls 1 [(0, .int (nI b))] := hl
  refine lv_iload_n hx hb dJ6_bitCount_0f7a4_0 rfl (lv_at hl 0 rfl) ?_
  refine lv_iload_n hx hb dJ6_bitCount_0f7a4_1 rfl (lv_at hl 0 rfl) ?_
  refine lv_iconst (v := 1) hx hb dJ6_bitCount_0f7a4_2 (by decide) ?_
  refine lv_iushr hx hb dJ6_bitCount_0f7a4_3 rfl ?_
  refine lv_ldcw hx hb hown (hts _ q_k_J6_265) dJ6_bitCount_0f7a4_4 ?_
  refine lv_iand hx hb dJ6_bitCount_0f7a4_7 ?_
  refine lv_isub hx hb dJ6_bitCount_0f7a4_8 ?_
  refine lv_topi (fun z1 ez1 => ?_)
  refine lv_istore_n (lv' := [(0, .int z1)]) hx hb dJ6_bitCount_0f7a4_9 rfl hl (by decide) rfl (fun ls hl => ?_)
  refine lv_iload_n hx hb dJ6_bitCount_0f7a4_10 rfl (lv_at hl 0 rfl) ?_
  refine lv_ldcw hx hb hown (hts _ q_k_J6_266) dJ6_bitCount_0f7a4_11 ?_
  refine lv_iand hx hb dJ6_bitCount_0f7a4_14 ?_
  refine lv_iload_n hx hb dJ6_bitCount_0f7a4_15 rfl (lv_at hl 0 rfl) ?_
  refine lv_iconst (v := 2) hx hb dJ6_bitCount_0f7a4_16 (by decide) ?_
  refine lv_iushr hx hb dJ6_bitCount_0f7a4_17 rfl ?_
  refine lv_ldcw hx hb hown (hts _ q_k_J6_266) dJ6_bitCount_0f7a4_18 ?_
  refine lv_iand hx hb dJ6_bitCount_0f7a4_21 ?_
  refine lv_iadd hx hb dJ6_bitCount_0f7a4_22 ?_
  refine lv_topi (fun z2 ez2 => ?_)
  refine lv_istore_n (lv' := [(0, .int z2)]) hx hb dJ6_bitCount_0f7a4_23 rfl hl (by decide) rfl (fun ls hl => ?_)
  refine lv_iload_n hx hb dJ6_bitCount_0f7a4_24 rfl (lv_at hl 0 rfl) ?_
  refine lv_iload_n hx hb dJ6_bitCount_0f7a4_25 rfl (lv_at hl 0 rfl) ?_
  refine lv_iconst (v := 4) hx hb dJ6_bitCount_0f7a4_26 (by decide) ?_
  refine lv_iushr hx hb dJ6_bitCount_0f7a4_27 rfl ?_
  refine lv_iadd hx hb dJ6_bitCount_0f7a4_28 ?_
  refine lv_ldcw hx hb hown (hts _ q_k_J6_267) dJ6_bitCount_0f7a4_29 ?_
  refine lv_iand hx hb dJ6_bitCount_0f7a4_32 ?_
  refine lv_topi (fun z3 ez3 => ?_)
  refine lv_istore_n (lv' := [(0, .int z3)]) hx hb dJ6_bitCount_0f7a4_33 rfl hl (by decide) rfl (fun ls hl => ?_)
  refine lv_iload_n hx hb dJ6_bitCount_0f7a4_34 rfl (lv_at hl 0 rfl) ?_
  refine lv_iload_n hx hb dJ6_bitCount_0f7a4_35 rfl (lv_at hl 0 rfl) ?_
  refine lv_bipush (v := 8) hx hb dJ6_bitCount_0f7a4_36 (by decide) ?_
  refine lv_iushr hx hb dJ6_bitCount_0f7a4_38 rfl ?_
  refine lv_iadd hx hb dJ6_bitCount_0f7a4_39 ?_
  refine lv_topi (fun z4 ez4 => ?_)
  refine lv_istore_n (lv' := [(0, .int z4)]) hx hb dJ6_bitCount_0f7a4_40 rfl hl (by decide) rfl (fun ls hl => ?_)
  refine lv_iload_n hx hb dJ6_bitCount_0f7a4_41 rfl (lv_at hl 0 rfl) ?_
  refine lv_iload_n hx hb dJ6_bitCount_0f7a4_42 rfl (lv_at hl 0 rfl) ?_
  refine lv_bipush (v := 16) hx hb dJ6_bitCount_0f7a4_43 (by decide) ?_
  refine lv_iushr hx hb dJ6_bitCount_0f7a4_45 rfl ?_
  refine lv_iadd hx hb dJ6_bitCount_0f7a4_46 ?_
  refine lv_topi (fun z5 ez5 => ?_)
  refine lv_istore_n (lv' := [(0, .int z5)]) hx hb dJ6_bitCount_0f7a4_47 rfl hl (by decide) rfl (fun ls hl => ?_)
  refine lv_iload_n hx hb dJ6_bitCount_0f7a4_48 rfl (lv_at hl 0 rfl) ?_
  refine lv_bipush (v := 63) hx hb dJ6_bitCount_0f7a4_49 (by decide) ?_
  refine lv_iand hx hb dJ6_bitCount_0f7a4_51 ?_
  exact ret _ [] _ _ _ _ dJ6_bitCount_0f7a4_52 rfl ⟨rfl, by subst ez5 ez4 ez3 ez2 ez1; exact bc16 b hb16⟩ (List.Perm.refl _) hP hS
set_option maxHeartbeats 4000000 in
set_option maxRecDepth 100000 in
theorem m_X1_isOneColour (b : Nat) (hb16 : b < 16) : Mp l yX1_isOneColour ws_X1_isOneColour 1 20 (dC, dI) (tyL cI cZ cS cW) [.int (nI b)] ([]) (fun r => r = bI (one1 b)) := by
  refine Mi_of (by decide +kernel) (Nat.le_of_ble_eq_true rfl) ?_
  intro pr ev sx mi ag bl me cd Q ls S hP hK hD hZ hl ret
  obtain ⟨hx, hb, hml, hown, hts⟩ := id S
  have hown : sx.vm.findClass RX1 = some mi.cls := hown
  have hS : va_S (wIn ([])) sx.heap sx.heap [] := va_S.rf
  have hl : lv_has ls 1 [(0, .int (nI b))] := hl
  refine lv_iload_n hx hb dX1_isOneColour_0 rfl (lv_at hl 0 rfl) ?_
  refine call_Sp (As := [.int (nI b)]) (rest := []) S (m_J6_bitCount_0f7a4 b hb16) g_X1_J6_bitCount_0f7a4 hd_J6_bitCount_0f7a4 ⟨Nat.le_of_ble_eq_true rfl, Nat.le_of_ble_eq_true rfl⟩ ⟨Nat.zero_le _, Nat.zero_le _⟩ hP hD hK hS hZ [] rfl (by decide) hl.1 rfl (Nat.le_of_ble_eq_true rfl) dX1_isOneColour_1 (fun r H locs hq hP hS => ?_)
  obtain rfl := hq
  refine lv_iconst (v := nI 1) hx hb dX1_isOneColour_4 (by decide) ?_
  refine icN_ne (tgt := 12) hx hb dX1_isOneColour_5 (by decide) (by have := pop_lt b hb16; omega) (by omega) (fun c_5 => ?_) (fun c_5 => ?_)
  · refine lv_iconst (v := nI 0) hx hb dX1_isOneColour_12 (by decide) ?_
    exact ret _ ([]) _ _ _ _ dX1_isOneColour_13 rfl ⟨rfl, bI_f (by cases ho : one1 b with | false => rfl | true => exact absurd ((pop_1 b hb16).mpr ho) c_5)⟩ (List.Perm.refl _) hP hS
  · refine lv_iconst (v := nI 1) hx hb dX1_isOneColour_8 (by decide) ?_
    refine lv_goto (tgt := 13) hx hb dX1_isOneColour_9 (by decide) ?_
    exact ret _ ([]) _ _ _ _ dX1_isOneColour_13 rfl ⟨rfl, bI_t ((pop_1 b hb16).mp c_5)⟩ (List.Perm.refl _) hP hS

set_option maxHeartbeats 4000000 in
set_option maxRecDepth 100000 in
theorem m_X1_isCertainBy (h0 h1 h2 h3 h4 h5 h6 p1 p2 n wn t tc sc : Nat) (uw : Bool) (c1 c2 : Nat) (s ow hf tf : Nat → Nat) (j : Nat) (hj : j < 5) (hw : wn < 1024) (hc1 : c1 ≤ 243) (hb1 : ∀ j, j < c1 → hf j < 1024) : Mp l yX1_isCertainBy ws_X1_isCertainBy 2 49 (dC, dI) (tyL cI cZ cS cW) [.ref h0, .ref h1, .int (nI j)] (gW cI h0 h1 h2 h3 h4 h5 h6 p1 p2 n wn t tc sc uw c1 c2 s ow hf tf) (fun r => r = bI (cert wn (s j) j (Lof hf c1))) := by
  refine Mi_of (by decide +kernel) (Nat.le_of_ble_eq_true rfl) ?_
  intro pr ev sx mi ag bl me cd Q ls S hP hK hD hZ hl ret
  obtain ⟨hx, hb, hml, hown, hts⟩ := id S
  have hown : sx.vm.findClass RX1 = some mi.cls := hown
  have hS : va_S (wIn (gW cI h0 h1 h2 h3 h4 h5 h6 p1 p2 n wn t tc sc uw c1 c2 s ow hf tf)) sx.heap sx.heap [] := va_S.rf
  have hl : lv_has ls 3 [(0, .ref h0), (1, .ref h1), (2, .int (nI j))] := hl
  refine lv_aload_n hx hb dX1_isCertainBy_0 rfl (lv_at hl 0 rfl) ?_
  refine lv_aload_n hx hb dX1_isCertainBy_1 rfl (lv_at hl 1 rfl) ?_
  refine lv_iload_n hx hb dX1_isCertainBy_2 rfl (lv_at hl 2 rfl) ?_
  refine lv_iload_n hx hb dX1_isCertainBy_3 rfl (lv_at hl 2 rfl) ?_
  refine call_Vp (As := [.ref h1, .int (nI j), .int (nI j)]) (rest := []) S (m_X1_possibleColours h0 h1 h2 h3 h4 h5 h6 p1 p2 n wn t tc sc uw c1 c2 s ow hf tf j j (by omega) (by omega) hw hc1 hb1) g_X1_X1_possibleColours hd_X1_possibleColours ⟨Nat.le_of_ble_eq_true rfl, Nat.le_of_ble_eq_true rfl⟩ ⟨Nat.zero_le _, Nat.zero_le _⟩ hP hD hK hS hZ [0, 1, 2, 3, 4, 5, 6] rfl (by decide) 0 rfl rfl hl.1 rfl (Nat.le_of_ble_eq_true rfl) dX1_isCertainBy_4 (fun r H locs hq hP hS => ?_)
  obtain rfl := hq
  refine call_Sp (As := [.int (nI (pcol wn (s j) j (Lof hf c1)))]) (rest := []) S (m_X1_isOneColour (pcol wn (s j) j (Lof hf c1)) (pcol_lt _ _ _ _)) g_X1_X1_isOneColour hd_X1_isOneColour ⟨Nat.le_of_ble_eq_true rfl, Nat.le_of_ble_eq_true rfl⟩ ⟨Nat.zero_le _, Nat.zero_le _⟩ hP hD hK hS hZ [] rfl (by decide) hl.1 rfl (Nat.le_of_ble_eq_true rfl) dX1_isCertainBy_7 (fun r H locs hq hP hS => ?_)
  obtain rfl := hq
  exact ret _ (gW cI h0 h1 h2 h3 h4 h5 h6 p1 p2 n wn t tc sc uw c1 c2 s ow hf tf) _ _ _ _ dX1_isCertainBy_10 (bI_nar _) ⟨rfl, rfl⟩ (List.Perm.refl _) hP hS

set_option maxHeartbeats 4000000 in
set_option maxRecDepth 100000 in
theorem m_X1_countCertain (h0 h1 h2 h3 h4 h5 h6 p1 p2 n wn t tc sc : Nat) (uw : Bool) (c1 c2 : Nat) (s ow hf tf : Nat → Nat) (hn : n ≤ 5) (hw : wn < 1024) (hc1 : c1 ≤ 243) (hb1 : ∀ j, j < c1 → hf j < 1024) : Mp l yX1_countCertain ws_X1_countCertain 3 71 (dC, dI) (tyL cI cZ cS cW) [.ref h0, .ref h1] (gW cI h0 h1 h2 h3 h4 h5 h6 p1 p2 n wn t tc sc uw c1 c2 s ow hf tf) (fun r => r = nI (certN wn s (Lof hf c1) n)) := by
  refine Mi_of (by decide +kernel) (Nat.le_of_ble_eq_true rfl) ?_
  intro pr ev sx mi ag bl me cd Q ls S hP hK hD hZ hl ret
  obtain ⟨hx, hb, hml, hown, hts⟩ := id S
  have hown : sx.vm.findClass RX1 = some mi.cls := hown
  have hS : va_S (wIn (gW cI h0 h1 h2 h3 h4 h5 h6 p1 p2 n wn t tc sc uw c1 c2 s ow hf tf)) sx.heap sx.heap [] := va_S.rf
  have hl : lv_has ls 4 [(0, .ref h0), (1, .ref h1)] := hl
  refine lv_iconst (v := nI 0) hx hb dX1_countCertain_0 (by decide) ?_
  refine lv_istore_n (lv' := [(2, .int (nI 0)), (0, .ref h0), (1, .ref h1)]) hx hb dX1_countCertain_1 rfl hl (by decide) rfl (fun ls hl => ?_)
  refine lv_iconst (v := nI 0) hx hb dX1_countCertain_2 (by decide) ?_
  refine lv_istore_n (lv' := [(3, .int (nI 0)), (2, .int (nI 0)), (0, .ref h0), (1, .ref h1)]) hx hb dX1_countCertain_3 rfl hl (by decide) rfl (fun ls hl => ?_)
  have lp4 : ∀ (kf : Nat) (i : Nat) (a : Nat), n < i + kf → (i ≤ n) → (a = certN wn s (Lof hf c1) i) → ∀ (H : Heap) (locs : List Loc), va_P (dC, dI) vwCl (gW cI h0 h1 h2 h3 h4 h5 h6 p1 p2 n wn t tc sc uw c1 c2 s ow hf tf) H → va_D (wIn (gW cI h0 h1 h2 h3 h4 h5 h6 p1 p2 n wn t tc sc uw c1 c2 s ow hf tf)) (gW cI h0 h1 h2 h3 h4 h5 h6 p1 p2 n wn t tc sc uw c1 c2 s ow hf tf) → va_S (wIn (gW cI h0 h1 h2 h3 h4 h5 h6 p1 p2 n wn t tc sc uw c1 c2 s ow hf tf)) sx.heap H locs → ∀ ls : Array Slot, lv_has ls 4 [(3, .int (nI i)), (2, .int (nI a)), (0, .ref h0), (1, .ref h1)] → W pr l ev (rmB 3 71) sx mi ag bl me cd H locs 0 0 Q (F0 mi 4 ls []) := by
    intro kf
    induction kf with
    | zero => intro i a hkf hi ha; exact absurd hkf (by omega)
    | succ kf ih4 =>
      intro i a hkf hi ha H locs hP hD hS ls hl
      refine lv_iload_n hx hb dX1_countCertain_4 rfl (lv_at hl 0 rfl) ?_
      refine lv_aload_n hx hb dX1_countCertain_5 rfl (lv_at hl 2 rfl) ?_
      refine va_get (D := (dC, dI)) (ci := 1) (v := .int (nI n)) (C := RX1) (T := TX1) (N := 10) hx hb hts inX1 hown hK hP 0 rfl rfl 4 (by decide) (hts _ q_fl_X1_26) (fun _ h9 => h9) rfl dX1_countCertain_6 ?_
      refine icN_ge (tgt := 30) hx hb dX1_countCertain_9 (by decide) (by omega) (by omega) (fun c_9 => ?_) (fun c_9 => ?_)
      · refine lv_iload_n hx hb dX1_countCertain_30 rfl (lv_at hl 1 rfl) ?_
        exact ret _ (gW cI h0 h1 h2 h3 h4 h5 h6 p1 p2 n wn t tc sc uw c1 c2 s ow hf tf) _ _ _ _ dX1_countCertain_31 rfl ⟨rfl, by rw [ha, show i = n by omega]⟩ (List.Perm.refl _) hP hS
      · refine lv_aload_n hx hb dX1_countCertain_12 rfl (lv_at hl 2 rfl) ?_
        refine lv_aload_n hx hb dX1_countCertain_13 rfl (lv_at hl 3 rfl) ?_
        refine lv_iload_n hx hb dX1_countCertain_14 rfl (lv_at hl 0 rfl) ?_
        refine call_Vp (As := [.ref h1, .int (nI i)]) (rest := []) S (m_X1_isCertainBy h0 h1 h2 h3 h4 h5 h6 p1 p2 n wn t tc sc uw c1 c2 s ow hf tf i (by omega) hw hc1 hb1) g_X1_X1_isCertainBy hd_X1_isCertainBy ⟨Nat.le_of_ble_eq_true rfl, Nat.le_of_ble_eq_true rfl⟩ ⟨Nat.zero_le _, Nat.zero_le _⟩ hP hD hK hS hZ [0, 1, 2, 3, 4, 5, 6] rfl (by decide) 0 rfl rfl hl.1 rfl (Nat.le_of_ble_eq_true rfl) dX1_countCertain_15 (fun r H locs hq hP hS => ?_)
        obtain rfl := hq
        refine ifB_eq (tgt := 24) hx hb dX1_countCertain_18 (by decide) (fun c_18 => ?_) (fun c_18 => ?_)
        · refine lv_iinc (v := nI (i + 1)) (lv' := [(3, .int (nI (i + 1))), (2, .int (nI a)), (0, .ref h0), (1, .ref h1)]) hx hb dX1_countCertain_24 hl (k := 0) rfl (nI_add _ _) (by decide) rfl (fun ls hl => ?_)
          refine lv_goto (tgt := 4) hx hb dX1_countCertain_27 (by decide) ?_
          exact ih4 (i + 1) _ (by omega) (by omega) (by simp [certN, ha, c_18]) _ _ hP hD hS _ (lv_sub hl [0, 1, 2, 3] rfl)
        · refine lv_iinc (v := nI (a + 1)) (lv' := [(2, .int (nI (a + 1))), (3, .int (nI i)), (0, .ref h0), (1, .ref h1)]) hx hb dX1_countCertain_21 hl (k := 1) rfl (nI_add _ _) (by decide) rfl (fun ls hl => ?_)
          refine lv_iinc (v := nI (i + 1)) (lv' := [(3, .int (nI (i + 1))), (2, .int (nI (a + 1))), (0, .ref h0), (1, .ref h1)]) hx hb dX1_countCertain_24 hl (k := 1) rfl (nI_add _ _) (by decide) rfl (fun ls hl => ?_)
          refine lv_goto (tgt := 4) hx hb dX1_countCertain_27 (by decide) ?_
          exact ih4 (i + 1) _ (by omega) (by omega) (by simp [certN, ha, c_18]) _ _ hP hD hS _ (lv_sub hl [0, 1, 2, 3] rfl)
  exact lp4 (n + 1) 0 0 (by omega) (by omega) rfl _ _ hP hD hS _ (lv_sub hl [0, 1, 2, 3] rfl)

theorem note_0 {g f : Nat → Nat} {m i : Nat} (h : ∀ j, j < i → g (vw (f j) m) = 0) : ∀ j, j < i + 1 → upN g (vw (f i) m) 0 (vw (f j) m) = 0 := by
  intro j hj
  by_cases e : vw (f j) m = vw (f i) m
  · rw [e, upN_s]
  · rw [upN_n _ _ e]
    refine h j ?_
    rcases Nat.lt_or_ge j i with q | q
    · exact q
    · exact absurd (by rw [show j = i by omega]) e
theorem note_1 {g f : Nat → Nat} {m p i c : Nat} (hi : i < c) (h : ∀ j, j < c → g (vw (f j) m) = ocol m p (Lof f i) (vw (f j) m)) : ∀ j, j < c → upN g (vw (f i) m) (g (vw (f i) m) ||| 1 * 2 ^ qd (f i) p) (vw (f j) m) = ocol m p (Lof f (i + 1)) (vw (f j) m) := by
  intro j hj
  by_cases e : vw (f j) m = vw (f i) m
  · rw [e, upN_s, h i hi]
    exact ocol_t rfl
  · rw [upN_n _ _ e, h j hj]
    exact ocol_f (fun q => e q.symm)
set_option maxHeartbeats 4000000 in
set_option maxRecDepth 100000 in
theorem m_X1_noteOwnColours (h0 h1 h2 h3 h4 h5 h6 p1 p2 n wn t tc sc : Nat) (uw : Bool) (c1 c2 : Nat) (s ow hf tf : Nat → Nat) (j : Nat) (hj : j < 5) (hc1 : c1 ≤ 243) (hb1 : ∀ j, j < c1 → hf j < 1024) : Mv l yX1_noteOwnColours ws_X1_noteOwnColours 2 43 (dC, dI) (tyL cI cZ cS cW) [.ref h0, .ref h1, .int (nI j)] (gW cI h0 h1 h2 h3 h4 h5 h6 p1 p2 n wn t tc sc uw c1 c2 s ow hf tf) (fun u => ∃ g : Nat → Nat, u = gW cI h0 h1 h2 h3 h4 h5 h6 p1 p2 n wn t tc sc uw c1 c2 s g hf tf ∧ ∀ k, k < c1 → g (vw (hf k) (s j)) = ocol (s j) j (Lof hf c1) (vw (hf k) (s j))) := by
  refine Mv_of (by decide +kernel) (Nat.le_of_ble_eq_true rfl) ?_
  intro pr ev sx mi ag bl me cd Q ls S hP hK hD hZ hl ret
  obtain ⟨hx, hb, hml, hown, hts⟩ := id S
  have hown : sx.vm.findClass RX1 = some mi.cls := hown
  have hS : va_S (wIn (gW cI h0 h1 h2 h3 h4 h5 h6 p1 p2 n wn t tc sc uw c1 c2 s ow hf tf)) sx.heap sx.heap [] := va_S.rf
  have hl : lv_has ls 6 [(0, .ref h0), (1, .ref h1), (2, .int (nI j))] := hl
  refine lv_iconst (v := nI 0) hx hb dX1_noteOwnColours_0 (by decide) ?_
  refine lv_istore_n (lv' := [(3, .int (nI 0)), (0, .ref h0), (1, .ref h1), (2, .int (nI j))]) hx hb dX1_noteOwnColours_1 rfl hl (by decide) rfl (fun ls hl => ?_)
  have lp2 : ∀ (kf : Nat) (i : Nat) (g : Nat → Nat), c1 < i + kf → (i ≤ c1) → (∀ k, k < i → g (vw (hf k) (s j)) = 0) → ∀ (H : Heap) (locs : List Loc), va_P (dC, dI) vwCl (gW cI h0 h1 h2 h3 h4 h5 h6 p1 p2 n wn t tc sc uw c1 c2 s g hf tf) H → va_D (wIn (gW cI h0 h1 h2 h3 h4 h5 h6 p1 p2 n wn t tc sc uw c1 c2 s ow hf tf)) (gW cI h0 h1 h2 h3 h4 h5 h6 p1 p2 n wn t tc sc uw c1 c2 s g hf tf) → va_S (wIn (gW cI h0 h1 h2 h3 h4 h5 h6 p1 p2 n wn t tc sc uw c1 c2 s ow hf tf)) sx.heap H locs → ∀ ls : Array Slot, lv_has ls 6 [(3, .int (nI i)), (0, .ref h0), (1, .ref h1), (2, .int (nI j))] → W pr l ev (rmB 2 43) sx mi ag bl me cd H locs 0 0 Q (F0 mi 2 ls []) := by
    intro kf
    induction kf with
    | zero => intro i g hkf hi hg; exact absurd hkf (by omega)
    | succ kf ih2 =>
      intro i g hkf hi hg H locs hP hD hS ls hl
      refine lv_iload_n hx hb dX1_noteOwnColours_2 rfl (lv_at hl 0 rfl) ?_
      refine lv_aload_n hx hb dX1_noteOwnColours_3 rfl (lv_at hl 2 rfl) ?_
      refine call_Vp (As := []) (rest := [.int (nI i)]) S (m_X0_count h1 h5 c1 hf) g_X1_X0_count hd_X0_count ⟨Nat.le_of_ble_eq_true rfl, Nat.le_of_ble_eq_true rfl⟩ ⟨Nat.zero_le _, Nat.zero_le _⟩ hP hD hK hS hZ [1, 5] rfl (by decide) 0 rfl rfl hl.1 rfl (Nat.le_of_ble_eq_true rfl) dX1_noteOwnColours_4 (fun r H locs hq hP hS => ?_)
      obtain rfl := hq
      refine icN_ge (tgt := 31) hx hb dX1_noteOwnColours_7 (by decide) (by omega) (by omega) (fun c_7 => ?_) (fun c_7 => ?_)
      · refine lv_iconst (v := nI 0) hx hb dX1_noteOwnColours_31 (by decide) ?_
        refine lv_istore_n (lv' := [(3, .int (nI 0)), (0, .ref h0), (1, .ref h1), (2, .int (nI j))]) hx hb dX1_noteOwnColours_32 rfl hl (by decide) rfl (fun ls hl => ?_)
        have lp33 : ∀ (kf : Nat) (i2 : Nat) (g2 : Nat → Nat), c1 < i2 + kf → (i2 ≤ c1) → (∀ k, k < c1 → g2 (vw (hf k) (s j)) = ocol (s j) j (Lof hf i2) (vw (hf k) (s j))) → ∀ (H : Heap) (locs : List Loc), va_P (dC, dI) vwCl (gW cI h0 h1 h2 h3 h4 h5 h6 p1 p2 n wn t tc sc uw c1 c2 s g2 hf tf) H → va_D (wIn (gW cI h0 h1 h2 h3 h4 h5 h6 p1 p2 n wn t tc sc uw c1 c2 s ow hf tf)) (gW cI h0 h1 h2 h3 h4 h5 h6 p1 p2 n wn t tc sc uw c1 c2 s g2 hf tf) → va_S (wIn (gW cI h0 h1 h2 h3 h4 h5 h6 p1 p2 n wn t tc sc uw c1 c2 s ow hf tf)) sx.heap H locs → ∀ ls : Array Slot, lv_has ls 6 [(3, .int (nI i2)), (0, .ref h0), (1, .ref h1), (2, .int (nI j))] → W pr l ev (rmB 2 43) sx mi ag bl me cd H locs 0 0 Q (F0 mi 33 ls []) := by
          intro kf
          induction kf with
          | zero => intro i2 g2 hkf hi2 hg2; exact absurd hkf (by omega)
          | succ kf ih33 =>
            intro i2 g2 hkf hi2 hg2 H locs hP hD hS ls hl
            refine lv_iload_n hx hb dX1_noteOwnColours_33 rfl (lv_at hl 0 rfl) ?_
            refine lv_aload_n hx hb dX1_noteOwnColours_34 rfl (lv_at hl 2 rfl) ?_
            refine call_Vp (As := []) (rest := [.int (nI i2)]) S (m_X0_count h1 h5 c1 hf) g_X1_X0_count hd_X0_count ⟨Nat.le_of_ble_eq_true rfl, Nat.le_of_ble_eq_true rfl⟩ ⟨Nat.zero_le _, Nat.zero_le _⟩ hP hD hK hS hZ [1, 5] rfl (by decide) 0 rfl rfl hl.1 rfl (Nat.le_of_ble_eq_true rfl) dX1_noteOwnColours_35 (fun r H locs hq hP hS => ?_)
            obtain rfl := hq
            refine icN_ge (tgt := 84) hx hb dX1_noteOwnColours_38 (by decide) (by omega) (by omega) (fun c_38 => ?_) (fun c_38 => ?_)
            · exact ret (gW cI h0 h1 h2 h3 h4 h5 h6 p1 p2 n wn t tc sc uw c1 c2 s g2 hf tf) _ _ _ _ dX1_noteOwnColours_84 ⟨g2, rfl, fun k hk => by rw [hg2 k hk, show i2 = c1 by omega]⟩ (List.Perm.refl _) hP hS
            · refine lv_aload_n hx hb dX1_noteOwnColours_41 rfl (lv_at hl 2 rfl) ?_
              refine lv_iload_n hx hb dX1_noteOwnColours_42 rfl (lv_at hl 0 rfl) ?_
              refine call_Vp (As := [.int (nI i2)]) (rest := []) S (m_X0_at h1 h5 c1 hf i2 (by omega)) g_X1_X0_at hd_X0_at ⟨Nat.le_of_ble_eq_true rfl, Nat.le_of_ble_eq_true rfl⟩ ⟨Nat.zero_le _, Nat.zero_le _⟩ hP hD hK hS hZ [1, 5] rfl (by decide) 0 rfl rfl hl.1 rfl (Nat.le_of_ble_eq_true rfl) dX1_noteOwnColours_43 (fun r H locs hq hP hS => ?_)
              obtain rfl := hq
              refine lv_istore (lv' := [(4, .int (nI (hf i2))), (3, .int (nI i2)), (0, .ref h0), (1, .ref h1), (2, .int (nI j))]) hx hb dX1_noteOwnColours_46 hl (by decide) rfl (fun ls hl => ?_)
              refine lv_aload_n hx hb dX1_noteOwnColours_48 rfl (lv_at hl 2 rfl) ?_
              refine lv_iload hx hb dX1_noteOwnColours_49 (lv_at hl 0 rfl) ?_
              refine lv_iload_n hx hb dX1_noteOwnColours_51 rfl (lv_at hl 4 rfl) ?_
              refine call_Vp (As := [.int (nI (hf i2)), .int (nI j)]) (rest := []) S (m_X1_viewOf h0 h1 h2 h3 h4 h5 h6 p1 p2 n wn t tc sc uw c1 c2 s g2 hf tf (hf i2) j (by omega)) g_X1_X1_viewOf hd_X1_viewOf ⟨Nat.le_of_ble_eq_true rfl, Nat.le_of_ble_eq_true rfl⟩ ⟨Nat.zero_le _, Nat.zero_le _⟩ hP hD hK hS hZ [0, 1, 2, 3, 4, 5, 6] rfl (by decide) 0 rfl rfl hl.1 rfl (Nat.le_of_ble_eq_true rfl) dX1_noteOwnColours_52 (fun r H locs hq hP hS => ?_)
              obtain rfl := hq
              refine lv_istore (lv' := [(5, .int (nI (vw (hf i2) (s j)))), (4, .int (nI (hf i2))), (3, .int (nI i2)), (0, .ref h0), (1, .ref h1), (2, .int (nI j))]) hx hb dX1_noteOwnColours_55 hl (by decide) rfl (fun ls hl => ?_)
              refine lv_aload_n hx hb dX1_noteOwnColours_57 rfl (lv_at hl 3 rfl) ?_
              refine lv_iload hx hb dX1_noteOwnColours_58 (lv_at hl 0 rfl) ?_
              refine lv_aload_n hx hb dX1_noteOwnColours_60 rfl (lv_at hl 3 rfl) ?_
              refine lv_iload hx hb dX1_noteOwnColours_61 (lv_at hl 0 rfl) ?_
              refine call_Vp (As := [.int (nI (vw (hf i2) (s j)))]) (rest := [.int (nI (vw (hf i2) (s j))), .ref h0]) S (m_X1_ownColours h0 h1 h2 h3 h4 h5 h6 p1 p2 n wn t tc sc uw c1 c2 s g2 hf tf (vw (hf i2) (s j)) (vw_lt _ _)) g_X1_X1_ownColours hd_X1_ownColours ⟨Nat.le_of_ble_eq_true rfl, Nat.le_of_ble_eq_true rfl⟩ ⟨Nat.zero_le _, Nat.zero_le _⟩ hP hD hK hS hZ [0, 1, 2, 3, 4, 5, 6] rfl (by decide) 0 rfl rfl hl.1 rfl (Nat.le_of_ble_eq_true rfl) dX1_noteOwnColours_63 (fun r H locs hq hP hS => ?_)
              obtain rfl := hq
              refine lv_iconst (v := nI 1) hx hb dX1_noteOwnColours_66 (by decide) ?_
              refine lv_iload hx hb dX1_noteOwnColours_67 (lv_at hl 1 rfl) ?_
              refine lv_iload_n hx hb dX1_noteOwnColours_69 rfl (lv_at hl 5 rfl) ?_
              refine call_Sp (As := [.int (nI (hf i2)), .int (nI j)]) (rest := [.int (nI 1), .int (nI (g2 (vw (hf i2) (s j)))), .int (nI (vw (hf i2) (s j))), .ref h0]) S (m_X1_colourIn (hf i2) j (hb1 _ (by omega)) (by omega)) g_X1_X1_colourIn hd_X1_colourIn ⟨Nat.le_of_ble_eq_true rfl, Nat.le_of_ble_eq_true rfl⟩ ⟨Nat.zero_le _, Nat.zero_le _⟩ hP hD hK hS hZ [] rfl (by decide) hl.1 rfl (Nat.le_of_ble_eq_true rfl) dX1_noteOwnColours_70 (fun r H locs hq hP hS => ?_)
              obtain rfl := hq
              refine lv_ishl hx hb dX1_noteOwnColours_73 ?_
              refine W_i (y := nI (1 * 2 ^ (qd (hf i2) j))) (nI_shl _ (by have := qd_lt (hf i2) j; omega)) ?_
              refine lv_ior hx hb dX1_noteOwnColours_74 ?_
              refine W_i (y := nI ((g2 (vw (hf i2) (s j))) ||| (1 * 2 ^ (qd (hf i2) j)))) (nI_or _ _) ?_
              refine call_Vv (As := [.int (nI (vw (hf i2) (s j))), .int (nI ((g2 (vw (hf i2) (s j))) ||| (1 * 2 ^ (qd (hf i2) j))))]) (wr := []) (rest := []) S (m_X1_setOwnColours h0 h1 h2 h3 h4 h5 h6 p1 p2 n wn t tc sc uw c1 c2 s g2 hf tf (vw (hf i2) (s j)) ((g2 (vw (hf i2) (s j))) ||| (1 * 2 ^ (qd (hf i2) j))) (vw_lt _ _)) g_X1_X1_setOwnColours hd_X1_setOwnColours ⟨Nat.le_of_ble_eq_true rfl, Nat.le_of_ble_eq_true rfl⟩ ⟨Nat.zero_le _, Nat.zero_le _⟩ hP hD hK hS hZ [0, 1, 2, 3, 4, 5, 6] [] rfl rfl (by decide) 0 rfl rfl hl.1 rfl (Nat.le_of_ble_eq_true rfl) dX1_noteOwnColours_75 (fun u H locs hq hP hD hS => ?_)
              obtain rfl := hq
              have hP : va_P (dC, dI) vwCl (gW cI h0 h1 h2 h3 h4 h5 h6 p1 p2 n wn t tc sc uw c1 c2 s (upN g2 (vw (hf i2) (s j)) ((g2 (vw (hf i2) (s j))) ||| (1 * 2 ^ (qd (hf i2) j)))) hf tf) H := hP
              have hD : va_D (wIn (gW cI h0 h1 h2 h3 h4 h5 h6 p1 p2 n wn t tc sc uw c1 c2 s ow hf tf)) (gW cI h0 h1 h2 h3 h4 h5 h6 p1 p2 n wn t tc sc uw c1 c2 s (upN g2 (vw (hf i2) (s j)) ((g2 (vw (hf i2) (s j))) ||| (1 * 2 ^ (qd (hf i2) j)))) hf tf) := hD
              refine lv_iinc (v := nI (i2 + 1)) (lv' := [(3, .int (nI (i2 + 1))), (5, .int (nI (vw (hf i2) (s j)))), (4, .int (nI (hf i2))), (0, .ref h0), (1, .ref h1), (2, .int (nI j))]) hx hb dX1_noteOwnColours_78 hl (k := 2) rfl (nI_add _ _) (by decide) rfl (fun ls hl => ?_)
              refine lv_goto (tgt := 33) hx hb dX1_noteOwnColours_81 (by decide) ?_
              exact ih33 (i2 + 1) _ (by omega) (by omega) (note_1 (by omega) hg2) _ _ hP hD hS _ (lv_sub hl [0, 3, 4, 5] rfl)
        exact lp33 (c1 + 1) 0 g (by omega) (by omega) (fun k hk => hg k (by omega)) _ _ hP hD hS _ (lv_sub hl [0, 1, 2, 3] rfl)
      · refine lv_aload_n hx hb dX1_noteOwnColours_10 rfl (lv_at hl 1 rfl) ?_
        refine lv_aload_n hx hb dX1_noteOwnColours_11 rfl (lv_at hl 1 rfl) ?_
        refine lv_aload_n hx hb dX1_noteOwnColours_12 rfl (lv_at hl 2 rfl) ?_
        refine lv_iload_n hx hb dX1_noteOwnColours_13 rfl (lv_at hl 0 rfl) ?_
        refine call_Vp (As := [.int (nI i)]) (rest := [.ref h0, .ref h0]) S (m_X0_at h1 h5 c1 hf i (by omega)) g_X1_X0_at hd_X0_at ⟨Nat.le_of_ble_eq_true rfl, Nat.le_of_ble_eq_true rfl⟩ ⟨Nat.zero_le _, Nat.zero_le _⟩ hP hD hK hS hZ [1, 5] rfl (by decide) 0 rfl rfl hl.1 rfl (Nat.le_of_ble_eq_true rfl) dX1_noteOwnColours_14 (fun r H locs hq hP hS => ?_)
        obtain rfl := hq
        refine lv_iload_n hx hb dX1_noteOwnColours_17 rfl (lv_at hl 3 rfl) ?_
        refine call_Vp (As := [.int (nI (hf i)), .int (nI j)]) (rest := [.ref h0]) S (m_X1_viewOf h0 h1 h2 h3 h4 h5 h6 p1 p2 n wn t tc sc uw c1 c2 s g hf tf (hf i) j (by omega)) g_X1_X1_viewOf hd_X1_viewOf ⟨Nat.le_of_ble_eq_true rfl, Nat.le_of_ble_eq_true rfl⟩ ⟨Nat.zero_le _, Nat.zero_le _⟩ hP hD hK hS hZ [0, 1, 2, 3, 4, 5, 6] rfl (by decide) 0 rfl rfl hl.1 rfl (Nat.le_of_ble_eq_true rfl) dX1_noteOwnColours_18 (fun r H locs hq hP hS => ?_)
        obtain rfl := hq
        refine lv_iconst (v := nI 0) hx hb dX1_noteOwnColours_21 (by decide) ?_
        refine call_Vv (As := [.int (nI (vw (hf i) (s j))), .int (nI 0)]) (wr := []) (rest := []) S (m_X1_setOwnColours h0 h1 h2 h3 h4 h5 h6 p1 p2 n wn t tc sc uw c1 c2 s g hf tf (vw (hf i) (s j)) 0 (vw_lt _ _)) g_X1_X1_setOwnColours hd_X1_setOwnColours ⟨Nat.le_of_ble_eq_true rfl, Nat.le_of_ble_eq_true rfl⟩ ⟨Nat.zero_le _, Nat.zero_le _⟩ hP hD hK hS hZ [0, 1, 2, 3, 4, 5, 6] [] rfl rfl (by decide) 0 rfl rfl hl.1 rfl (Nat.le_of_ble_eq_true rfl) dX1_noteOwnColours_22 (fun u H locs hq hP hD hS => ?_)
        obtain rfl := hq
        have hP : va_P (dC, dI) vwCl (gW cI h0 h1 h2 h3 h4 h5 h6 p1 p2 n wn t tc sc uw c1 c2 s (upN g (vw (hf i) (s j)) 0) hf tf) H := hP
        have hD : va_D (wIn (gW cI h0 h1 h2 h3 h4 h5 h6 p1 p2 n wn t tc sc uw c1 c2 s ow hf tf)) (gW cI h0 h1 h2 h3 h4 h5 h6 p1 p2 n wn t tc sc uw c1 c2 s (upN g (vw (hf i) (s j)) 0) hf tf) := hD
        refine lv_iinc (v := nI (i + 1)) (lv' := [(3, .int (nI (i + 1))), (0, .ref h0), (1, .ref h1), (2, .int (nI j))]) hx hb dX1_noteOwnColours_25 hl (k := 0) rfl (nI_add _ _) (by decide) rfl (fun ls hl => ?_)
        refine lv_goto (tgt := 2) hx hb dX1_noteOwnColours_28 (by decide) ?_
        exact ih2 (i + 1) _ (by omega) (by omega) (note_0 hg) _ _ hP hD hS _ (lv_sub hl [0, 1, 2, 3] rfl)
  exact lp2 (c1 + 1) 0 ow (by omega) (by omega) (fun k hk => absurd hk (by omega)) _ _ hP hD hS _ (lv_sub hl [0, 1, 2, 3] rfl)

set_option maxHeartbeats 4000000 in
set_option maxRecDepth 100000 in
theorem m_X1_wouldBeCertain (h0 h1 h2 h3 h4 h5 h6 p1 p2 n wn t tc sc : Nat) (uw : Bool) (c1 c2 : Nat) (s ow hf tf : Nat → Nat) (x j : Nat) (hj : j < 5) (ho : ow (vw x (s j)) < 16) : Mp l yX1_wouldBeCertain ws_X1_wouldBeCertain 2 43 (dC, dI) (tyL cI cZ cS cW) [.ref h0, .int (nI x), .int (nI j)] (gW cI h0 h1 h2 h3 h4 h5 h6 p1 p2 n wn t tc sc uw c1 c2 s ow hf tf) (fun r => r = bI (one1 (ow (vw x (s j))))) := by
  refine Mi_of (by decide +kernel) (Nat.le_of_ble_eq_true rfl) ?_
  intro pr ev sx mi ag bl me cd Q ls S hP hK hD hZ hl ret
  obtain ⟨hx, hb, hml, hown, hts⟩ := id S
  have hown : sx.vm.findClass RX1 = some mi.cls := hown
  have hS : va_S (wIn (gW cI h0 h1 h2 h3 h4 h5 h6 p1 p2 n wn t tc sc uw c1 c2 s ow hf tf)) sx.heap sx.heap [] := va_S.rf
  have hl : lv_has ls 3 [(0, .ref h0), (1, .int (nI x)), (2, .int (nI j))] := hl
  refine lv_aload_n hx hb dX1_wouldBeCertain_0 rfl (lv_at hl 0 rfl) ?_
  refine lv_aload_n hx hb dX1_wouldBeCertain_1 rfl (lv_at hl 0 rfl) ?_
  refine lv_iload_n hx hb dX1_wouldBeCertain_2 rfl (lv_at hl 1 rfl) ?_
  refine lv_iload_n hx hb dX1_wouldBeCertain_3 rfl (lv_at hl 2 rfl) ?_
  refine call_Vp (As := [.int (nI x), .int (nI j)]) (rest := [.ref h0]) S (m_X1_viewOf h0 h1 h2 h3 h4 h5 h6 p1 p2 n wn t tc sc uw c1 c2 s ow hf tf x j (by omega)) g_X1_X1_viewOf hd_X1_viewOf ⟨Nat.le_of_ble_eq_true rfl, Nat.le_of_ble_eq_true rfl⟩ ⟨Nat.zero_le _, Nat.zero_le _⟩ hP hD hK hS hZ [0, 1, 2, 3, 4, 5, 6] rfl (by decide) 0 rfl rfl hl.1 rfl (Nat.le_of_ble_eq_true rfl) dX1_wouldBeCertain_4 (fun r H locs hq hP hS => ?_)
  obtain rfl := hq
  refine call_Vp (As := [.int (nI (vw x (s j)))]) (rest := []) S (m_X1_ownColours h0 h1 h2 h3 h4 h5 h6 p1 p2 n wn t tc sc uw c1 c2 s ow hf tf (vw x (s j)) (vw_lt _ _)) g_X1_X1_ownColours hd_X1_ownColours ⟨Nat.le_of_ble_eq_true rfl, Nat.le_of_ble_eq_true rfl⟩ ⟨Nat.zero_le _, Nat.zero_le _⟩ hP hD hK hS hZ [0, 1, 2, 3, 4, 5, 6] rfl (by decide) 0 rfl rfl hl.1 rfl (Nat.le_of_ble_eq_true rfl) dX1_wouldBeCertain_7 (fun r H locs hq hP hS => ?_)
  obtain rfl := hq
  refine call_Sp (As := [.int (nI (ow (vw x (s j))))]) (rest := []) S (m_X1_isOneColour (ow (vw x (s j))) ho) g_X1_X1_isOneColour hd_X1_isOneColour ⟨Nat.le_of_ble_eq_true rfl, Nat.le_of_ble_eq_true rfl⟩ ⟨Nat.zero_le _, Nat.zero_le _⟩ hP hD hK hS hZ [] rfl (by decide) hl.1 rfl (Nat.le_of_ble_eq_true rfl) dX1_wouldBeCertain_10 (fun r H locs hq hP hS => ?_)
  obtain rfl := hq
  exact ret _ (gW cI h0 h1 h2 h3 h4 h5 h6 p1 p2 n wn t tc sc uw c1 c2 s ow hf tf) _ _ _ _ dX1_wouldBeCertain_13 (bI_nar _) ⟨rfl, rfl⟩ (List.Perm.refl _) hP hS

set_option maxHeartbeats 4000000 in
set_option maxRecDepth 100000 in
theorem m_X1_playerAfter (h0 h1 h2 h3 h4 h5 h6 p1 p2 n wn t tc sc : Nat) (uw : Bool) (c1 c2 : Nat) (s ow hf tf : Nat → Nat) (j : Nat) (hn : n ≤ 5) (hj : j < 5) : Mp l yX1_playerAfter ws_X1_playerAfter 0 0 (dC, dI) (tyL cI cZ cS cW) [.ref h0, .int (nI j)] (gW cI h0 h1 h2 h3 h4 h5 h6 p1 p2 n wn t tc sc uw c1 c2 s ow hf tf) (fun r => r = nI (aftN n j)) := by
  refine Mi_of (by decide +kernel) (Nat.le_of_ble_eq_true rfl) ?_
  intro pr ev sx mi ag bl me cd Q ls S hP hK hD hZ hl ret
  obtain ⟨hx, hb, hml, hown, hts⟩ := id S
  have hown : sx.vm.findClass RX1 = some mi.cls := hown
  have hS : va_S (wIn (gW cI h0 h1 h2 h3 h4 h5 h6 p1 p2 n wn t tc sc uw c1 c2 s ow hf tf)) sx.heap sx.heap [] := va_S.rf
  have hl : lv_has ls 2 [(0, .ref h0), (1, .int (nI j))] := hl
  refine lv_iload_n hx hb dX1_playerAfter_0 rfl (lv_at hl 1 rfl) ?_
  refine lv_iconst (v := nI 1) hx hb dX1_playerAfter_1 (by decide) ?_
  refine lv_iadd hx hb dX1_playerAfter_2 ?_
  refine W_i (y := nI (j + 1)) (nI_add _ _) ?_
  refine lv_aload_n hx hb dX1_playerAfter_3 rfl (lv_at hl 0 rfl) ?_
  refine va_get (D := (dC, dI)) (ci := 1) (v := .int (nI n)) (C := RX1) (T := TX1) (N := 10) hx hb hts inX1 hown hK hP 0 rfl rfl 4 (by decide) (hts _ q_fl_X1_26) (fun _ h9 => h9) rfl dX1_playerAfter_4 ?_
  refine icN_ge (tgt := 16) hx hb dX1_playerAfter_7 (by decide) (by omega) (by omega) (fun c_7 => ?_) (fun c_7 => ?_)
  · refine lv_iconst (v := nI 0) hx hb dX1_playerAfter_16 (by decide) ?_
    exact ret _ (gW cI h0 h1 h2 h3 h4 h5 h6 p1 p2 n wn t tc sc uw c1 c2 s ow hf tf) _ _ _ _ dX1_playerAfter_17 rfl ⟨rfl, by rw [aftN, if_neg (by omega)]⟩ (List.Perm.refl _) hP hS
  · refine lv_iload_n hx hb dX1_playerAfter_10 rfl (lv_at hl 1 rfl) ?_
    refine lv_iconst (v := nI 1) hx hb dX1_playerAfter_11 (by decide) ?_
    refine lv_iadd hx hb dX1_playerAfter_12 ?_
    refine W_i (y := nI (j + 1)) (nI_add _ _) ?_
    refine lv_goto (tgt := 17) hx hb dX1_playerAfter_13 (by decide) ?_
    exact ret _ (gW cI h0 h1 h2 h3 h4 h5 h6 p1 p2 n wn t tc sc uw c1 c2 s ow hf tf) _ _ _ _ dX1_playerAfter_17 rfl ⟨rfl, by rw [aftN, if_pos (by omega)]⟩ (List.Perm.refl _) hP hS

set_option maxHeartbeats 4000000 in
set_option maxRecDepth 100000 in
theorem m_X1_keepWithHats (h0 h1 h2 h3 h4 h5 h6 p1 p2 n wn t tc sc : Nat) (uw : Bool) (c1 c2 : Nat) (s ow hf tf : Nat → Nat) (co lo hi2 : Nat) (hn : n ≤ 5) (hco : co < 3) (hlo : lo < 6) (hhi : hi2 < 6) (hc1 : c1 ≤ 243) (hb1 : ∀ j, j < c1 → hf j < 1024) : Mv l yX1_keepWithHats ws_X1_keepWithHats 2 45 (dC, dI) (tyL cI cZ cS cW) [.ref h0, .ref h1, .int (nI co), .int (nI lo), .int (nI hi2)] (gW cI h0 h1 h2 h3 h4 h5 h6 p1 p2 n wn t tc sc uw c1 c2 s ow hf tf) (fun u => ∃ (k : Nat) (g : Nat → Nat), u = gW cI h0 h1 h2 h3 h4 h5 h6 p1 p2 n wn t tc sc uw k c2 s ow g tf ∧ Lof g k = (Lof hf c1).filter (fun x => decide (lo ≤ hatsN n x co) && decide (hatsN n x co ≤ hi2))) := by
  refine Mv_of (by decide +kernel) (Nat.le_of_ble_eq_true rfl) ?_
  intro pr ev sx mi ag bl me cd Q ls S hP hK hD hZ hl ret
  obtain ⟨hx, hb, hml, hown, hts⟩ := id S
  have hown : sx.vm.findClass RX1 = some mi.cls := hown
  have hS : va_S (wIn (gW cI h0 h1 h2 h3 h4 h5 h6 p1 p2 n wn t tc sc uw c1 c2 s ow hf tf)) sx.heap sx.heap [] := va_S.rf
  have hl : lv_has ls 9 [(0, .ref h0), (1, .ref h1), (2, .int (nI co)), (3, .int (nI lo)), (4, .int (nI hi2))] := hl
  refine lv_aload_n hx hb dX1_keepWithHats_0 rfl (lv_at hl 1 rfl) ?_
  refine call_Vp (As := []) (rest := []) S (m_X0_count h1 h5 c1 hf) g_X1_X0_count hd_X0_count ⟨Nat.le_of_ble_eq_true rfl, Nat.le_of_ble_eq_true rfl⟩ ⟨Nat.zero_le _, Nat.zero_le _⟩ hP hD hK hS hZ [1, 5] rfl (by decide) 0 rfl rfl hl.1 rfl (Nat.le_of_ble_eq_true rfl) dX1_keepWithHats_1 (fun r H locs hq hP hS => ?_)
  obtain rfl := hq
  refine lv_istore (lv' := [(5, .int (nI c1)), (0, .ref h0), (1, .ref h1), (2, .int (nI co)), (3, .int (nI lo)), (4, .int (nI hi2))]) hx hb dX1_keepWithHats_4 hl (by decide) rfl (fun ls hl => ?_)
  refine lv_aload_n hx hb dX1_keepWithHats_6 rfl (lv_at hl 2 rfl) ?_
  refine call_Vv (As := []) (wr := [(h0, .inr (1, [.ref p1, .ref p2, .ref h3, .ref h4, .int (nI n), .int (nI wn), .int (nI t), .int (nI tc), .int (nI sc), .int (bI uw)])), (h2, .inr (0, [.ref h6, .int (nI c2)])), (h3, .inl (cI, 5, .inl (fun k => nI (s k)))), (h4, .inl (cI, 1024, .inl (fun k => nI (ow k)))), (h6, .inl (cI, 243, .inl (fun k => nI (tf k))))]) (rest := []) S (m_X0_clear h1 h5 c1 hf) g_X1_X0_clear hd_X0_clear ⟨Nat.le_of_ble_eq_true rfl, Nat.le_of_ble_eq_true rfl⟩ ⟨Nat.zero_le _, Nat.zero_le _⟩ hP hD hK hS hZ [1, 5] [0, 2, 3, 4, 6] rfl rfl (by decide) 0 rfl rfl hl.1 rfl (Nat.le_of_ble_eq_true rfl) dX1_keepWithHats_7 (fun u H locs hq hP hD hS => ?_)
  obtain rfl := hq
  have hP := hP.sub (ws' := gW cI h0 h1 h2 h3 h4 h5 h6 p1 p2 n wn t tc sc uw 0 c2 s ow hf tf) [0, 5, 1, 2, 3, 6, 4] rfl
  have hD := hD.sub (ws' := gW cI h0 h1 h2 h3 h4 h5 h6 p1 p2 n wn t tc sc uw 0 c2 s ow hf tf) [0, 5, 1, 2, 3, 6, 4] (by decide) rfl
  refine lv_iconst (v := nI 0) hx hb dX1_keepWithHats_10 (by decide) ?_
  refine lv_istore (lv' := [(6, .int (nI 0)), (5, .int (nI c1)), (0, .ref h0), (1, .ref h1), (2, .int (nI co)), (3, .int (nI lo)), (4, .int (nI hi2))]) hx hb dX1_keepWithHats_11 hl (by decide) rfl (fun ls hl => ?_)
  have lp13 : ∀ (kf : Nat) (i : Nat) (k : Nat) (g : Nat → Nat), c1 < i + kf → (i ≤ c1) → (k ≤ i) → (∀ j, k ≤ j → g j = hf j) → (Lof g k = (Lof hf i).filter (fun x => decide (lo ≤ hatsN n x co) && decide (hatsN n x co ≤ hi2))) → ∀ (H : Heap) (locs : List Loc), va_P (dC, dI) vwCl (gW cI h0 h1 h2 h3 h4 h5 h6 p1 p2 n wn t tc sc uw k c2 s ow g tf) H → va_D (wIn (gW cI h0 h1 h2 h3 h4 h5 h6 p1 p2 n wn t tc sc uw c1 c2 s ow hf tf)) (gW cI h0 h1 h2 h3 h4 h5 h6 p1 p2 n wn t tc sc uw k c2 s ow g tf) → va_S (wIn (gW cI h0 h1 h2 h3 h4 h5 h6 p1 p2 n wn t tc sc uw c1 c2 s ow hf tf)) sx.heap H locs → ∀ ls : Array Slot, lv_has ls 9 [(6, .int (nI i)), (5, .int (nI c1)), (0, .ref h0), (1, .ref h1), (2, .int (nI co)), (3, .int (nI lo)), (4, .int (nI hi2))] → W pr l ev (rmB 2 45) sx mi ag bl me cd H locs 0 0 Q (F0 mi 13 ls []) := by
    intro kf
    induction kf with
    | zero => intro i k g hkf hi hk hg hL; exact absurd hkf (by omega)
    | succ kf ih13 =>
      intro i k g hkf hi hk hg hL H locs hP hD hS ls hl
      refine lv_iload hx hb dX1_keepWithHats_13 (lv_at hl 0 rfl) ?_
      refine lv_iload hx hb dX1_keepWithHats_15 (lv_at hl 1 rfl) ?_
      refine icN_ge (tgt := 62) hx hb dX1_keepWithHats_17 (by decide) (by omega) (by omega) (fun c_17 => ?_) (fun c_17 => ?_)
      · exact ret (gW cI h0 h1 h2 h3 h4 h5 h6 p1 p2 n wn t tc sc uw k c2 s ow g tf) _ _ _ _ dX1_keepWithHats_62 ⟨k, g, rfl, by rw [hL, show i = c1 by omega]⟩ (List.Perm.refl _) hP hS
      · refine lv_aload_n hx hb dX1_keepWithHats_20 rfl (lv_at hl 3 rfl) ?_
        refine lv_iload hx hb dX1_keepWithHats_21 (lv_at hl 0 rfl) ?_
        refine call_Vp (As := [.int (nI i)]) (rest := []) S (m_X0_at h1 h5 k g i (by omega)) g_X1_X0_at hd_X0_at ⟨Nat.le_of_ble_eq_true rfl, Nat.le_of_ble_eq_true rfl⟩ ⟨Nat.zero_le _, Nat.zero_le _⟩ hP hD hK hS hZ [1, 5] rfl (by decide) 0 rfl rfl hl.1 rfl (Nat.le_of_ble_eq_true rfl) dX1_keepWithHats_23 (fun r H locs hq hP hS => ?_)
        obtain rfl := hq
        refine lv_istore (lv' := [(7, .int (nI (g i))), (6, .int (nI i)), (5, .int (nI c1)), (0, .ref h0), (1, .ref h1), (2, .int (nI co)), (3, .int (nI lo)), (4, .int (nI hi2))]) hx hb dX1_keepWithHats_26 hl (by decide) rfl (fun ls hl => ?_)
        refine lv_aload_n hx hb dX1_keepWithHats_28 rfl (lv_at hl 3 rfl) ?_
        refine lv_iload hx hb dX1_keepWithHats_29 (lv_at hl 0 rfl) ?_
        refine lv_iload_n hx hb dX1_keepWithHats_31 rfl (lv_at hl 5 rfl) ?_
        refine call_Vp (As := [.int (nI (g i)), .int (nI co)]) (rest := []) S (m_X1_hatsIn h0 h1 h2 h3 h4 h5 h6 p1 p2 n wn t tc sc uw k c2 s ow g tf (g i) co hn (by rw [hg i (by omega)]; exact hb1 _ (by omega)) (by omega)) g_X1_X1_hatsIn hd_X1_hatsIn ⟨Nat.le_of_ble_eq_true rfl, Nat.le_of_ble_eq_true rfl⟩ ⟨Nat.zero_le _, Nat.zero_le _⟩ hP hD hK hS hZ [0, 1, 2, 3, 4, 5, 6] rfl (by decide) 0 rfl rfl hl.1 rfl (Nat.le_of_ble_eq_true rfl) dX1_keepWithHats_32 (fun r H locs hq hP hS => ?_)
        obtain rfl := hq
        refine lv_istore (lv' := [(8, .int (nI (hatsN n (g i) co))), (7, .int (nI (g i))), (6, .int (nI i)), (5, .int (nI c1)), (0, .ref h0), (1, .ref h1), (2, .int (nI co)), (3, .int (nI lo)), (4, .int (nI hi2))]) hx hb dX1_keepWithHats_35 hl (by decide) rfl (fun ls hl => ?_)
        refine lv_iload hx hb dX1_keepWithHats_37 (lv_at hl 0 rfl) ?_
        refine lv_iload_n hx hb dX1_keepWithHats_39 rfl (lv_at hl 7 rfl) ?_
        refine icN_lt (tgt := 56) hx hb dX1_keepWithHats_40 (by decide) (by have := hatsN_le n (g i) co; omega) (by omega) (fun c_40 => ?_) (fun c_40 => ?_)
        · refine lv_iinc (v := nI (i + 1)) (lv' := [(6, .int (nI (i + 1))), (8, .int (nI (hatsN n (g i) co))), (7, .int (nI (g i))), (5, .int (nI c1)), (0, .ref h0), (1, .ref h1), (2, .int (nI co)), (3, .int (nI lo)), (4, .int (nI hi2))]) hx hb dX1_keepWithHats_56 hl (k := 2) rfl (nI_add _ _) (by decide) rfl (fun ls hl => ?_)
          refine lv_goto (tgt := 13) hx hb dX1_keepWithHats_59 (by decide) ?_
          exact ih13 (i + 1) _ _ (by omega) (by omega) (by omega) (fun j hj => hg j (by omega)) (flt_f (hg _ (by omega)) (by simp; omega) hL) _ _ hP hD hS _ (lv_sub hl [0, 3, 4, 5, 6, 7, 8] rfl)
        · refine lv_iload hx hb dX1_keepWithHats_43 (lv_at hl 0 rfl) ?_
          refine lv_iload hx hb dX1_keepWithHats_45 (lv_at hl 8 rfl) ?_
          refine icN_gt (tgt := 56) hx hb dX1_keepWithHats_47 (by decide) (by have := hatsN_le n (g i) co; omega) (by omega) (fun c_47 => ?_) (fun c_47 => ?_)
          · refine lv_iinc (v := nI (i + 1)) (lv' := [(6, .int (nI (i + 1))), (8, .int (nI (hatsN n (g i) co))), (7, .int (nI (g i))), (5, .int (nI c1)), (0, .ref h0), (1, .ref h1), (2, .int (nI co)), (3, .int (nI lo)), (4, .int (nI hi2))]) hx hb dX1_keepWithHats_56 hl (k := 2) rfl (nI_add _ _) (by decide) rfl (fun ls hl => ?_)
            refine lv_goto (tgt := 13) hx hb dX1_keepWithHats_59 (by decide) ?_
            exact ih13 (i + 1) _ _ (by omega) (by omega) (by omega) (fun j hj => hg j (by omega)) (flt_f (hg _ (by omega)) (by simp; omega) hL) _ _ hP hD hS _ (lv_sub hl [0, 3, 4, 5, 6, 7, 8] rfl)
          · refine lv_aload_n hx hb dX1_keepWithHats_50 rfl (lv_at hl 5 rfl) ?_
            refine lv_iload hx hb dX1_keepWithHats_51 (lv_at hl 1 rfl) ?_
            refine call_Vv (As := [.int (nI (g i))]) (wr := [(h0, .inr (1, [.ref p1, .ref p2, .ref h3, .ref h4, .int (nI n), .int (nI wn), .int (nI t), .int (nI tc), .int (nI sc), .int (bI uw)])), (h2, .inr (0, [.ref h6, .int (nI c2)])), (h3, .inl (cI, 5, .inl (fun k => nI (s k)))), (h4, .inl (cI, 1024, .inl (fun k => nI (ow k)))), (h6, .inl (cI, 243, .inl (fun k => nI (tf k))))]) (rest := []) S (m_X0_add h1 h5 k g (g i) (by omega)) g_X1_X0_add hd_X0_add ⟨Nat.le_of_ble_eq_true rfl, Nat.le_of_ble_eq_true rfl⟩ ⟨Nat.zero_le _, Nat.zero_le _⟩ hP hD hK hS hZ [1, 5] [0, 2, 3, 4, 6] rfl rfl (by decide) 0 rfl rfl hl.1 rfl (Nat.le_of_ble_eq_true rfl) dX1_keepWithHats_53 (fun u H locs hq hP hD hS => ?_)
            obtain rfl := hq
            have hP := hP.sub (ws' := gW cI h0 h1 h2 h3 h4 h5 h6 p1 p2 n wn t tc sc uw (k + 1) c2 s ow (upN g k (g i)) tf) [0, 5, 1, 2, 3, 6, 4] rfl
            have hD := hD.sub (ws' := gW cI h0 h1 h2 h3 h4 h5 h6 p1 p2 n wn t tc sc uw (k + 1) c2 s ow (upN g k (g i)) tf) [0, 5, 1, 2, 3, 6, 4] (by decide) rfl
            refine lv_iinc (v := nI (i + 1)) (lv' := [(6, .int (nI (i + 1))), (8, .int (nI (hatsN n (g i) co))), (7, .int (nI (g i))), (5, .int (nI c1)), (0, .ref h0), (1, .ref h1), (2, .int (nI co)), (3, .int (nI lo)), (4, .int (nI hi2))]) hx hb dX1_keepWithHats_56 hl (k := 2) rfl (nI_add _ _) (by decide) rfl (fun ls hl => ?_)
            refine lv_goto (tgt := 13) hx hb dX1_keepWithHats_59 (by decide) ?_
            exact ih13 (i + 1) _ _ (by omega) (by omega) (by omega) (fun j hj => by rw [upN_n _ _ (by omega)]; exact hg j (by omega)) (flt_t (hg _ (by omega)) (by simp; omega) hL) _ _ hP hD hS _ (lv_sub hl [0, 3, 4, 5, 6, 7, 8] rfl)
  exact lp13 (c1 + 1) 0 0 hf (by omega) (by omega) (by omega) (fun _ _ => rfl) rfl _ _ hP hD hS _ (lv_sub hl [0, 1, 2, 3, 4, 5, 6] rfl)

set_option maxHeartbeats 4000000 in
set_option maxRecDepth 100000 in
theorem m_X1_keepWithHat (h1 h5 c1 : Nat) (hf : Nat → Nat) (j co : Nat) (hj : j < 5) (hco : co < 4) (hc1 : c1 ≤ 243) (hb1 : ∀ j, j < c1 → hf j < 1024) : Mv l yX1_keepWithHat ws_X1_keepWithHat 1 21 (dC, dI) (tyL cI cZ cS cW) [.ref h1, .int (nI j), .int (nI co)] (waW cI h1 h5 c1 hf) (fun u => ∃ (k : Nat) (g : Nat → Nat), u = waW cI h1 h5 k g ∧ Lof g k = (Lof hf c1).filter (fun x => qd x j == co)) := by
  refine Mv_of (by decide +kernel) (Nat.le_of_ble_eq_true rfl) ?_
  intro pr ev sx mi ag bl me cd Q ls S hP hK hD hZ hl ret
  obtain ⟨hx, hb, hml, hown, hts⟩ := id S
  have hown : sx.vm.findClass RX1 = some mi.cls := hown
  have hS : va_S (wIn (waW cI h1 h5 c1 hf)) sx.heap sx.heap [] := va_S.rf
  have hl : lv_has ls 6 [(0, .ref h1), (1, .int (nI j)), (2, .int (nI co))] := hl
  refine lv_aload_n hx hb dX1_keepWithHat_0 rfl (lv_at hl 0 rfl) ?_
  refine call_Vp (As := []) (rest := []) S (m_X0_count h1 h5 c1 hf) g_X1_X0_count hd_X0_count ⟨Nat.le_of_ble_eq_true rfl, Nat.le_of_ble_eq_true rfl⟩ ⟨Nat.zero_le _, Nat.zero_le _⟩ hP hD hK hS hZ [0, 1] rfl (by decide) 0 rfl rfl hl.1 rfl (Nat.le_of_ble_eq_true rfl) dX1_keepWithHat_1 (fun r H locs hq hP hS => ?_)
  obtain rfl := hq
  refine lv_istore_n (lv' := [(3, .int (nI c1)), (0, .ref h1), (1, .int (nI j)), (2, .int (nI co))]) hx hb dX1_keepWithHat_4 rfl hl (by decide) rfl (fun ls hl => ?_)
  refine lv_aload_n hx hb dX1_keepWithHat_5 rfl (lv_at hl 1 rfl) ?_
  refine call_Vv (As := []) (wr := []) (rest := []) S (m_X0_clear h1 h5 c1 hf) g_X1_X0_clear hd_X0_clear ⟨Nat.le_of_ble_eq_true rfl, Nat.le_of_ble_eq_true rfl⟩ ⟨Nat.zero_le _, Nat.zero_le _⟩ hP hD hK hS hZ [0, 1] [] rfl rfl (by decide) 0 rfl rfl hl.1 rfl (Nat.le_of_ble_eq_true rfl) dX1_keepWithHat_6 (fun u H locs hq hP hD hS => ?_)
  obtain rfl := hq
  have hP : va_P (dC, dI) vwCl (waW cI h1 h5 0 hf) H := hP
  have hD : va_D (wIn (waW cI h1 h5 c1 hf)) (waW cI h1 h5 0 hf) := hD
  refine lv_iconst (v := nI 0) hx hb dX1_keepWithHat_9 (by decide) ?_
  refine lv_istore (lv' := [(4, .int (nI 0)), (3, .int (nI c1)), (0, .ref h1), (1, .int (nI j)), (2, .int (nI co))]) hx hb dX1_keepWithHat_10 hl (by decide) rfl (fun ls hl => ?_)
  have lp12 : ∀ (kf : Nat) (i : Nat) (k : Nat) (g : Nat → Nat), c1 < i + kf → (i ≤ c1) → (k ≤ i) → (∀ j, k ≤ j → g j = hf j) → (Lof g k = (Lof hf i).filter (fun x => qd x j == co)) → ∀ (H : Heap) (locs : List Loc), va_P (dC, dI) vwCl (waW cI h1 h5 k g) H → va_D (wIn (waW cI h1 h5 c1 hf)) (waW cI h1 h5 k g) → va_S (wIn (waW cI h1 h5 c1 hf)) sx.heap H locs → ∀ ls : Array Slot, lv_has ls 6 [(4, .int (nI i)), (3, .int (nI c1)), (0, .ref h1), (1, .int (nI j)), (2, .int (nI co))] → W pr l ev (rmB 1 21) sx mi ag bl me cd H locs 0 0 Q (F0 mi 12 ls []) := by
    intro kf
    induction kf with
    | zero => intro i k g hkf hi hk hg hL; exact absurd hkf (by omega)
    | succ kf ih12 =>
      intro i k g hkf hi hk hg hL H locs hP hD hS ls hl
      refine lv_iload hx hb dX1_keepWithHat_12 (lv_at hl 0 rfl) ?_
      refine lv_iload_n hx hb dX1_keepWithHat_14 rfl (lv_at hl 1 rfl) ?_
      refine icN_ge (tgt := 48) hx hb dX1_keepWithHat_15 (by decide) (by omega) (by omega) (fun c_15 => ?_) (fun c_15 => ?_)
      · exact ret (waW cI h1 h5 k g) _ _ _ _ dX1_keepWithHat_48 ⟨k, g, rfl, by rw [hL, show i = c1 by omega]⟩ (List.Perm.refl _) hP hS
      · refine lv_aload_n hx hb dX1_keepWithHat_18 rfl (lv_at hl 2 rfl) ?_
        refine lv_iload hx hb dX1_keepWithHat_19 (lv_at hl 0 rfl) ?_
        refine call_Vp (As := [.int (nI i)]) (rest := []) S (m_X0_at h1 h5 k g i (by omega)) g_X1_X0_at hd_X0_at ⟨Nat.le_of_ble_eq_true rfl, Nat.le_of_ble_eq_true rfl⟩ ⟨Nat.zero_le _, Nat.zero_le _⟩ hP hD hK hS hZ [0, 1] rfl (by decide) 0 rfl rfl hl.1 rfl (Nat.le_of_ble_eq_true rfl) dX1_keepWithHat_21 (fun r H locs hq hP hS => ?_)
        obtain rfl := hq
        refine lv_istore (lv' := [(5, .int (nI (g i))), (4, .int (nI i)), (3, .int (nI c1)), (0, .ref h1), (1, .int (nI j)), (2, .int (nI co))]) hx hb dX1_keepWithHat_24 hl (by decide) rfl (fun ls hl => ?_)
        refine lv_iload hx hb dX1_keepWithHat_26 (lv_at hl 0 rfl) ?_
        refine lv_iload_n hx hb dX1_keepWithHat_28 rfl (lv_at hl 4 rfl) ?_
        refine call_Sp (As := [.int (nI (g i)), .int (nI j)]) (rest := []) S (m_X1_colourIn (g i) j (by rw [hg i (by omega)]; exact hb1 _ (by omega)) (by omega)) g_X1_X1_colourIn hd_X1_colourIn ⟨Nat.le_of_ble_eq_true rfl, Nat.le_of_ble_eq_true rfl⟩ ⟨Nat.zero_le _, Nat.zero_le _⟩ hP hD hK hS hZ [] rfl (by decide) hl.1 rfl (Nat.le_of_ble_eq_true rfl) dX1_keepWithHat_29 (fun r H locs hq hP hS => ?_)
        obtain rfl := hq
        refine lv_iload_n hx hb dX1_keepWithHat_32 rfl (lv_at hl 5 rfl) ?_
        refine icN_ne (tgt := 42) hx hb dX1_keepWithHat_33 (by decide) (by have := qd_lt (g i) j; omega) (by omega) (fun c_33 => ?_) (fun c_33 => ?_)
        · refine lv_iinc (v := nI (i + 1)) (lv' := [(4, .int (nI (i + 1))), (5, .int (nI (g i))), (3, .int (nI c1)), (0, .ref h1), (1, .int (nI j)), (2, .int (nI co))]) hx hb dX1_keepWithHat_42 hl (k := 1) rfl (nI_add _ _) (by decide) rfl (fun ls hl => ?_)
          refine lv_goto (tgt := 12) hx hb dX1_keepWithHat_45 (by decide) ?_
          exact ih12 (i + 1) _ _ (by omega) (by omega) (by omega) (fun j hj => hg j (by omega)) (flt_f (hg _ (by omega)) (by simp [c_33]) hL) _ _ hP hD hS _ (lv_sub hl [0, 2, 3, 4, 5] rfl)
        · refine lv_aload_n hx hb dX1_keepWithHat_36 rfl (lv_at hl 3 rfl) ?_
          refine lv_iload hx hb dX1_keepWithHat_37 (lv_at hl 0 rfl) ?_
          refine call_Vv (As := [.int (nI (g i))]) (wr := []) (rest := []) S (m_X0_add h1 h5 k g (g i) (by omega)) g_X1_X0_add hd_X0_add ⟨Nat.le_of_ble_eq_true rfl, Nat.le_of_ble_eq_true rfl⟩ ⟨Nat.zero_le _, Nat.zero_le _⟩ hP hD hK hS hZ [0, 1] [] rfl rfl (by decide) 0 rfl rfl hl.1 rfl (Nat.le_of_ble_eq_true rfl) dX1_keepWithHat_39 (fun u H locs hq hP hD hS => ?_)
          obtain rfl := hq
          have hP : va_P (dC, dI) vwCl (waW cI h1 h5 (k + 1) (upN g k (g i))) H := hP
          have hD : va_D (wIn (waW cI h1 h5 c1 hf)) (waW cI h1 h5 (k + 1) (upN g k (g i))) := hD
          refine lv_iinc (v := nI (i + 1)) (lv' := [(4, .int (nI (i + 1))), (5, .int (nI (g i))), (3, .int (nI c1)), (0, .ref h1), (1, .int (nI j)), (2, .int (nI co))]) hx hb dX1_keepWithHat_42 hl (k := 1) rfl (nI_add _ _) (by decide) rfl (fun ls hl => ?_)
          refine lv_goto (tgt := 12) hx hb dX1_keepWithHat_45 (by decide) ?_
          exact ih12 (i + 1) _ _ (by omega) (by omega) (by omega) (fun j hj => by rw [upN_n _ _ (by omega)]; exact hg j (by omega)) (flt_t (hg _ (by omega)) (by simp [c_33]) hL) _ _ hP hD hS _ (lv_sub hl [0, 2, 3, 4, 5] rfl)
  exact lp12 (c1 + 1) 0 0 hf (by omega) (by omega) (by omega) (fun _ _ => rfl) rfl _ _ hP hD hS _ (lv_sub hl [0, 1, 2, 3, 4] rfl)

set_option maxHeartbeats 4000000 in
set_option maxRecDepth 100000 in
theorem m_X1_keepByCertainty (h0 h1 h2 h3 h4 h5 h6 p1 p2 n wn t tc sc : Nat) (uw : Bool) (c1 c2 : Nat) (s ow hf tf : Nat → Nat) (j : Nat) (b : Bool) (hj : j < 5) (hc1 : c1 ≤ 243) (hb1 : ∀ j, j < c1 → hf j < 1024) : Mv l yX1_keepByCertainty ws_X1_keepByCertainty 3 68 (dC, dI) (tyL cI cZ cS cW) [.ref h0, .ref h1, .int (nI j), .int (bI b)] (gW cI h0 h1 h2 h3 h4 h5 h6 p1 p2 n wn t tc sc uw c1 c2 s ow hf tf) (fun u => ∃ (k : Nat) (og g : Nat → Nat), u = gW cI h0 h1 h2 h3 h4 h5 h6 p1 p2 n wn t tc sc uw k c2 s og g tf ∧ Lof g k = (Lof hf c1).filter (fun x => wbc (s j) j (Lof hf c1) x == b)) := by
  refine Mv_of (by decide +kernel) (Nat.le_of_ble_eq_true rfl) ?_
  intro pr ev sx mi ag bl me cd Q ls S hP hK hD hZ hl ret
  obtain ⟨hx, hb, hml, hown, hts⟩ := id S
  have hown : sx.vm.findClass RX1 = some mi.cls := hown
  have hS : va_S (wIn (gW cI h0 h1 h2 h3 h4 h5 h6 p1 p2 n wn t tc sc uw c1 c2 s ow hf tf)) sx.heap sx.heap [] := va_S.rf
  have hl : lv_has ls 7 [(0, .ref h0), (1, .ref h1), (2, .int (nI j)), (3, .int (bI b))] := hl
  refine lv_aload_n hx hb dX1_keepByCertainty_0 rfl (lv_at hl 0 rfl) ?_
  refine lv_aload_n hx hb dX1_keepByCertainty_1 rfl (lv_at hl 1 rfl) ?_
  refine lv_iload_n hx hb dX1_keepByCertainty_2 rfl (lv_at hl 2 rfl) ?_
  refine call_Vv (As := [.ref h1, .int (nI j)]) (wr := []) (rest := []) S (m_X1_noteOwnColours h0 h1 h2 h3 h4 h5 h6 p1 p2 n wn t tc sc uw c1 c2 s ow hf tf j (by omega) hc1 hb1) g_X1_X1_noteOwnColours hd_X1_noteOwnColours ⟨Nat.le_of_ble_eq_true rfl, Nat.le_of_ble_eq_true rfl⟩ ⟨Nat.zero_le _, Nat.zero_le _⟩ hP hD hK hS hZ [0, 1, 2, 3, 4, 5, 6] [] rfl rfl (by decide) 0 rfl rfl hl.1 rfl (Nat.le_of_ble_eq_true rfl) dX1_keepByCertainty_3 (fun u H locs hq hP hD hS => ?_)
  obtain ⟨og, rfl, hog⟩ := hq
  have hP : va_P (dC, dI) vwCl (gW cI h0 h1 h2 h3 h4 h5 h6 p1 p2 n wn t tc sc uw c1 c2 s og hf tf) H := hP
  have hD : va_D (wIn (gW cI h0 h1 h2 h3 h4 h5 h6 p1 p2 n wn t tc sc uw c1 c2 s ow hf tf)) (gW cI h0 h1 h2 h3 h4 h5 h6 p1 p2 n wn t tc sc uw c1 c2 s og hf tf) := hD
  refine lv_aload_n hx hb dX1_keepByCertainty_6 rfl (lv_at hl 1 rfl) ?_
  refine call_Vp (As := []) (rest := []) S (m_X0_count h1 h5 c1 hf) g_X1_X0_count hd_X0_count ⟨Nat.le_of_ble_eq_true rfl, Nat.le_of_ble_eq_true rfl⟩ ⟨Nat.zero_le _, Nat.zero_le _⟩ hP hD hK hS hZ [1, 5] rfl (by decide) 0 rfl rfl hl.1 rfl (Nat.le_of_ble_eq_true rfl) dX1_keepByCertainty_7 (fun r H locs hq hP hS => ?_)
  obtain rfl := hq
  refine lv_istore (lv' := [(4, .int (nI c1)), (0, .ref h0), (1, .ref h1), (2, .int (nI j)), (3, .int (bI b))]) hx hb dX1_keepByCertainty_10 hl (by decide) rfl (fun ls hl => ?_)
  refine lv_aload_n hx hb dX1_keepByCertainty_12 rfl (lv_at hl 2 rfl) ?_
  refine call_Vv (As := []) (wr := [(h0, .inr (1, [.ref p1, .ref p2, .ref h3, .ref h4, .int (nI n), .int (nI wn), .int (nI t), .int (nI tc), .int (nI sc), .int (bI uw)])), (h2, .inr (0, [.ref h6, .int (nI c2)])), (h3, .inl (cI, 5, .inl (fun k => nI (s k)))), (h4, .inl (cI, 1024, .inl (fun k => nI (og k)))), (h6, .inl (cI, 243, .inl (fun k => nI (tf k))))]) (rest := []) S (m_X0_clear h1 h5 c1 hf) g_X1_X0_clear hd_X0_clear ⟨Nat.le_of_ble_eq_true rfl, Nat.le_of_ble_eq_true rfl⟩ ⟨Nat.zero_le _, Nat.zero_le _⟩ hP hD hK hS hZ [1, 5] [0, 2, 3, 4, 6] rfl rfl (by decide) 0 rfl rfl hl.1 rfl (Nat.le_of_ble_eq_true rfl) dX1_keepByCertainty_13 (fun u H locs hq hP hD hS => ?_)
  obtain rfl := hq
  have hP := hP.sub (ws' := gW cI h0 h1 h2 h3 h4 h5 h6 p1 p2 n wn t tc sc uw 0 c2 s og hf tf) [0, 5, 1, 2, 3, 6, 4] rfl
  have hD := hD.sub (ws' := gW cI h0 h1 h2 h3 h4 h5 h6 p1 p2 n wn t tc sc uw 0 c2 s og hf tf) [0, 5, 1, 2, 3, 6, 4] (by decide) rfl
  refine lv_iconst (v := nI 0) hx hb dX1_keepByCertainty_16 (by decide) ?_
  refine lv_istore (lv' := [(5, .int (nI 0)), (4, .int (nI c1)), (0, .ref h0), (1, .ref h1), (2, .int (nI j)), (3, .int (bI b))]) hx hb dX1_keepByCertainty_17 hl (by decide) rfl (fun ls hl => ?_)
  have lp19 : ∀ (kf : Nat) (i : Nat) (k : Nat) (g : Nat → Nat), c1 < i + kf → (i ≤ c1) → (k ≤ i) → (∀ j, k ≤ j → g j = hf j) → (Lof g k = (Lof hf i).filter (fun x => wbc (s j) j (Lof hf c1) x == b)) → ∀ (H : Heap) (locs : List Loc), va_P (dC, dI) vwCl (gW cI h0 h1 h2 h3 h4 h5 h6 p1 p2 n wn t tc sc uw k c2 s og g tf) H → va_D (wIn (gW cI h0 h1 h2 h3 h4 h5 h6 p1 p2 n wn t tc sc uw c1 c2 s ow hf tf)) (gW cI h0 h1 h2 h3 h4 h5 h6 p1 p2 n wn t tc sc uw k c2 s og g tf) → va_S (wIn (gW cI h0 h1 h2 h3 h4 h5 h6 p1 p2 n wn t tc sc uw c1 c2 s ow hf tf)) sx.heap H locs → ∀ ls : Array Slot, lv_has ls 7 [(5, .int (nI i)), (4, .int (nI c1)), (0, .ref h0), (1, .ref h1), (2, .int (nI j)), (3, .int (bI b))] → W pr l ev (rmB 3 68) sx mi ag bl me cd H locs 0 0 Q (F0 mi 19 ls []) := by
    intro kf
    induction kf with
    | zero => intro i k g hkf hi hk hg hL; exact absurd hkf (by omega)
    | succ kf ih19 =>
      intro i k g hkf hi hk hg hL H locs hP hD hS ls hl
      refine lv_iload hx hb dX1_keepByCertainty_19 (lv_at hl 0 rfl) ?_
      refine lv_iload hx hb dX1_keepByCertainty_21 (lv_at hl 1 rfl) ?_
      refine icN_ge (tgt := 57) hx hb dX1_keepByCertainty_23 (by decide) (by omega) (by omega) (fun c_23 => ?_) (fun c_23 => ?_)
      · exact ret (gW cI h0 h1 h2 h3 h4 h5 h6 p1 p2 n wn t tc sc uw k c2 s og g tf) _ _ _ _ dX1_keepByCertainty_57 ⟨k, og, g, rfl, by rw [hL, show i = c1 by omega]⟩ (List.Perm.refl _) hP hS
      · refine lv_aload_n hx hb dX1_keepByCertainty_26 rfl (lv_at hl 3 rfl) ?_
        refine lv_iload hx hb dX1_keepByCertainty_27 (lv_at hl 0 rfl) ?_
        refine call_Vp (As := [.int (nI i)]) (rest := []) S (m_X0_at h1 h5 k g i (by omega)) g_X1_X0_at hd_X0_at ⟨Nat.le_of_ble_eq_true rfl, Nat.le_of_ble_eq_true rfl⟩ ⟨Nat.zero_le _, Nat.zero_le _⟩ hP hD hK hS hZ [1, 5] rfl (by decide) 0 rfl rfl hl.1 rfl (Nat.le_of_ble_eq_true rfl) dX1_keepByCertainty_29 (fun r H locs hq hP hS => ?_)
        obtain rfl := hq
        refine lv_istore (lv' := [(6, .int (nI (g i))), (5, .int (nI i)), (4, .int (nI c1)), (0, .ref h0), (1, .ref h1), (2, .int (nI j)), (3, .int (bI b))]) hx hb dX1_keepByCertainty_32 hl (by decide) rfl (fun ls hl => ?_)
        refine lv_aload_n hx hb dX1_keepByCertainty_34 rfl (lv_at hl 3 rfl) ?_
        refine lv_iload hx hb dX1_keepByCertainty_35 (lv_at hl 0 rfl) ?_
        refine lv_iload_n hx hb dX1_keepByCertainty_37 rfl (lv_at hl 5 rfl) ?_
        refine call_Vp (As := [.int (nI (g i)), .int (nI j)]) (rest := []) S (m_X1_wouldBeCertain h0 h1 h2 h3 h4 h5 h6 p1 p2 n wn t tc sc uw k c2 s og g tf (g i) j (by omega) (by rw [hg i (by omega), hog i (by omega)]; exact ocol_lt _ _ _ _)) g_X1_X1_wouldBeCertain hd_X1_wouldBeCertain ⟨Nat.le_of_ble_eq_true rfl, Nat.le_of_ble_eq_true rfl⟩ ⟨Nat.zero_le _, Nat.zero_le _⟩ hP hD hK hS hZ [0, 1, 2, 3, 4, 5, 6] rfl (by decide) 0 rfl rfl hl.1 rfl (Nat.le_of_ble_eq_true rfl) dX1_keepByCertainty_38 (fun r H locs hq hP hS => ?_)
        obtain rfl : r = bI (wbc (s j) j (Lof hf c1) (g i)) := by rw [hq, wbc, hg i (by omega), hog i (by omega)]
        refine lv_iload_n hx hb dX1_keepByCertainty_41 rfl (lv_at hl 6 rfl) ?_
        refine icB_ne (tgt := 51) hx hb dX1_keepByCertainty_42 (by decide) (fun c_42 => ?_) (fun c_42 => ?_)
        · refine lv_iinc (v := nI (i + 1)) (lv' := [(5, .int (nI (i + 1))), (6, .int (nI (g i))), (4, .int (nI c1)), (0, .ref h0), (1, .ref h1), (2, .int (nI j)), (3, .int (bI b))]) hx hb dX1_keepByCertainty_51 hl (k := 1) rfl (nI_add _ _) (by decide) rfl (fun ls hl => ?_)
          refine lv_goto (tgt := 19) hx hb dX1_keepByCertainty_54 (by decide) ?_
          exact ih19 (i + 1) _ _ (by omega) (by omega) (by omega) (fun j hj => hg j (by omega)) (flt_f (hg _ (by omega)) (by simp [c_42]) hL) _ _ hP hD hS _ (lv_sub hl [0, 2, 3, 4, 5, 6] rfl)
        · refine lv_aload_n hx hb dX1_keepByCertainty_45 rfl (lv_at hl 4 rfl) ?_
          refine lv_iload hx hb dX1_keepByCertainty_46 (lv_at hl 0 rfl) ?_
          refine call_Vv (As := [.int (nI (g i))]) (wr := [(h0, .inr (1, [.ref p1, .ref p2, .ref h3, .ref h4, .int (nI n), .int (nI wn), .int (nI t), .int (nI tc), .int (nI sc), .int (bI uw)])), (h2, .inr (0, [.ref h6, .int (nI c2)])), (h3, .inl (cI, 5, .inl (fun k => nI (s k)))), (h4, .inl (cI, 1024, .inl (fun k => nI (og k)))), (h6, .inl (cI, 243, .inl (fun k => nI (tf k))))]) (rest := []) S (m_X0_add h1 h5 k g (g i) (by omega)) g_X1_X0_add hd_X0_add ⟨Nat.le_of_ble_eq_true rfl, Nat.le_of_ble_eq_true rfl⟩ ⟨Nat.zero_le _, Nat.zero_le _⟩ hP hD hK hS hZ [1, 5] [0, 2, 3, 4, 6] rfl rfl (by decide) 0 rfl rfl hl.1 rfl (Nat.le_of_ble_eq_true rfl) dX1_keepByCertainty_48 (fun u H locs hq hP hD hS => ?_)
          obtain rfl := hq
          have hP := hP.sub (ws' := gW cI h0 h1 h2 h3 h4 h5 h6 p1 p2 n wn t tc sc uw (k + 1) c2 s og (upN g k (g i)) tf) [0, 5, 1, 2, 3, 6, 4] rfl
          have hD := hD.sub (ws' := gW cI h0 h1 h2 h3 h4 h5 h6 p1 p2 n wn t tc sc uw (k + 1) c2 s og (upN g k (g i)) tf) [0, 5, 1, 2, 3, 6, 4] (by decide) rfl
          refine lv_iinc (v := nI (i + 1)) (lv' := [(5, .int (nI (i + 1))), (6, .int (nI (g i))), (4, .int (nI c1)), (0, .ref h0), (1, .ref h1), (2, .int (nI j)), (3, .int (bI b))]) hx hb dX1_keepByCertainty_51 hl (k := 1) rfl (nI_add _ _) (by decide) rfl (fun ls hl => ?_)
          refine lv_goto (tgt := 19) hx hb dX1_keepByCertainty_54 (by decide) ?_
          exact ih19 (i + 1) _ _ (by omega) (by omega) (by omega) (fun j hj => by rw [upN_n _ _ (by omega)]; exact hg j (by omega)) (flt_t (hg _ (by omega)) (by simp [c_42]) hL) _ _ hP hD hS _ (lv_sub hl [0, 2, 3, 4, 5, 6] rfl)
  exact lp19 (c1 + 1) 0 0 hf (by omega) (by omega) (by omega) (fun _ _ => rfl) rfl _ _ hP hD hS _ (lv_sub hl [0, 1, 2, 3, 4, 5] rfl)

set_option maxHeartbeats 4000000 in
set_option maxRecDepth 100000 in
theorem m_X1_passTurn (h0 h1 h2 h3 h4 h5 h6 p1 p2 n wn t tc sc : Nat) (uw : Bool) (c1 c2 : Nat) (s ow hf tf : Nat → Nat) (j : Nat) (hj : j < 5) (hw : wn < 1024) (hc1 : c1 ≤ 243) (hb1 : ∀ j, j < c1 → hf j < 1024) : Mi l yX1_passTurn ws_X1_passTurn 4 94 (dC, dI) (tyL cI cZ cS cW) [.ref h0, .ref h1, .int (nI j)] (gW cI h0 h1 h2 h3 h4 h5 h6 p1 p2 n wn t tc sc uw c1 c2 s ow hf tf) (fun r u => r = bI (cert wn (s j) j (Lof hf c1)) ∧ ∃ (k : Nat) (og g : Nat → Nat), u = gW cI h0 h1 h2 h3 h4 h5 h6 p1 p2 n wn t tc sc uw k c2 s og g tf ∧ Lof g k = turnL wn (s j) j (Lof hf c1)) := by
  refine Mi_of (by decide +kernel) (Nat.le_of_ble_eq_true rfl) ?_
  intro pr ev sx mi ag bl me cd Q ls S hP hK hD hZ hl ret
  obtain ⟨hx, hb, hml, hown, hts⟩ := id S
  have hown : sx.vm.findClass RX1 = some mi.cls := hown
  have hS : va_S (wIn (gW cI h0 h1 h2 h3 h4 h5 h6 p1 p2 n wn t tc sc uw c1 c2 s ow hf tf)) sx.heap sx.heap [] := va_S.rf
  have hl : lv_has ls 4 [(0, .ref h0), (1, .ref h1), (2, .int (nI j))] := hl
  refine lv_aload_n hx hb dX1_passTurn_0 rfl (lv_at hl 0 rfl) ?_
  refine lv_aload_n hx hb dX1_passTurn_1 rfl (lv_at hl 1 rfl) ?_
  refine lv_iload_n hx hb dX1_passTurn_2 rfl (lv_at hl 2 rfl) ?_
  refine call_Vp (As := [.ref h1, .int (nI j)]) (rest := []) S (m_X1_isCertainBy h0 h1 h2 h3 h4 h5 h6 p1 p2 n wn t tc sc uw c1 c2 s ow hf tf j (by omega) hw hc1 hb1) g_X1_X1_isCertainBy hd_X1_isCertainBy ⟨Nat.le_of_ble_eq_true rfl, Nat.le_of_ble_eq_true rfl⟩ ⟨Nat.zero_le _, Nat.zero_le _⟩ hP hD hK hS hZ [0, 1, 2, 3, 4, 5, 6] rfl (by decide) 0 rfl rfl hl.1 rfl (Nat.le_of_ble_eq_true rfl) dX1_passTurn_3 (fun r H locs hq hP hS => ?_)
  obtain rfl := hq
  refine lv_istore_n (lv' := [(3, .int (bI (cert wn (s j) j (Lof hf c1)))), (0, .ref h0), (1, .ref h1), (2, .int (nI j))]) hx hb dX1_passTurn_6 rfl hl (by decide) rfl (fun ls hl => ?_)
  refine lv_aload_n hx hb dX1_passTurn_7 rfl (lv_at hl 1 rfl) ?_
  refine lv_aload_n hx hb dX1_passTurn_8 rfl (lv_at hl 2 rfl) ?_
  refine lv_iload_n hx hb dX1_passTurn_9 rfl (lv_at hl 3 rfl) ?_
  refine lv_iload_n hx hb dX1_passTurn_10 rfl (lv_at hl 0 rfl) ?_
  refine call_Vv (As := [.ref h1, .int (nI j), .int (bI (cert wn (s j) j (Lof hf c1)))]) (wr := []) (rest := []) S (m_X1_keepByCertainty h0 h1 h2 h3 h4 h5 h6 p1 p2 n wn t tc sc uw c1 c2 s ow hf tf j (cert wn (s j) j (Lof hf c1)) (by omega) hc1 hb1) g_X1_X1_keepByCertainty hd_X1_keepByCertainty ⟨Nat.le_of_ble_eq_true rfl, Nat.le_of_ble_eq_true rfl⟩ ⟨Nat.zero_le _, Nat.zero_le _⟩ hP hD hK hS hZ [0, 1, 2, 3, 4, 5, 6] [] rfl rfl (by decide) 0 rfl rfl hl.1 rfl (Nat.le_of_ble_eq_true rfl) dX1_passTurn_11 (fun u H locs hq hP hD hS => ?_)
  obtain ⟨k8, og8, g8, rfl, hL8⟩ := hq
  have hP : va_P (dC, dI) vwCl (gW cI h0 h1 h2 h3 h4 h5 h6 p1 p2 n wn t tc sc uw k8 c2 s og8 g8 tf) H := hP
  have hD : va_D (wIn (gW cI h0 h1 h2 h3 h4 h5 h6 p1 p2 n wn t tc sc uw c1 c2 s ow hf tf)) (gW cI h0 h1 h2 h3 h4 h5 h6 p1 p2 n wn t tc sc uw k8 c2 s og8 g8 tf) := hD
  refine lv_iload_n hx hb dX1_passTurn_14 rfl (lv_at hl 0 rfl) ?_
  refine ifB_eq (tgt := 31) hx hb dX1_passTurn_15 (by decide) (fun c_15 => ?_) (fun c_15 => ?_)
  · refine lv_iload_n hx hb dX1_passTurn_31 rfl (lv_at hl 0 rfl) ?_
    exact ret _ (gW cI h0 h1 h2 h3 h4 h5 h6 p1 p2 n wn t tc sc uw k8 c2 s og8 g8 tf) _ _ _ _ dX1_passTurn_32 (bI_nar _) ⟨rfl, k8, og8, g8, rfl, by rw [hL8, turnL, c_15]; rfl⟩ (List.Perm.refl _) hP hS
  · refine lv_aload_n hx hb dX1_passTurn_18 rfl (lv_at hl 2 rfl) ?_
    refine lv_iload_n hx hb dX1_passTurn_19 rfl (lv_at hl 3 rfl) ?_
    refine lv_aload_n hx hb dX1_passTurn_20 rfl (lv_at hl 1 rfl) ?_
    refine va_get (D := (dC, dI)) (ci := 1) (v := .int (nI wn)) (C := RX1) (T := TX1) (N := 10) hx hb hts inX1 hown hK hP 0 rfl rfl 5 (by decide) (hts _ q_fl_X1_30) (fun _ h9 => h9) rfl dX1_passTurn_21 ?_
    refine lv_iload_n hx hb dX1_passTurn_24 rfl (lv_at hl 3 rfl) ?_
    refine call_Sp (As := [.int (nI wn), .int (nI j)]) (rest := [.int (nI j), .ref h1]) S (m_X1_colourIn wn j hw (by omega)) g_X1_X1_colourIn hd_X1_colourIn ⟨Nat.le_of_ble_eq_true rfl, Nat.le_of_ble_eq_true rfl⟩ ⟨Nat.zero_le _, Nat.zero_le _⟩ hP hD hK hS hZ [] rfl (by decide) hl.1 rfl (Nat.le_of_ble_eq_true rfl) dX1_passTurn_25 (fun r H locs hq hP hS => ?_)
    obtain rfl := hq
    refine call_Sv (As := [.ref h1, .int (nI j), .int (nI (qd wn j))]) (wr := [(h0, .inr (1, [.ref p1, .ref p2, .ref h3, .ref h4, .int (nI n), .int (nI wn), .int (nI t), .int (nI tc), .int (nI sc), .int (bI uw)])), (h2, .inr (0, [.ref h6, .int (nI c2)])), (h3, .inl (cI, 5, .inl (fun k => nI (s k)))), (h4, .inl (cI, 1024, .inl (fun k => nI (og8 k)))), (h6, .inl (cI, 243, .inl (fun k => nI (tf k))))]) (rest := []) S (m_X1_keepWithHat h1 h5 k8 g8 j (qd wn j) (by omega) (qd_lt _ _) (by have := Lof_le hL8; omega) (Lof_bd hL8 hb1)) g_X1_X1_keepWithHat hd_X1_keepWithHat ⟨Nat.le_of_ble_eq_true rfl, Nat.le_of_ble_eq_true rfl⟩ ⟨Nat.zero_le _, Nat.zero_le _⟩ hP hD hK hS hZ [1, 5] [0, 2, 3, 4, 6] rfl rfl (by decide) hl.1 rfl (Nat.le_of_ble_eq_true rfl) dX1_passTurn_28 (fun u H locs hq hP hD hS => ?_)
    obtain ⟨k7, g7, rfl, hL7⟩ := hq
    have hP := hP.sub (ws' := gW cI h0 h1 h2 h3 h4 h5 h6 p1 p2 n wn t tc sc uw k7 c2 s og8 g7 tf) [0, 5, 1, 2, 3, 6, 4] rfl
    have hD := hD.sub (ws' := gW cI h0 h1 h2 h3 h4 h5 h6 p1 p2 n wn t tc sc uw k7 c2 s og8 g7 tf) [0, 5, 1, 2, 3, 6, 4] (by decide) rfl
    refine lv_iload_n hx hb dX1_passTurn_31 rfl (lv_at hl 0 rfl) ?_
    exact ret _ (gW cI h0 h1 h2 h3 h4 h5 h6 p1 p2 n wn t tc sc uw k7 c2 s og8 g7 tf) _ _ _ _ dX1_passTurn_32 (bI_nar _) ⟨rfl, k7, og8, g7, rfl, by rw [hL7, hL8, turnL, c_15]; rfl⟩ (List.Perm.refl _) hP hS


theorem until_s {n wn lo hi k p : Nat} {s : Nat → Nat} {L : List Nat} {v0 : Option Nat} {i : Nat} (h : v0 = (untilL n wn s lo hi (k + 1) L p).map (· + i)) (hc : allC wn s lo hi L = false) : v0 = (untilL n wn s lo hi k (turnL wn (s p) p L) (aftN n p)).map (· + (i + 1)) := by
  rw [h, untilL, hc]
  simp only [Bool.false_eq_true, if_false, Option.map_map]
  congr 1
  funext x
  simp only [Function.comp]
  omega
theorem until_e {n wn lo hi k p : Nat} {s : Nat → Nat} {L : List Nat} {v0 : Option Nat} {i : Nat} (h : v0 = (untilL n wn s lo hi k L p).map (· + i)) (hc : allC wn s lo hi L = true) : v0 = some i := by
  rw [h]
  cases k <;> simp [untilL, hc]
theorem until_n {n wn lo hi k p : Nat} {s : Nat → Nat} {L : List Nat} {v0 : Option Nat} {i : Nat} (h : v0 = (untilL n wn s lo hi k L p).map (· + i)) (hk : k = 0) (hc : allC wn s lo hi L = false) : v0 = none := by
  subst hk
  rw [h]
  simp [untilL, hc]
theorem turn_bd {wn m p c k : Nat} {f g : Nat → Nat} (h : Lof g k = turnL wn m p (Lof f c)) (hb : ∀ j, j < c → f j < 1024) : k ≤ c ∧ ∀ j, j < k → g j < 1024 := by
  have hs : ∀ x, x ∈ Lof g k → x ∈ Lof f c := by
    intro x hx
    rw [h, turnL] at hx
    split at hx
    · exact (List.mem_filter.mp (List.mem_filter.mp hx).1).1
    · exact (List.mem_filter.mp hx).1
  constructor
  · have : (Lof g k).length ≤ (Lof f c).length := by
      rw [h, turnL]
      split
      · exact Nat.le_trans (List.length_filter_le _ _) (List.length_filter_le _ _)
      · exact List.length_filter_le _ _
    rw [Lof_len, Lof_len] at this
    exact this
  · intro j hj
    obtain ⟨i, hi, e⟩ := Lof_mem.mp (hs _ (Lof_mem.mpr ⟨j, hj, rfl⟩))
    rw [← e]; exact hb i hi
theorem aft_lt {n p : Nat} (h : p < 5) (hn : n ≤ 5) : aftN n p < 5 := by
  unfold aftN
  split <;> omega

theorem oc_s {f g : Nat → Nat} {p cl i k b v : Nat} (h : Lof g k = ocL p (Lof f b) cl ++ addL p (cl + 1) (Lof f i)) (hv : v = f i ||| (cl + 1) * 2 ^ (p * 2)) : Lof (upN g k v) (k + 1) = ocL p (Lof f b) cl ++ addL p (cl + 1) (Lof f (i + 1)) := by
  rw [Lof_s, Lof_up, upN_s, h, Lof_s, addL, addL, List.map_append, hv]; simp
theorem oc_0 {f g : Nat → Nat} {p cl k b : Nat} (h : Lof g k = ocL p (Lof f b) cl) : Lof g k = ocL p (Lof f b) cl ++ addL p (cl + 1) (Lof f 0) := by
  rw [h]; simp [addL, Lof]
set_option maxHeartbeats 4000000 in
set_option maxRecDepth 100000 in
theorem m_X1_openColoursOf (h0 h1 h2 h3 h4 h5 h6 p2 n wn t tc sc : Nat) (uw : Bool) (c1 c2 : Nat) (s ow hf tf : Nat → Nat) (j : Nat) (hj : j < 5) (hc1 : c1 ≤ 81) : Mv l yX1_openColoursOf ws_X1_openColoursOf 1 21 (dC, dI) (tyL cI cZ cS cW) [.ref h0, .int (nI j)] (gW cI h0 h1 h2 h3 h4 h5 h6 h1 p2 n wn t tc sc uw c1 c2 s ow hf tf) (fun u => ∃ g : Nat → Nat, u = gW cI h0 h1 h2 h3 h4 h5 h6 h1 p2 n wn t tc sc uw (3 * c1) c2 s ow g tf ∧ Lof g (3 * c1) = ocL j (Lof hf c1) 2) := by
  refine Mv_of (by decide +kernel) (Nat.le_of_ble_eq_true rfl) ?_
  intro pr ev sx mi ag bl me cd Q ls S hP hK hD hZ hl ret
  obtain ⟨hx, hb, hml, hown, hts⟩ := id S
  have hown : sx.vm.findClass RX1 = some mi.cls := hown
  have hS : va_S (wIn (gW cI h0 h1 h2 h3 h4 h5 h6 h1 p2 n wn t tc sc uw c1 c2 s ow hf tf)) sx.heap sx.heap [] := va_S.rf
  have hl : lv_has ls 5 [(0, .ref h0), (1, .int (nI j))] := hl
  refine lv_aload_n hx hb dX1_openColoursOf_0 rfl (lv_at hl 0 rfl) ?_
  refine va_get (D := (dC, dI)) (ci := 1) (v := .ref h1) (C := RX1) (T := TX1) (N := 10) hx hb hts inX1 hown hK hP 0 rfl rfl 0 (by decide) (hts _ q_fl_X1_10) (fun _ h9 => h9) rfl dX1_openColoursOf_1 ?_
  refine call_Vp (As := []) (rest := []) S (m_X0_count h1 h5 c1 hf) g_X1_X0_count hd_X0_count ⟨Nat.le_of_ble_eq_true rfl, Nat.le_of_ble_eq_true rfl⟩ ⟨Nat.zero_le _, Nat.zero_le _⟩ hP hD hK hS hZ [1, 5] rfl (by decide) 0 rfl rfl hl.1 rfl (Nat.le_of_ble_eq_true rfl) dX1_openColoursOf_4 (fun r H locs hq hP hS => ?_)
  obtain rfl := hq
  refine lv_istore_n (lv' := [(2, .int (nI c1)), (0, .ref h0), (1, .int (nI j))]) hx hb dX1_openColoursOf_7 rfl hl (by decide) rfl (fun ls hl => ?_)
  refine lv_iconst (v := nI 1) hx hb dX1_openColoursOf_8 (by decide) ?_
  refine lv_istore_n (lv' := [(3, .int (nI 1)), (2, .int (nI c1)), (0, .ref h0), (1, .int (nI j))]) hx hb dX1_openColoursOf_9 rfl hl (by decide) rfl (fun ls hl => ?_)
  have lp10 : ∀ (kf : Nat) (cl : Nat) (k : Nat) (g : Nat → Nat), 3 < cl + kf → (cl ≤ 2) → ((cl = 0 ∧ k = c1) ∨ (cl = 1 ∧ k = 2 * c1) ∨ (cl = 2 ∧ k = 3 * c1)) → (∀ j, j < c1 → g j = hf j) → (Lof g k = ocL j (Lof hf c1) cl) → ∀ (H : Heap) (locs : List Loc), va_P (dC, dI) vwCl (gW cI h0 h1 h2 h3 h4 h5 h6 h1 p2 n wn t tc sc uw k c2 s ow g tf) H → va_D (wIn (gW cI h0 h1 h2 h3 h4 h5 h6 h1 p2 n wn t tc sc uw c1 c2 s ow hf tf)) (gW cI h0 h1 h2 h3 h4 h5 h6 h1 p2 n wn t tc sc uw k c2 s ow g tf) → va_S (wIn (gW cI h0 h1 h2 h3 h4 h5 h6 h1 p2 n wn t tc sc uw c1 c2 s ow hf tf)) sx.heap H locs → ∀ ls : Array Slot, lv_has ls 5 [(3, .int (nI (cl + 1))), (2, .int (nI c1)), (0, .ref h0), (1, .int (nI j))] → W pr l ev (rmB 1 21) sx mi ag bl me cd H locs 0 0 Q (F0 mi 10 ls []) := by
    intro kf
    induction kf with
    | zero => intro cl k g hkf hcl hk hg hL; exact absurd hkf (by omega)
    | succ kf ih10 =>
      intro cl k g hkf hcl hk hg hL H locs hP hD hS ls hl
      refine lv_iload_n hx hb dX1_openColoursOf_10 rfl (lv_at hl 0 rfl) ?_
      refine lv_iconst (v := nI 3) hx hb dX1_openColoursOf_11 (by decide) ?_
      refine icN_ge (tgt := 59) hx hb dX1_openColoursOf_12 (by decide) (by omega) (by omega) (fun c_12 => ?_) (fun c_12 => ?_)
      · exact ret (gW cI h0 h1 h2 h3 h4 h5 h6 h1 p2 n wn t tc sc uw k c2 s ow g tf) _ _ _ _ dX1_openColoursOf_59 ⟨g, by rw [show k = 3 * c1 by omega], by rw [← show k = 3 * c1 by omega, hL, show cl = 2 by omega]⟩ (List.Perm.refl _) hP hS
      · refine lv_iconst (v := nI 0) hx hb dX1_openColoursOf_15 (by decide) ?_
        refine lv_istore (lv' := [(4, .int (nI 0)), (3, .int (nI (cl + 1))), (2, .int (nI c1)), (0, .ref h0), (1, .int (nI j))]) hx hb dX1_openColoursOf_16 hl (by decide) rfl (fun ls hl => ?_)
        have lp18 : ∀ (kf : Nat) (i : Nat) (k2 : Nat) (g2 : Nat → Nat), c1 < i + kf → (i ≤ c1) → (k2 = k + i) → (∀ j, j < c1 → g2 j = hf j) → (Lof g2 k2 = ocL j (Lof hf c1) cl ++ addL j (cl + 1) (Lof hf i)) → ∀ (H : Heap) (locs : List Loc), va_P (dC, dI) vwCl (gW cI h0 h1 h2 h3 h4 h5 h6 h1 p2 n wn t tc sc uw k2 c2 s ow g2 tf) H → va_D (wIn (gW cI h0 h1 h2 h3 h4 h5 h6 h1 p2 n wn t tc sc uw c1 c2 s ow hf tf)) (gW cI h0 h1 h2 h3 h4 h5 h6 h1 p2 n wn t tc sc uw k2 c2 s ow g2 tf) → va_S (wIn (gW cI h0 h1 h2 h3 h4 h5 h6 h1 p2 n wn t tc sc uw c1 c2 s ow hf tf)) sx.heap H locs → ∀ ls : Array Slot, lv_has ls 5 [(4, .int (nI i)), (3, .int (nI (cl + 1))), (2, .int (nI c1)), (0, .ref h0), (1, .int (nI j))] → W pr l ev (rmB 1 21) sx mi ag bl me cd H locs 0 0 Q (F0 mi 18 ls []) := by
          intro kf
          induction kf with
          | zero => intro i k2 g2 hkf hi hk2 hg2 hL2; exact absurd hkf (by omega)
          | succ kf ih18 =>
            intro i k2 g2 hkf hi hk2 hg2 hL2 H locs hP hD hS ls hl
            refine lv_iload hx hb dX1_openColoursOf_18 (lv_at hl 0 rfl) ?_
            refine lv_iload_n hx hb dX1_openColoursOf_20 rfl (lv_at hl 2 rfl) ?_
            refine icN_ge (tgt := 53) hx hb dX1_openColoursOf_21 (by decide) (by omega) (by omega) (fun c_21 => ?_) (fun c_21 => ?_)
            · refine lv_iinc (v := nI (cl + 1 + 1)) (lv' := [(3, .int (nI (cl + 1 + 1))), (4, .int (nI i)), (2, .int (nI c1)), (0, .ref h0), (1, .int (nI j))]) hx hb dX1_openColoursOf_53 hl (k := 1) rfl (nI_add _ _) (by decide) rfl (fun ls hl => ?_)
              refine lv_goto (tgt := 10) hx hb dX1_openColoursOf_56 (by decide) ?_
              exact ih10 (cl + 1) _ _ (by omega) (by omega) (by omega) hg2 (by rw [hL2, show i = c1 by omega]; rfl) _ _ hP hD hS _ (lv_sub hl [0, 2, 3, 4] rfl)
            · refine lv_aload_n hx hb dX1_openColoursOf_24 rfl (lv_at hl 3 rfl) ?_
              refine va_get (D := (dC, dI)) (ci := 1) (v := .ref h1) (C := RX1) (T := TX1) (N := 10) hx hb hts inX1 hown hK hP 0 rfl rfl 0 (by decide) (hts _ q_fl_X1_10) (fun _ h9 => h9) rfl dX1_openColoursOf_25 ?_
              refine lv_aload_n hx hb dX1_openColoursOf_28 rfl (lv_at hl 3 rfl) ?_
              refine va_get (D := (dC, dI)) (ci := 1) (v := .ref h1) (C := RX1) (T := TX1) (N := 10) hx hb hts inX1 hown hK hP 0 rfl rfl 0 (by decide) (hts _ q_fl_X1_10) (fun _ h9 => h9) rfl dX1_openColoursOf_29 ?_
              refine lv_iload hx hb dX1_openColoursOf_32 (lv_at hl 0 rfl) ?_
              refine call_Vp (As := [.int (nI i)]) (rest := [.ref h1]) S (m_X0_at h1 h5 k2 g2 i (by omega)) g_X1_X0_at hd_X0_at ⟨Nat.le_of_ble_eq_true rfl, Nat.le_of_ble_eq_true rfl⟩ ⟨Nat.zero_le _, Nat.zero_le _⟩ hP hD hK hS hZ [1, 5] rfl (by decide) 0 rfl rfl hl.1 rfl (Nat.le_of_ble_eq_true rfl) dX1_openColoursOf_34 (fun r H locs hq hP hS => ?_)
              obtain rfl := hq
              refine lv_iload_n hx hb dX1_openColoursOf_37 rfl (lv_at hl 1 rfl) ?_
              refine lv_iload_n hx hb dX1_openColoursOf_38 rfl (lv_at hl 4 rfl) ?_
              refine call_Sp (As := [.int (nI j)]) (rest := [.int (nI (cl + 1)), .int (nI (g2 i)), .ref h1]) S (m_X1_shiftOf j ) g_X1_X1_shiftOf hd_X1_shiftOf ⟨Nat.le_of_ble_eq_true rfl, Nat.le_of_ble_eq_true rfl⟩ ⟨Nat.zero_le _, Nat.zero_le _⟩ hP hD hK hS hZ [] rfl (by decide) hl.1 rfl (Nat.le_of_ble_eq_true rfl) dX1_openColoursOf_39 (fun r H locs hq hP hS => ?_)
              obtain rfl := hq
              refine lv_ishl hx hb dX1_openColoursOf_42 ?_
              refine W_i (y := nI ((cl + 1) * 2 ^ (j * 2))) (nI_shl _ (by omega)) ?_
              refine lv_ior hx hb dX1_openColoursOf_43 ?_
              refine W_i (y := nI ((g2 i) ||| ((cl + 1) * 2 ^ (j * 2)))) (nI_or _ _) ?_
              refine call_Vv (As := [.int (nI ((g2 i) ||| ((cl + 1) * 2 ^ (j * 2))))]) (wr := [(h0, .inr (1, [.ref h1, .ref p2, .ref h3, .ref h4, .int (nI n), .int (nI wn), .int (nI t), .int (nI tc), .int (nI sc), .int (bI uw)])), (h2, .inr (0, [.ref h6, .int (nI c2)])), (h3, .inl (cI, 5, .inl (fun k => nI (s k)))), (h4, .inl (cI, 1024, .inl (fun k => nI (ow k)))), (h6, .inl (cI, 243, .inl (fun k => nI (tf k))))]) (rest := []) S (m_X0_add h1 h5 k2 g2 ((g2 i) ||| ((cl + 1) * 2 ^ (j * 2))) (by omega)) g_X1_X0_add hd_X0_add ⟨Nat.le_of_ble_eq_true rfl, Nat.le_of_ble_eq_true rfl⟩ ⟨Nat.zero_le _, Nat.zero_le _⟩ hP hD hK hS hZ [1, 5] [0, 2, 3, 4, 6] rfl rfl (by decide) 0 rfl rfl hl.1 rfl (Nat.le_of_ble_eq_true rfl) dX1_openColoursOf_44 (fun u H locs hq hP hD hS => ?_)
              obtain rfl := hq
              have hP := hP.sub (ws' := gW cI h0 h1 h2 h3 h4 h5 h6 h1 p2 n wn t tc sc uw (k2 + 1) c2 s ow (upN g2 k2 ((g2 i) ||| ((cl + 1) * 2 ^ (j * 2)))) tf) [0, 5, 1, 2, 3, 6, 4] rfl
              have hD := hD.sub (ws' := gW cI h0 h1 h2 h3 h4 h5 h6 h1 p2 n wn t tc sc uw (k2 + 1) c2 s ow (upN g2 k2 ((g2 i) ||| ((cl + 1) * 2 ^ (j * 2)))) tf) [0, 5, 1, 2, 3, 6, 4] (by decide) rfl
              refine lv_iinc (v := nI (i + 1)) (lv' := [(4, .int (nI (i + 1))), (3, .int (nI (cl + 1))), (2, .int (nI c1)), (0, .ref h0), (1, .int (nI j))]) hx hb dX1_openColoursOf_47 hl (k := 0) rfl (nI_add _ _) (by decide) rfl (fun ls hl => ?_)
              refine lv_goto (tgt := 18) hx hb dX1_openColoursOf_50 (by decide) ?_
              exact ih18 (i + 1) _ _ (by omega) (by omega) (by omega) (fun j hj => by rw [upN_n _ _ (by omega)]; exact hg2 j hj) (oc_s hL2 (by rw [hg2 i (by omega)])) _ _ hP hD hS _ (lv_sub hl [0, 1, 2, 3, 4] rfl)
        exact lp18 (c1 + 1) 0 k g (by omega) (by omega) (by omega) hg (oc_0 hL) _ _ hP hD hS _ (lv_sub hl [0, 1, 2, 3, 4] rfl)
  exact lp10 4 0 c1 hf (by omega) (by omega) (by omega) (fun _ _ => rfl) rfl _ _ hP hD hS _ (lv_sub hl [0, 1, 2, 3] rfl)

end
end
section
/-! what the public methods answer -/
theorem xch_lt {x p q : Nat} (hx : x < 1024) (hp : p < 5) (hq : q < 5) : xch x p q < 1024 := by
  have h4 : ∀ a, a < 4 → ∀ p, p < 5 → a * 2 ^ (p * 2) < 1024 := by decide
  have ha : qd x p ^^^ qd x q < 4 := Nat.xor_lt_two_pow (n := 2) (qd_lt x p) (qd_lt x q)
  exact xor_k (xor_k hx (h4 _ ha p hp)) (h4 _ ha q hq)
def canL : Nat → List Nat
  | 0 => [0]
  | i + 1 => ocL i (canL i) 2
theorem p3_81 : ∀ i, i < 5 → 3 ^ i ≤ 81 := by decide
def naming (n c : Nat) (L : List Nat) : Nat := L.countP (fun x => !(hatsN n x c == 0))
theorem naming_le (n c : Nat) (f : Nat → Nat) (k : Nat) : naming n c (Lof f k) ≤ k := by
  have := List.countP_le_length (p := fun x => !(hatsN n x c == 0)) (l := Lof f k)
  rw [Lof_len] at this; exact this
def bstN (n wn : Nat) (L : List Nat) : Nat → Option Nat × Nat
  | 0 => (none, 244)
  | c + 1 => if hatsN n wn c ≠ 0 ∧ naming n c L < (bstN n wn L c).2 then (some c, naming n c L) else bstN n wn L c
def possN (wn m : Nat) (L : List Nat) : Nat := L.countP (fun x => agr wn x m)
theorem possN_le (wn m : Nat) (f : Nat → Nat) (k : Nat) : possN wn m (Lof f k) ≤ k := by
  have := List.countP_le_length (p := fun x => agr wn x m) (l := Lof f k)
  rw [Lof_len] at this; exact this
def sumP (wn : Nat) (s : Nat → Nat) (L : List Nat) : Nat → Nat
  | 0 => 0
  | p + 1 => sumP wn s L p + possN wn (s p) L
theorem sumP_le (wn : Nat) (s : Nat → Nat) (f : Nat → Nat) (k : Nat) : ∀ p, sumP wn s (Lof f k) p ≤ p * k
  | 0 => by simp [sumP]
  | p + 1 => by
    have := sumP_le wn s f k p
    have h2 := possN_le wn (s p) f k
    simp only [sumP, Nat.succ_mul]; omega
theorem dok1 : ∀ a, a < 1216 → vf_n64 (FP.ddiv (FP.i2d (nI a)) (FP.i2d (nI 1))) := by unfold vf_n64; decide +kernel
theorem dok2 : ∀ a, a < 1216 → vf_n64 (FP.ddiv (FP.i2d (nI a)) (FP.i2d (nI 2))) := by unfold vf_n64; decide +kernel
theorem dok3 : ∀ a, a < 1216 → vf_n64 (FP.ddiv (FP.i2d (nI a)) (FP.i2d (nI 3))) := by unfold vf_n64; decide +kernel
theorem dok4 : ∀ a, a < 1216 → vf_n64 (FP.ddiv (FP.i2d (nI a)) (FP.i2d (nI 4))) := by unfold vf_n64; decide +kernel
theorem dok5 : ∀ a, a < 1216 → vf_n64 (FP.ddiv (FP.i2d (nI a)) (FP.i2d (nI 5))) := by unfold vf_n64; decide +kernel
theorem ddiv_ok {a n : Nat} (h1 : 0 < n) (h2 : n ≤ 5) (ha : a ≤ n * 243) : vf_n64 (FP.ddiv (FP.i2d (nI a)) (FP.i2d (nI n))) := by
  rcases (show n = 1 ∨ n = 2 ∨ n = 3 ∨ n = 4 ∨ n = 5 by omega) with rfl | rfl | rfl | rfl | rfl
  · exact dok1 a (by omega)
  · exact dok2 a (by omega)
  · exact dok3 a (by omega)
  · exact dok4 a (by omega)
  · exact dok5 a (by omega)
def meanN (n sum : Nat) : UInt64 := if n = 0 then FP.dconst0 else FP.ddiv (FP.i2d (nI sum)) (FP.i2d (nI n))
def sureL (wn m mo k : Nat) (L : List Nat) : Bool := L.all (fun x => !agr wn x m || wbc mo k L x)
theorem sure_t {wn m mo k c : Nat} {f : Nat → Nat} (h : ∀ j, j < c → agr wn (f j) m = true → wbc mo k (Lof f c) (f j) = true) : sureL wn m mo k (Lof f c) = true := by
  refine List.all_eq_true.mpr (fun x hx => ?_)
  obtain ⟨j, hj, rfl⟩ := Lof_mem.mp hx
  cases ha : agr wn (f j) m with
  | false => simp
  | true => simp [h j hj ha]
theorem sure_f {wn m mo k c i : Nat} {f : Nat → Nat} (hi : i < c) (ha : agr wn (f i) m = true) (hb : wbc mo k (Lof f c) (f i) = false) : sureL wn m mo k (Lof f c) = false := by
  cases hc : sureL wn m mo k (Lof f c) with
  | false => rfl
  | true =>
    have := List.all_eq_true.mp hc (f i) (Lof_mem.mpr ⟨i, hi, rfl⟩)
    rw [ha, hb] at this
    exact absurd this (by decide)
theorem nb_t {x : Nat} (h : x ≠ 0) : (!(x == 0)) = true := by simp [h]
theorem nb_f {x : Nat} (h : x = 0) : (!(x == 0)) = false := by simp [h]
def toldL (wn p : Nat) (L : List Nat) : List Nat := L.filter (fun x => qd x p == qd wn p)
def seeN (s : Nat → Nat) (p k : Nat) : Bool := !((s p &&& (3 * 2 ^ (k * 2))) == 0)
def knwN (wn m k : Nat) (L : List Nat) : Bool := one1 (pcol wn m k L)
def allN (wn p : Nat) (L : List Nat) : Bool := L.countP (fun x => qd x p == qd wn p) == L.length
def dg (d : Int64) (x : Int32) : Int64 := d * 31 + x.toInt64
def dgB (d : Int64) (b : Bool) : Int64 := d * 31 + (if b then 1 else 0)
def dgO (wn : Nat) (s : Nat → Nat) (L : List Nat) (p : Nat) (d : Int64) : Nat → Int64
  | 0 => d
  | k + 1 => dgB (dgB (dgB (dgO wn s L p d k) (seeN s p k)) (knwN wn (s p) k L)) (sureL wn (s p) (s k) k L)
def dgP (n wn : Nat) (s : Nat → Nat) (L : List Nat) (p : Nat) (d : Int64) : Int64 :=
  dgO wn s L p (dg (dgB (dgB (dg (dg d (nI (qd wn p))) (nI (possN wn (s p) L))) (cert wn (s p) p L)) (allN wn p L)) (nI (certN wn s (toldL wn p L) n))) n
def dgA (n wn : Nat) (s : Nat → Nat) (L : List Nat) (d : Int64) : Nat → Int64
  | 0 => d
  | p + 1 => dgP n wn s L p (dgA n wn s L d p)
def whoI (n t : Nat) : Int32 := if n = 0 then -1 else nI t
def aftI (n wn t : Nat) (s : Nat → Nat) (L : List Nat) : Int32 := if n = 0 then 0 else nI (turnL wn (s t) t L).length
def digN (n wn t tc sc : Nat) (s : Nat → Nat) (L : List Nat) : Int64 :=
  dgA n wn s L (dg (dg (dg (dg (dg (dg (dg (dg 2053 (nI n)) (nI tc)) (nI sc)) (whoI n t)) (nI L.length)) (nI (certN wn s L n))) (oI (bstN n wn L 3).1)) (aftI n wn t s L)) n
section
variable {l : Launch} {dC : Nat → ClassId} {dI : Nat → Nat → Nat} {cI cZ cS cW : ClassId}

set_option maxHeartbeats 4000000 in
set_option maxRecDepth 100000 in
theorem m_X1_requirePlayer (h0 h1 h2 h3 h4 h5 h6 p1 p2 n wn t tc sc : Nat) (uw : Bool) (c1 c2 : Nat) (s ow hf tf : Nat → Nat) (j : Nat) (hj : j < n) (hn : n ≤ 5) : Mv l yX1_requirePlayer ws_X1_requirePlayer 0 0 (dC, dI) (tyL cI cZ cS cW) [.ref h0, .int (nI j)] (gW cI h0 h1 h2 h3 h4 h5 h6 p1 p2 n wn t tc sc uw c1 c2 s ow hf tf) (fun u => u = gW cI h0 h1 h2 h3 h4 h5 h6 p1 p2 n wn t tc sc uw c1 c2 s ow hf tf) := by
  refine Mv_of (by decide +kernel) (Nat.le_of_ble_eq_true rfl) ?_
  intro pr ev sx mi ag bl me cd Q ls S hP hK hD hZ hl ret
  obtain ⟨hx, hb, hml, hown, hts⟩ := id S
  have hown : sx.vm.findClass RX1 = some mi.cls := hown
  have hS : va_S (wIn (gW cI h0 h1 h2 h3 h4 h5 h6 p1 p2 n wn t tc sc uw c1 c2 s ow hf tf)) sx.heap sx.heap [] := va_S.rf
  have hl : lv_has ls 2 [(0, .ref h0), (1, .int (nI j))] := hl
  refine lv_iload_n hx hb dX1_requirePlayer_0 rfl (lv_at hl 1 rfl) ?_
  refine ifN_lt (tgt := 12) hx hb dX1_requirePlayer_1 (by decide) (by omega) (fun c_1 => absurd c_1 id) (fun c_1 => ?_)
  refine lv_iload_n hx hb dX1_requirePlayer_4 rfl (lv_at hl 1 rfl) ?_
  refine lv_aload_n hx hb dX1_requirePlayer_5 rfl (lv_at hl 0 rfl) ?_
  refine va_get (D := (dC, dI)) (ci := 1) (v := .int (nI n)) (C := RX1) (T := TX1) (N := 10) hx hb hts inX1 hown hK hP 0 rfl rfl 4 (by decide) (hts _ q_fl_X1_26) (fun _ h9 => h9) rfl dX1_requirePlayer_6 ?_
  refine icN_lt (tgt := 22) hx hb dX1_requirePlayer_9 (by decide) (by omega) (by omega) (fun c_9 => ?_) (fun c_9 => absurd c_9 (by omega))
  exact ret (gW cI h0 h1 h2 h3 h4 h5 h6 p1 p2 n wn t tc sc uw c1 c2 s ow hf tf) _ _ _ _ dX1_requirePlayer_22 rfl (List.Perm.refl _) hP hS

set_option maxHeartbeats 4000000 in
set_option maxRecDepth 100000 in
theorem m_X1_requireTwoPlayers (h0 h1 h2 h3 h4 h5 h6 p1 p2 n wn t tc sc : Nat) (uw : Bool) (c1 c2 : Nat) (s ow hf tf : Nat → Nat) (j k : Nat) (hj : j < n) (hk : k < n) (hn : n ≤ 5) (hjk : j ≠ k) : Mv l yX1_requireTwoPlayers ws_X1_requireTwoPlayers 1 21 (dC, dI) (tyL cI cZ cS cW) [.ref h0, .int (nI j), .int (nI k)] (gW cI h0 h1 h2 h3 h4 h5 h6 p1 p2 n wn t tc sc uw c1 c2 s ow hf tf) (fun u => u = gW cI h0 h1 h2 h3 h4 h5 h6 p1 p2 n wn t tc sc uw c1 c2 s ow hf tf) := by
  refine Mv_of (by decide +kernel) (Nat.le_of_ble_eq_true rfl) ?_
  intro pr ev sx mi ag bl me cd Q ls S hP hK hD hZ hl ret
  obtain ⟨hx, hb, hml, hown, hts⟩ := id S
  have hown : sx.vm.findClass RX1 = some mi.cls := hown
  have hS : va_S (wIn (gW cI h0 h1 h2 h3 h4 h5 h6 p1 p2 n wn t tc sc uw c1 c2 s ow hf tf)) sx.heap sx.heap [] := va_S.rf
  have hl : lv_has ls 3 [(0, .ref h0), (1, .int (nI j)), (2, .int (nI k))] := hl
  refine lv_aload_n hx hb dX1_requireTwoPlayers_0 rfl (lv_at hl 0 rfl) ?_
  refine lv_iload_n hx hb dX1_requireTwoPlayers_1 rfl (lv_at hl 1 rfl) ?_
  refine call_Vv (As := [.int (nI j)]) (wr := []) (rest := []) S (m_X1_requirePlayer h0 h1 h2 h3 h4 h5 h6 p1 p2 n wn t tc sc uw c1 c2 s ow hf tf j (by omega) hn) g_X1_X1_requirePlayer hd_X1_requirePlayer ⟨Nat.le_of_ble_eq_true rfl, Nat.le_of_ble_eq_true rfl⟩ ⟨Nat.zero_le _, Nat.zero_le _⟩ hP hD hK hS hZ [0, 1, 2, 3, 4, 5, 6] [] rfl rfl (by decide) 0 rfl rfl hl.1 rfl (Nat.le_of_ble_eq_true rfl) dX1_requireTwoPlayers_2 (fun u H locs hq hP hD hS => ?_)
  obtain rfl := hq
  have hP : va_P (dC, dI) vwCl (gW cI h0 h1 h2 h3 h4 h5 h6 p1 p2 n wn t tc sc uw c1 c2 s ow hf tf) H := hP
  have hD : va_D (wIn (gW cI h0 h1 h2 h3 h4 h5 h6 p1 p2 n wn t tc sc uw c1 c2 s ow hf tf)) (gW cI h0 h1 h2 h3 h4 h5 h6 p1 p2 n wn t tc sc uw c1 c2 s ow hf tf) := hD
  refine lv_aload_n hx hb dX1_requireTwoPlayers_5 rfl (lv_at hl 0 rfl) ?_
  refine lv_iload_n hx hb dX1_requireTwoPlayers_6 rfl (lv_at hl 2 rfl) ?_
  refine call_Vv (As := [.int (nI k)]) (wr := []) (rest := []) S (m_X1_requirePlayer h0 h1 h2 h3 h4 h5 h6 p1 p2 n wn t tc sc uw c1 c2 s ow hf tf k (by omega) hn) g_X1_X1_requirePlayer hd_X1_requirePlayer ⟨Nat.le_of_ble_eq_true rfl, Nat.le_of_ble_eq_true rfl⟩ ⟨Nat.zero_le _, Nat.zero_le _⟩ hP hD hK hS hZ [0, 1, 2, 3, 4, 5, 6] [] rfl rfl (by decide) 0 rfl rfl hl.1 rfl (Nat.le_of_ble_eq_true rfl) dX1_requireTwoPlayers_7 (fun u H locs hq hP hD hS => ?_)
  obtain rfl := hq
  have hP : va_P (dC, dI) vwCl (gW cI h0 h1 h2 h3 h4 h5 h6 p1 p2 n wn t tc sc uw c1 c2 s ow hf tf) H := hP
  have hD : va_D (wIn (gW cI h0 h1 h2 h3 h4 h5 h6 p1 p2 n wn t tc sc uw c1 c2 s ow hf tf)) (gW cI h0 h1 h2 h3 h4 h5 h6 p1 p2 n wn t tc sc uw c1 c2 s ow hf tf) := hD
  refine lv_iload_n hx hb dX1_requireTwoPlayers_10 rfl (lv_at hl 1 rfl) ?_
  refine lv_iload_n hx hb dX1_requireTwoPlayers_11 rfl (lv_at hl 2 rfl) ?_
  refine icN_ne (tgt := 25) hx hb dX1_requireTwoPlayers_12 (by decide) (by omega) (by omega) (fun c_12 => ?_) (fun c_12 => absurd c_12 hjk)
  exact ret (gW cI h0 h1 h2 h3 h4 h5 h6 p1 p2 n wn t tc sc uw c1 c2 s ow hf tf) _ _ _ _ dX1_requireTwoPlayers_25 rfl (List.Perm.refl _) hP hS

set_option maxHeartbeats 4000000 in
set_option maxRecDepth 100000 in
theorem m_X1_requireSomePlayer (h0 h1 h2 h3 h4 h5 h6 p1 p2 n wn t tc sc : Nat) (uw : Bool) (c1 c2 : Nat) (s ow hf tf : Nat → Nat) (h0n : 0 < n) (hn : n ≤ 5) : Mv l yX1_requireSomePlayer ws_X1_requireSomePlayer 0 0 (dC, dI) (tyL cI cZ cS cW) [.ref h0] (gW cI h0 h1 h2 h3 h4 h5 h6 p1 p2 n wn t tc sc uw c1 c2 s ow hf tf) (fun u => u = gW cI h0 h1 h2 h3 h4 h5 h6 p1 p2 n wn t tc sc uw c1 c2 s ow hf tf) := by
  refine Mv_of (by decide +kernel) (Nat.le_of_ble_eq_true rfl) ?_
  intro pr ev sx mi ag bl me cd Q ls S hP hK hD hZ hl ret
  obtain ⟨hx, hb, hml, hown, hts⟩ := id S
  have hown : sx.vm.findClass RX1 = some mi.cls := hown
  have hS : va_S (wIn (gW cI h0 h1 h2 h3 h4 h5 h6 p1 p2 n wn t tc sc uw c1 c2 s ow hf tf)) sx.heap sx.heap [] := va_S.rf
  have hl : lv_has ls 1 [(0, .ref h0)] := hl
  refine lv_aload_n hx hb dX1_requireSomePlayer_0 rfl (lv_at hl 0 rfl) ?_
  refine va_get (D := (dC, dI)) (ci := 1) (v := .int (nI n)) (C := RX1) (T := TX1) (N := 10) hx hb hts inX1 hown hK hP 0 rfl rfl 4 (by decide) (hts _ q_fl_X1_26) (fun _ h9 => h9) rfl dX1_requireSomePlayer_1 ?_
  refine ifN_gt (tgt := 17) hx hb dX1_requireSomePlayer_4 (by decide) (by omega) (fun c_4 => ?_) (fun c_4 => absurd c_4 (by omega))
  exact ret (gW cI h0 h1 h2 h3 h4 h5 h6 p1 p2 n wn t tc sc uw c1 c2 s ow hf tf) _ _ _ _ dX1_requireSomePlayer_17 rfl (List.Perm.refl _) hP hS

set_option maxHeartbeats 4000000 in
set_option maxRecDepth 100000 in
theorem m_X1_requireColour (co : Nat) (hco : co < 3) : Mv l yX1_requireColour ws_X1_requireColour 0 0 (dC, dI) (tyL cI cZ cS cW) [.int (nI co)] ([]) (fun u => u = []) := by
  refine Mv_of (by decide +kernel) (Nat.le_of_ble_eq_true rfl) ?_
  intro pr ev sx mi ag bl me cd Q ls S hP hK hD hZ hl ret
  obtain ⟨hx, hb, hml, hown, hts⟩ := id S
  have hown : sx.vm.findClass RX1 = some mi.cls := hown
  have hS : va_S (wIn ([])) sx.heap sx.heap [] := va_S.rf
  have hl : lv_has ls 1 [(0, .int (nI co))] := hl
  refine lv_iload_n hx hb dX1_requireColour_0 rfl (lv_at hl 0 rfl) ?_
  refine ifN_lt (tgt := 9) hx hb dX1_requireColour_1 (by decide) (by omega) (fun c_1 => absurd c_1 id) (fun c_1 => ?_)
  refine lv_iload_n hx hb dX1_requireColour_4 rfl (lv_at hl 0 rfl) ?_
  refine lv_iconst (v := nI 3) hx hb dX1_requireColour_5 (by decide) ?_
  refine icN_lt (tgt := 19) hx hb dX1_requireColour_6 (by decide) (by omega) (by omega) (fun c_6 => ?_) (fun c_6 => absurd c_6 (by omega))
  exact ret ([]) _ _ _ _ dX1_requireColour_19 rfl (List.Perm.refl _) hP hS

set_option maxHeartbeats 4000000 in
set_option maxRecDepth 100000 in
theorem m_X1_requireMany (co : Nat) (hco : co < 6) : Mv l yX1_requireMany ws_X1_requireMany 0 0 (dC, dI) (tyL cI cZ cS cW) [.int (nI co)] ([]) (fun u => u = []) := by
  refine Mv_of (by decide +kernel) (Nat.le_of_ble_eq_true rfl) ?_
  intro pr ev sx mi ag bl me cd Q ls S hP hK hD hZ hl ret
  obtain ⟨hx, hb, hml, hown, hts⟩ := id S
  have hown : sx.vm.findClass RX1 = some mi.cls := hown
  have hS : va_S (wIn ([])) sx.heap sx.heap [] := va_S.rf
  have hl : lv_has ls 1 [(0, .int (nI co))] := hl
  refine lv_iload_n hx hb dX1_requireMany_0 rfl (lv_at hl 0 rfl) ?_
  refine ifN_lt (tgt := 9) hx hb dX1_requireMany_1 (by decide) (by omega) (fun c_1 => absurd c_1 id) (fun c_1 => ?_)
  refine lv_iload_n hx hb dX1_requireMany_4 rfl (lv_at hl 0 rfl) ?_
  refine lv_iconst (v := nI 5) hx hb dX1_requireMany_5 (by decide) ?_
  refine icN_le (tgt := 19) hx hb dX1_requireMany_6 (by decide) (by omega) (by omega) (fun c_6 => ?_) (fun c_6 => absurd c_6 (by omega))
  exact ret ([]) _ _ _ _ dX1_requireMany_19 rfl (List.Perm.refl _) hP hS

set_option maxHeartbeats 4000000 in
set_option maxRecDepth 100000 in
theorem m_X1_players (h0 h1 h2 h3 h4 h5 h6 n wn t tc sc : Nat) (uw : Bool) (c1 c2 : Nat) (s ow hf tf : Nat → Nat)  (hn : n ≤ 5) (hw : wn < 1024) (hs : ∀ p, p < 5 → s p < 1024) (hc1 : c1 ≤ 243) (hb1 : ∀ j, j < c1 → hf j < 1024) : Mp l yX1_players ws_X1_players 0 0 (dC, dI) (tyL cI cZ cS cW) [.ref h0] (gW cI h0 h1 h2 h3 h4 h5 h6 h1 h2 n wn t tc sc uw c1 c2 s ow hf tf) (fun r => r = nI n) := by
  refine Mi_of (by decide +kernel) (Nat.le_of_ble_eq_true rfl) ?_
  intro pr ev sx mi ag bl me cd Q ls S hP hK hD hZ hl ret
  obtain ⟨hx, hb, hml, hown, hts⟩ := id S
  have hown : sx.vm.findClass RX1 = some mi.cls := hown
  have hS : va_S (wIn (gW cI h0 h1 h2 h3 h4 h5 h6 h1 h2 n wn t tc sc uw c1 c2 s ow hf tf)) sx.heap sx.heap [] := va_S.rf
  have hl : lv_has ls 1 [(0, .ref h0)] := hl
  refine lv_aload_n hx hb dX1_players_0 rfl (lv_at hl 0 rfl) ?_
  refine va_get (D := (dC, dI)) (ci := 1) (v := .int (nI n)) (C := RX1) (T := TX1) (N := 10) hx hb hts inX1 hown hK hP 0 rfl rfl 4 (by decide) (hts _ q_fl_X1_26) (fun _ h9 => h9) rfl dX1_players_1 ?_
  exact ret _ (gW cI h0 h1 h2 h3 h4 h5 h6 h1 h2 n wn t tc sc uw c1 c2 s ow hf tf) _ _ _ _ dX1_players_4 rfl ⟨rfl, rfl⟩ (List.Perm.refl _) hP hS

set_option maxHeartbeats 4000000 in
set_option maxRecDepth 100000 in
theorem m_X1_turnsTaken (h0 h1 h2 h3 h4 h5 h6 n wn t tc sc : Nat) (uw : Bool) (c1 c2 : Nat) (s ow hf tf : Nat → Nat)  (hn : n ≤ 5) (hw : wn < 1024) (hs : ∀ p, p < 5 → s p < 1024) (hc1 : c1 ≤ 243) (hb1 : ∀ j, j < c1 → hf j < 1024) : Mp l yX1_turnsTaken ws_X1_turnsTaken 0 0 (dC, dI) (tyL cI cZ cS cW) [.ref h0] (gW cI h0 h1 h2 h3 h4 h5 h6 h1 h2 n wn t tc sc uw c1 c2 s ow hf tf) (fun r => r = nI tc) := by
  refine Mi_of (by decide +kernel) (Nat.le_of_ble_eq_true rfl) ?_
  intro pr ev sx mi ag bl me cd Q ls S hP hK hD hZ hl ret
  obtain ⟨hx, hb, hml, hown, hts⟩ := id S
  have hown : sx.vm.findClass RX1 = some mi.cls := hown
  have hS : va_S (wIn (gW cI h0 h1 h2 h3 h4 h5 h6 h1 h2 n wn t tc sc uw c1 c2 s ow hf tf)) sx.heap sx.heap [] := va_S.rf
  have hl : lv_has ls 1 [(0, .ref h0)] := hl
  refine lv_aload_n hx hb dX1_turnsTaken_0 rfl (lv_at hl 0 rfl) ?_
  refine va_get (D := (dC, dI)) (ci := 1) (v := .int (nI tc)) (C := RX1) (T := TX1) (N := 10) hx hb hts inX1 hown hK hP 0 rfl rfl 7 (by decide) (hts _ q_fl_X1_36) (fun _ h9 => h9) rfl dX1_turnsTaken_1 ?_
  exact ret _ (gW cI h0 h1 h2 h3 h4 h5 h6 h1 h2 n wn t tc sc uw c1 c2 s ow hf tf) _ _ _ _ dX1_turnsTaken_4 rfl ⟨rfl, rfl⟩ (List.Perm.refl _) hP hS

set_option maxHeartbeats 4000000 in
set_option maxRecDepth 100000 in
theorem m_X1_silentTurns (h0 h1 h2 h3 h4 h5 h6 n wn t tc sc : Nat) (uw : Bool) (c1 c2 : Nat) (s ow hf tf : Nat → Nat)  (hn : n ≤ 5) (hw : wn < 1024) (hs : ∀ p, p < 5 → s p < 1024) (hc1 : c1 ≤ 243) (hb1 : ∀ j, j < c1 → hf j < 1024) : Mp l yX1_silentTurns ws_X1_silentTurns 0 0 (dC, dI) (tyL cI cZ cS cW) [.ref h0] (gW cI h0 h1 h2 h3 h4 h5 h6 h1 h2 n wn t tc sc uw c1 c2 s ow hf tf) (fun r => r = nI sc) := by
  refine Mi_of (by decide +kernel) (Nat.le_of_ble_eq_true rfl) ?_
  intro pr ev sx mi ag bl me cd Q ls S hP hK hD hZ hl ret
  obtain ⟨hx, hb, hml, hown, hts⟩ := id S
  have hown : sx.vm.findClass RX1 = some mi.cls := hown
  have hS : va_S (wIn (gW cI h0 h1 h2 h3 h4 h5 h6 h1 h2 n wn t tc sc uw c1 c2 s ow hf tf)) sx.heap sx.heap [] := va_S.rf
  have hl : lv_has ls 1 [(0, .ref h0)] := hl
  refine lv_aload_n hx hb dX1_silentTurns_0 rfl (lv_at hl 0 rfl) ?_
  refine va_get (D := (dC, dI)) (ci := 1) (v := .int (nI sc)) (C := RX1) (T := TX1) (N := 10) hx hb hts inX1 hown hK hP 0 rfl rfl 8 (by decide) (hts _ q_fl_X1_39) (fun _ h9 => h9) rfl dX1_silentTurns_1 ?_
  exact ret _ (gW cI h0 h1 h2 h3 h4 h5 h6 h1 h2 n wn t tc sc uw c1 c2 s ow hf tf) _ _ _ _ dX1_silentTurns_4 rfl ⟨rfl, rfl⟩ (List.Perm.refl _) hP hS

set_option maxHeartbeats 4000000 in
set_option maxRecDepth 100000 in
theorem m_X1_playerInTurn (h0 h1 h2 h3 h4 h5 h6 n wn t tc sc : Nat) (uw : Bool) (c1 c2 : Nat) (s ow hf tf : Nat → Nat)  (hn : n ≤ 5) (hw : wn < 1024) (hs : ∀ p, p < 5 → s p < 1024) (hc1 : c1 ≤ 243) (hb1 : ∀ j, j < c1 → hf j < 1024) : Mp l yX1_playerInTurn ws_X1_playerInTurn 0 0 (dC, dI) (tyL cI cZ cS cW) [.ref h0] (gW cI h0 h1 h2 h3 h4 h5 h6 h1 h2 n wn t tc sc uw c1 c2 s ow hf tf) (fun r => r = whoI n t) := by
  refine Mi_of (by decide +kernel) (Nat.le_of_ble_eq_true rfl) ?_
  intro pr ev sx mi ag bl me cd Q ls S hP hK hD hZ hl ret
  obtain ⟨hx, hb, hml, hown, hts⟩ := id S
  have hown : sx.vm.findClass RX1 = some mi.cls := hown
  have hS : va_S (wIn (gW cI h0 h1 h2 h3 h4 h5 h6 h1 h2 n wn t tc sc uw c1 c2 s ow hf tf)) sx.heap sx.heap [] := va_S.rf
  have hl : lv_has ls 1 [(0, .ref h0)] := hl
  refine lv_aload_n hx hb dX1_playerInTurn_0 rfl (lv_at hl 0 rfl) ?_
  refine va_get (D := (dC, dI)) (ci := 1) (v := .int (nI n)) (C := RX1) (T := TX1) (N := 10) hx hb hts inX1 hown hK hP 0 rfl rfl 4 (by decide) (hts _ q_fl_X1_26) (fun _ h9 => h9) rfl dX1_playerInTurn_1 ?_
  refine ifN_le (tgt := 14) hx hb dX1_playerInTurn_4 (by decide) (by omega) (fun c_4 => ?_) (fun c_4 => ?_)
  · refine lv_iconst (v := (-1)) hx hb dX1_playerInTurn_14 (by decide) ?_
    exact ret _ (gW cI h0 h1 h2 h3 h4 h5 h6 h1 h2 n wn t tc sc uw c1 c2 s ow hf tf) _ _ _ _ dX1_playerInTurn_15 rfl ⟨rfl, by rw [whoI, if_pos c_4]⟩ (List.Perm.refl _) hP hS
  · refine lv_aload_n hx hb dX1_playerInTurn_7 rfl (lv_at hl 0 rfl) ?_
    refine va_get (D := (dC, dI)) (ci := 1) (v := .int (nI t)) (C := RX1) (T := TX1) (N := 10) hx hb hts inX1 hown hK hP 0 rfl rfl 6 (by decide) (hts _ q_fl_X1_33) (fun _ h9 => h9) rfl dX1_playerInTurn_8 ?_
    refine lv_goto (tgt := 15) hx hb dX1_playerInTurn_11 (by decide) ?_
    exact ret _ (gW cI h0 h1 h2 h3 h4 h5 h6 h1 h2 n wn t tc sc uw c1 c2 s ow hf tf) _ _ _ _ dX1_playerInTurn_15 rfl ⟨rfl, by rw [whoI, if_neg (by omega)]⟩ (List.Perm.refl _) hP hS

set_option maxHeartbeats 4000000 in
set_option maxRecDepth 100000 in
theorem m_X1_hatOf (h0 h1 h2 h3 h4 h5 h6 n wn t tc sc : Nat) (uw : Bool) (c1 c2 : Nat) (s ow hf tf : Nat → Nat) (j : Nat) (hj : j < n) (hn : n ≤ 5) (hw : wn < 1024) (hs : ∀ p, p < 5 → s p < 1024) (hc1 : c1 ≤ 243) (hb1 : ∀ j, j < c1 → hf j < 1024) : Mp l yX1_hatOf ws_X1_hatOf 1 21 (dC, dI) (tyL cI cZ cS cW) [.ref h0, .int (nI j)] (gW cI h0 h1 h2 h3 h4 h5 h6 h1 h2 n wn t tc sc uw c1 c2 s ow hf tf) (fun r => r = nI (qd wn j)) := by
  refine Mi_of (by decide +kernel) (Nat.le_of_ble_eq_true rfl) ?_
  intro pr ev sx mi ag bl me cd Q ls S hP hK hD hZ hl ret
  obtain ⟨hx, hb, hml, hown, hts⟩ := id S
  have hown : sx.vm.findClass RX1 = some mi.cls := hown
  have hS : va_S (wIn (gW cI h0 h1 h2 h3 h4 h5 h6 h1 h2 n wn t tc sc uw c1 c2 s ow hf tf)) sx.heap sx.heap [] := va_S.rf
  have hl : lv_has ls 2 [(0, .ref h0), (1, .int (nI j))] := hl
  refine lv_aload_n hx hb dX1_hatOf_0 rfl (lv_at hl 0 rfl) ?_
  refine lv_iload_n hx hb dX1_hatOf_1 rfl (lv_at hl 1 rfl) ?_
  refine call_Vv (As := [.int (nI j)]) (wr := []) (rest := []) S (m_X1_requirePlayer h0 h1 h2 h3 h4 h5 h6 h1 h2 n wn t tc sc uw c1 c2 s ow hf tf j (by omega) hn) g_X1_X1_requirePlayer hd_X1_requirePlayer ⟨Nat.le_of_ble_eq_true rfl, Nat.le_of_ble_eq_true rfl⟩ ⟨Nat.zero_le _, Nat.zero_le _⟩ hP hD hK hS hZ [0, 1, 2, 3, 4, 5, 6] [] rfl rfl (by decide) 0 rfl rfl hl.1 rfl (Nat.le_of_ble_eq_true rfl) dX1_hatOf_2 (fun u H locs hq hP hD hS => ?_)
  obtain rfl := hq
  have hP : va_P (dC, dI) vwCl (gW cI h0 h1 h2 h3 h4 h5 h6 h1 h2 n wn t tc sc uw c1 c2 s ow hf tf) H := hP
  have hD : va_D (wIn (gW cI h0 h1 h2 h3 h4 h5 h6 h1 h2 n wn t tc sc uw c1 c2 s ow hf tf)) (gW cI h0 h1 h2 h3 h4 h5 h6 h1 h2 n wn t tc sc uw c1 c2 s ow hf tf) := hD
  refine lv_aload_n hx hb dX1_hatOf_5 rfl (lv_at hl 0 rfl) ?_
  refine va_get (D := (dC, dI)) (ci := 1) (v := .int (nI wn)) (C := RX1) (T := TX1) (N := 10) hx hb hts inX1 hown hK hP 0 rfl rfl 5 (by decide) (hts _ q_fl_X1_30) (fun _ h9 => h9) rfl dX1_hatOf_6 ?_
  refine lv_iload_n hx hb dX1_hatOf_9 rfl (lv_at hl 1 rfl) ?_
  refine call_Sp (As := [.int (nI wn), .int (nI j)]) (rest := []) S (m_X1_colourIn wn j hw (by omega)) g_X1_X1_colourIn hd_X1_colourIn ⟨Nat.le_of_ble_eq_true rfl, Nat.le_of_ble_eq_true rfl⟩ ⟨Nat.zero_le _, Nat.zero_le _⟩ hP hD hK hS hZ [] rfl (by decide) hl.1 rfl (Nat.le_of_ble_eq_true rfl) dX1_hatOf_10 (fun r H locs hq hP hS => ?_)
  obtain rfl := hq
  exact ret _ (gW cI h0 h1 h2 h3 h4 h5 h6 h1 h2 n wn t tc sc uw c1 c2 s ow hf tf) _ _ _ _ dX1_hatOf_13 rfl ⟨rfl, rfl⟩ (List.Perm.refl _) hP hS

set_option maxHeartbeats 4000000 in
set_option maxRecDepth 100000 in
theorem m_X1_sees (h0 h1 h2 h3 h4 h5 h6 n wn t tc sc : Nat) (uw : Bool) (c1 c2 : Nat) (s ow hf tf : Nat → Nat) (j k : Nat) (hj : j < n) (hk : k < n) (hn : n ≤ 5) (hw : wn < 1024) (hs : ∀ p, p < 5 → s p < 1024) (hc1 : c1 ≤ 243) (hb1 : ∀ j, j < c1 → hf j < 1024) : Mp l yX1_sees ws_X1_sees 3 62 (dC, dI) (tyL cI cZ cS cW) [.ref h0, .int (nI j), .int (nI k)] (gW cI h0 h1 h2 h3 h4 h5 h6 h1 h2 n wn t tc sc uw c1 c2 s ow hf tf) (fun r => r = bI (seeN s j k)) := by
  refine Mi_of (by decide +kernel) (Nat.le_of_ble_eq_true rfl) ?_
  intro pr ev sx mi ag bl me cd Q ls S hP hK hD hZ hl ret
  obtain ⟨hx, hb, hml, hown, hts⟩ := id S
  have hown : sx.vm.findClass RX1 = some mi.cls := hown
  have hS : va_S (wIn (gW cI h0 h1 h2 h3 h4 h5 h6 h1 h2 n wn t tc sc uw c1 c2 s ow hf tf)) sx.heap sx.heap [] := va_S.rf
  have hl : lv_has ls 3 [(0, .ref h0), (1, .int (nI j)), (2, .int (nI k))] := hl
  refine lv_aload_n hx hb dX1_sees_0 rfl (lv_at hl 0 rfl) ?_
  refine lv_iload_n hx hb dX1_sees_1 rfl (lv_at hl 1 rfl) ?_
  refine call_Vv (As := [.int (nI j)]) (wr := []) (rest := []) S (m_X1_requirePlayer h0 h1 h2 h3 h4 h5 h6 h1 h2 n wn t tc sc uw c1 c2 s ow hf tf j (by omega) hn) g_X1_X1_requirePlayer hd_X1_requirePlayer ⟨Nat.le_of_ble_eq_true rfl, Nat.le_of_ble_eq_true rfl⟩ ⟨Nat.zero_le _, Nat.zero_le _⟩ hP hD hK hS hZ [0, 1, 2, 3, 4, 5, 6] [] rfl rfl (by decide) 0 rfl rfl hl.1 rfl (Nat.le_of_ble_eq_true rfl) dX1_sees_2 (fun u H locs hq hP hD hS => ?_)
  obtain rfl := hq
  have hP : va_P (dC, dI) vwCl (gW cI h0 h1 h2 h3 h4 h5 h6 h1 h2 n wn t tc sc uw c1 c2 s ow hf tf) H := hP
  have hD : va_D (wIn (gW cI h0 h1 h2 h3 h4 h5 h6 h1 h2 n wn t tc sc uw c1 c2 s ow hf tf)) (gW cI h0 h1 h2 h3 h4 h5 h6 h1 h2 n wn t tc sc uw c1 c2 s ow hf tf) := hD
  refine lv_aload_n hx hb dX1_sees_5 rfl (lv_at hl 0 rfl) ?_
  refine lv_iload_n hx hb dX1_sees_6 rfl (lv_at hl 2 rfl) ?_
  refine call_Vv (As := [.int (nI k)]) (wr := []) (rest := []) S (m_X1_requirePlayer h0 h1 h2 h3 h4 h5 h6 h1 h2 n wn t tc sc uw c1 c2 s ow hf tf k (by omega) hn) g_X1_X1_requirePlayer hd_X1_requirePlayer ⟨Nat.le_of_ble_eq_true rfl, Nat.le_of_ble_eq_true rfl⟩ ⟨Nat.zero_le _, Nat.zero_le _⟩ hP hD hK hS hZ [0, 1, 2, 3, 4, 5, 6] [] rfl rfl (by decide) 0 rfl rfl hl.1 rfl (Nat.le_of_ble_eq_true rfl) dX1_sees_7 (fun u H locs hq hP hD hS => ?_)
  obtain rfl := hq
  have hP : va_P (dC, dI) vwCl (gW cI h0 h1 h2 h3 h4 h5 h6 h1 h2 n wn t tc sc uw c1 c2 s ow hf tf) H := hP
  have hD : va_D (wIn (gW cI h0 h1 h2 h3 h4 h5 h6 h1 h2 n wn t tc sc uw c1 c2 s ow hf tf)) (gW cI h0 h1 h2 h3 h4 h5 h6 h1 h2 n wn t tc sc uw c1 c2 s ow hf tf) := hD
  refine lv_aload_n hx hb dX1_sees_10 rfl (lv_at hl 0 rfl) ?_
  refine lv_iload_n hx hb dX1_sees_11 rfl (lv_at hl 1 rfl) ?_
  refine lv_iload_n hx hb dX1_sees_12 rfl (lv_at hl 2 rfl) ?_
  refine call_Vp (As := [.int (nI j), .int (nI k)]) (rest := []) S (m_X1_seesHat h0 h1 h2 h3 h4 h5 h6 h1 h2 n wn t tc sc uw c1 c2 s ow hf tf j k (by omega) (by omega) hs) g_X1_X1_seesHat hd_X1_seesHat ⟨Nat.le_of_ble_eq_true rfl, Nat.le_of_ble_eq_true rfl⟩ ⟨Nat.zero_le _, Nat.zero_le _⟩ hP hD hK hS hZ [0, 1, 2, 3, 4, 5, 6] rfl (by decide) 0 rfl rfl hl.1 rfl (Nat.le_of_ble_eq_true rfl) dX1_sees_13 (fun r H locs hq hP hS => ?_)
  obtain rfl := hq
  exact ret _ (gW cI h0 h1 h2 h3 h4 h5 h6 h1 h2 n wn t tc sc uw c1 c2 s ow hf tf) _ _ _ _ dX1_sees_16 (bI_nar _) ⟨rfl, rfl⟩ (List.Perm.refl _) hP hS

set_option maxHeartbeats 4000000 in
set_option maxRecDepth 100000 in
theorem m_X1_hatsOf (h0 h1 h2 h3 h4 h5 h6 n wn t tc sc : Nat) (uw : Bool) (c1 c2 : Nat) (s ow hf tf : Nat → Nat) (co : Nat) (hco : co < 3) (hn : n ≤ 5) (hw : wn < 1024) (hs : ∀ p, p < 5 → s p < 1024) (hc1 : c1 ≤ 243) (hb1 : ∀ j, j < c1 → hf j < 1024) : Mp l yX1_hatsOf ws_X1_hatsOf 2 45 (dC, dI) (tyL cI cZ cS cW) [.ref h0, .int (nI co)] (gW cI h0 h1 h2 h3 h4 h5 h6 h1 h2 n wn t tc sc uw c1 c2 s ow hf tf) (fun r => r = nI (hatsN n wn co)) := by
  refine Mi_of (by decide +kernel) (Nat.le_of_ble_eq_true rfl) ?_
  intro pr ev sx mi ag bl me cd Q ls S hP hK hD hZ hl ret
  obtain ⟨hx, hb, hml, hown, hts⟩ := id S
  have hown : sx.vm.findClass RX1 = some mi.cls := hown
  have hS : va_S (wIn (gW cI h0 h1 h2 h3 h4 h5 h6 h1 h2 n wn t tc sc uw c1 c2 s ow hf tf)) sx.heap sx.heap [] := va_S.rf
  have hl : lv_has ls 2 [(0, .ref h0), (1, .int (nI co))] := hl
  refine lv_iload_n hx hb dX1_hatsOf_0 rfl (lv_at hl 1 rfl) ?_
  refine call_Sv (As := [.int (nI co)]) (wr := [(h0, .inr (1, [.ref h1, .ref h2, .ref h3, .ref h4, .int (nI n), .int (nI wn), .int (nI t), .int (nI tc), .int (nI sc), .int (bI uw)])), (h1, .inr (0, [.ref h5, .int (nI c1)])), (h2, .inr (0, [.ref h6, .int (nI c2)])), (h3, .inl (cI, 5, .inl (fun k => nI (s k)))), (h4, .inl (cI, 1024, .inl (fun k => nI (ow k)))), (h5, .inl (cI, 243, .inl (fun k => nI (hf k)))), (h6, .inl (cI, 243, .inl (fun k => nI (tf k))))]) (rest := []) S (m_X1_requireColour co (by omega)) g_X1_X1_requireColour hd_X1_requireColour ⟨Nat.le_of_ble_eq_true rfl, Nat.le_of_ble_eq_true rfl⟩ ⟨Nat.zero_le _, Nat.zero_le _⟩ hP hD hK hS hZ [] [0, 1, 2, 3, 4, 5, 6] rfl rfl (by decide) hl.1 rfl (Nat.le_of_ble_eq_true rfl) dX1_hatsOf_1 (fun u H locs hq hP hD hS => ?_)
  obtain rfl := hq
  have hP : va_P (dC, dI) vwCl (gW cI h0 h1 h2 h3 h4 h5 h6 h1 h2 n wn t tc sc uw c1 c2 s ow hf tf) H := hP
  have hD : va_D (wIn (gW cI h0 h1 h2 h3 h4 h5 h6 h1 h2 n wn t tc sc uw c1 c2 s ow hf tf)) (gW cI h0 h1 h2 h3 h4 h5 h6 h1 h2 n wn t tc sc uw c1 c2 s ow hf tf) := hD
  refine lv_aload_n hx hb dX1_hatsOf_4 rfl (lv_at hl 0 rfl) ?_
  refine lv_aload_n hx hb dX1_hatsOf_5 rfl (lv_at hl 0 rfl) ?_
  refine va_get (D := (dC, dI)) (ci := 1) (v := .int (nI wn)) (C := RX1) (T := TX1) (N := 10) hx hb hts inX1 hown hK hP 0 rfl rfl 5 (by decide) (hts _ q_fl_X1_30) (fun _ h9 => h9) rfl dX1_hatsOf_6 ?_
  refine lv_iload_n hx hb dX1_hatsOf_9 rfl (lv_at hl 1 rfl) ?_
  refine call_Vp (As := [.int (nI wn), .int (nI co)]) (rest := []) S (m_X1_hatsIn h0 h1 h2 h3 h4 h5 h6 h1 h2 n wn t tc sc uw c1 c2 s ow hf tf wn co hn hw (by omega)) g_X1_X1_hatsIn hd_X1_hatsIn ⟨Nat.le_of_ble_eq_true rfl, Nat.le_of_ble_eq_true rfl⟩ ⟨Nat.zero_le _, Nat.zero_le _⟩ hP hD hK hS hZ [0, 1, 2, 3, 4, 5, 6] rfl (by decide) 0 rfl rfl hl.1 rfl (Nat.le_of_ble_eq_true rfl) dX1_hatsOf_10 (fun r H locs hq hP hS => ?_)
  obtain rfl := hq
  exact ret _ (gW cI h0 h1 h2 h3 h4 h5 h6 h1 h2 n wn t tc sc uw c1 c2 s ow hf tf) _ _ _ _ dX1_hatsOf_13 rfl ⟨rfl, rfl⟩ (List.Perm.refl _) hP hS

set_option maxHeartbeats 4000000 in
set_option maxRecDepth 100000 in
theorem m_X1_openWays (h0 h1 h2 h3 h4 h5 h6 n wn t tc sc : Nat) (uw : Bool) (c1 c2 : Nat) (s ow hf tf : Nat → Nat)  (hn : n ≤ 5) (hw : wn < 1024) (hs : ∀ p, p < 5 → s p < 1024) (hc1 : c1 ≤ 243) (hb1 : ∀ j, j < c1 → hf j < 1024) : Mp l yX1_openWays ws_X1_openWays 1 20 (dC, dI) (tyL cI cZ cS cW) [.ref h0] (gW cI h0 h1 h2 h3 h4 h5 h6 h1 h2 n wn t tc sc uw c1 c2 s ow hf tf) (fun r => r = nI c1) := by
  refine Mi_of (by decide +kernel) (Nat.le_of_ble_eq_true rfl) ?_
  intro pr ev sx mi ag bl me cd Q ls S hP hK hD hZ hl ret
  obtain ⟨hx, hb, hml, hown, hts⟩ := id S
  have hown : sx.vm.findClass RX1 = some mi.cls := hown
  have hS : va_S (wIn (gW cI h0 h1 h2 h3 h4 h5 h6 h1 h2 n wn t tc sc uw c1 c2 s ow hf tf)) sx.heap sx.heap [] := va_S.rf
  have hl : lv_has ls 1 [(0, .ref h0)] := hl
  refine lv_aload_n hx hb dX1_openWays_0 rfl (lv_at hl 0 rfl) ?_
  refine va_get (D := (dC, dI)) (ci := 1) (v := .ref h1) (C := RX1) (T := TX1) (N := 10) hx hb hts inX1 hown hK hP 0 rfl rfl 0 (by decide) (hts _ q_fl_X1_10) (fun _ h9 => h9) rfl dX1_openWays_1 ?_
  refine call_Vp (As := []) (rest := []) S (m_X0_count h1 h5 c1 hf) g_X1_X0_count hd_X0_count ⟨Nat.le_of_ble_eq_true rfl, Nat.le_of_ble_eq_true rfl⟩ ⟨Nat.zero_le _, Nat.zero_le _⟩ hP hD hK hS hZ [1, 5] rfl (by decide) 0 rfl rfl hl.1 rfl (Nat.le_of_ble_eq_true rfl) dX1_openWays_4 (fun r H locs hq hP hS => ?_)
  obtain rfl := hq
  exact ret _ (gW cI h0 h1 h2 h3 h4 h5 h6 h1 h2 n wn t tc sc uw c1 c2 s ow hf tf) _ _ _ _ dX1_openWays_7 rfl ⟨rfl, rfl⟩ (List.Perm.refl _) hP hS

set_option maxHeartbeats 4000000 in
set_option maxRecDepth 100000 in
theorem m_X1_openWaysWith (h0 h1 h2 h3 h4 h5 h6 n wn t tc sc : Nat) (uw : Bool) (c1 c2 : Nat) (s ow hf tf : Nat → Nat) (j co : Nat) (hj : j < n) (hco : co < 3) (hn : n ≤ 5) (hw : wn < 1024) (hs : ∀ p, p < 5 → s p < 1024) (hc1 : c1 ≤ 243) (hb1 : ∀ j, j < c1 → hf j < 1024) : Mp l yX1_openWaysWith ws_X1_openWaysWith 2 45 (dC, dI) (tyL cI cZ cS cW) [.ref h0, .int (nI j), .int (nI co)] (gW cI h0 h1 h2 h3 h4 h5 h6 h1 h2 n wn t tc sc uw c1 c2 s ow hf tf) (fun r => r = nI ((Lof hf c1).countP (fun x => qd x j == co))) := by
  refine Mi_of (by decide +kernel) (Nat.le_of_ble_eq_true rfl) ?_
  intro pr ev sx mi ag bl me cd Q ls S hP hK hD hZ hl ret
  obtain ⟨hx, hb, hml, hown, hts⟩ := id S
  have hown : sx.vm.findClass RX1 = some mi.cls := hown
  have hS : va_S (wIn (gW cI h0 h1 h2 h3 h4 h5 h6 h1 h2 n wn t tc sc uw c1 c2 s ow hf tf)) sx.heap sx.heap [] := va_S.rf
  have hl : lv_has ls 3 [(0, .ref h0), (1, .int (nI j)), (2, .int (nI co))] := hl
  refine lv_aload_n hx hb dX1_openWaysWith_0 rfl (lv_at hl 0 rfl) ?_
  refine lv_iload_n hx hb dX1_openWaysWith_1 rfl (lv_at hl 1 rfl) ?_
  refine call_Vv (As := [.int (nI j)]) (wr := []) (rest := []) S (m_X1_requirePlayer h0 h1 h2 h3 h4 h5 h6 h1 h2 n wn t tc sc uw c1 c2 s ow hf tf j (by omega) hn) g_X1_X1_requirePlayer hd_X1_requirePlayer ⟨Nat.le_of_ble_eq_true rfl, Nat.le_of_ble_eq_true rfl⟩ ⟨Nat.zero_le _, Nat.zero_le _⟩ hP hD hK hS hZ [0, 1, 2, 3, 4, 5, 6] [] rfl rfl (by decide) 0 rfl rfl hl.1 rfl (Nat.le_of_ble_eq_true rfl) dX1_openWaysWith_2 (fun u H locs hq hP hD hS => ?_)
  obtain rfl := hq
  have hP : va_P (dC, dI) vwCl (gW cI h0 h1 h2 h3 h4 h5 h6 h1 h2 n wn t tc sc uw c1 c2 s ow hf tf) H := hP
  have hD : va_D (wIn (gW cI h0 h1 h2 h3 h4 h5 h6 h1 h2 n wn t tc sc uw c1 c2 s ow hf tf)) (gW cI h0 h1 h2 h3 h4 h5 h6 h1 h2 n wn t tc sc uw c1 c2 s ow hf tf) := hD
  refine lv_iload_n hx hb dX1_openWaysWith_5 rfl (lv_at hl 2 rfl) ?_
  refine call_Sv (As := [.int (nI co)]) (wr := [(h0, .inr (1, [.ref h1, .ref h2, .ref h3, .ref h4, .int (nI n), .int (nI wn), .int (nI t), .int (nI tc), .int (nI sc), .int (bI uw)])), (h1, .inr (0, [.ref h5, .int (nI c1)])), (h2, .inr (0, [.ref h6, .int (nI c2)])), (h3, .inl (cI, 5, .inl (fun k => nI (s k)))), (h4, .inl (cI, 1024, .inl (fun k => nI (ow k)))), (h5, .inl (cI, 243, .inl (fun k => nI (hf k)))), (h6, .inl (cI, 243, .inl (fun k => nI (tf k))))]) (rest := []) S (m_X1_requireColour co (by omega)) g_X1_X1_requireColour hd_X1_requireColour ⟨Nat.le_of_ble_eq_true rfl, Nat.le_of_ble_eq_true rfl⟩ ⟨Nat.zero_le _, Nat.zero_le _⟩ hP hD hK hS hZ [] [0, 1, 2, 3, 4, 5, 6] rfl rfl (by decide) hl.1 rfl (Nat.le_of_ble_eq_true rfl) dX1_openWaysWith_6 (fun u H locs hq hP hD hS => ?_)
  obtain rfl := hq
  have hP : va_P (dC, dI) vwCl (gW cI h0 h1 h2 h3 h4 h5 h6 h1 h2 n wn t tc sc uw c1 c2 s ow hf tf) H := hP
  have hD : va_D (wIn (gW cI h0 h1 h2 h3 h4 h5 h6 h1 h2 n wn t tc sc uw c1 c2 s ow hf tf)) (gW cI h0 h1 h2 h3 h4 h5 h6 h1 h2 n wn t tc sc uw c1 c2 s ow hf tf) := hD
  refine lv_aload_n hx hb dX1_openWaysWith_9 rfl (lv_at hl 0 rfl) ?_
  refine lv_iload_n hx hb dX1_openWaysWith_10 rfl (lv_at hl 1 rfl) ?_
  refine lv_iload_n hx hb dX1_openWaysWith_11 rfl (lv_at hl 2 rfl) ?_
  refine call_Vp (As := [.int (nI j), .int (nI co)]) (rest := []) S (m_X1_countWithHat h0 h1 h2 h3 h4 h5 h6 h2 n wn t tc sc uw c1 c2 s ow hf tf j co (by omega) (by omega) hc1 hb1) g_X1_X1_countWithHat hd_X1_countWithHat ⟨Nat.le_of_ble_eq_true rfl, Nat.le_of_ble_eq_true rfl⟩ ⟨Nat.zero_le _, Nat.zero_le _⟩ hP hD hK hS hZ [0, 1, 2, 3, 4, 5, 6] rfl (by decide) 0 rfl rfl hl.1 rfl (Nat.le_of_ble_eq_true rfl) dX1_openWaysWith_12 (fun r H locs hq hP hS => ?_)
  obtain rfl := hq
  exact ret _ (gW cI h0 h1 h2 h3 h4 h5 h6 h1 h2 n wn t tc sc uw c1 c2 s ow hf tf) _ _ _ _ dX1_openWaysWith_15 rfl ⟨rfl, rfl⟩ (List.Perm.refl _) hP hS

set_option maxHeartbeats 4000000 in
set_option maxRecDepth 100000 in
theorem m_X1_isKnownToAll (h0 h1 h2 h3 h4 h5 h6 n wn t tc sc : Nat) (uw : Bool) (c1 c2 : Nat) (s ow hf tf : Nat → Nat) (j : Nat) (hj : j < n) (hn : n ≤ 5) (hw : wn < 1024) (hs : ∀ p, p < 5 → s p < 1024) (hc1 : c1 ≤ 243) (hb1 : ∀ j, j < c1 → hf j < 1024) : Mp l yX1_isKnownToAll ws_X1_isKnownToAll 2 45 (dC, dI) (tyL cI cZ cS cW) [.ref h0, .int (nI j)] (gW cI h0 h1 h2 h3 h4 h5 h6 h1 h2 n wn t tc sc uw c1 c2 s ow hf tf) (fun r => r = bI (allN wn j (Lof hf c1))) := by
  refine Mi_of (by decide +kernel) (Nat.le_of_ble_eq_true rfl) ?_
  intro pr ev sx mi ag bl me cd Q ls S hP hK hD hZ hl ret
  obtain ⟨hx, hb, hml, hown, hts⟩ := id S
  have hown : sx.vm.findClass RX1 = some mi.cls := hown
  have hS : va_S (wIn (gW cI h0 h1 h2 h3 h4 h5 h6 h1 h2 n wn t tc sc uw c1 c2 s ow hf tf)) sx.heap sx.heap [] := va_S.rf
  have hl : lv_has ls 2 [(0, .ref h0), (1, .int (nI j))] := hl
  refine lv_aload_n hx hb dX1_isKnownToAll_0 rfl (lv_at hl 0 rfl) ?_
  refine lv_iload_n hx hb dX1_isKnownToAll_1 rfl (lv_at hl 1 rfl) ?_
  refine call_Vv (As := [.int (nI j)]) (wr := []) (rest := []) S (m_X1_requirePlayer h0 h1 h2 h3 h4 h5 h6 h1 h2 n wn t tc sc uw c1 c2 s ow hf tf j (by omega) hn) g_X1_X1_requirePlayer hd_X1_requirePlayer ⟨Nat.le_of_ble_eq_true rfl, Nat.le_of_ble_eq_true rfl⟩ ⟨Nat.zero_le _, Nat.zero_le _⟩ hP hD hK hS hZ [0, 1, 2, 3, 4, 5, 6] [] rfl rfl (by decide) 0 rfl rfl hl.1 rfl (Nat.le_of_ble_eq_true rfl) dX1_isKnownToAll_2 (fun u H locs hq hP hD hS => ?_)
  obtain rfl := hq
  have hP : va_P (dC, dI) vwCl (gW cI h0 h1 h2 h3 h4 h5 h6 h1 h2 n wn t tc sc uw c1 c2 s ow hf tf) H := hP
  have hD : va_D (wIn (gW cI h0 h1 h2 h3 h4 h5 h6 h1 h2 n wn t tc sc uw c1 c2 s ow hf tf)) (gW cI h0 h1 h2 h3 h4 h5 h6 h1 h2 n wn t tc sc uw c1 c2 s ow hf tf) := hD
  refine lv_aload_n hx hb dX1_isKnownToAll_5 rfl (lv_at hl 0 rfl) ?_
  refine lv_iload_n hx hb dX1_isKnownToAll_6 rfl (lv_at hl 1 rfl) ?_
  refine lv_aload_n hx hb dX1_isKnownToAll_7 rfl (lv_at hl 0 rfl) ?_
  refine va_get (D := (dC, dI)) (ci := 1) (v := .int (nI wn)) (C := RX1) (T := TX1) (N := 10) hx hb hts inX1 hown hK hP 0 rfl rfl 5 (by decide) (hts _ q_fl_X1_30) (fun _ h9 => h9) rfl dX1_isKnownToAll_8 ?_
  refine lv_iload_n hx hb dX1_isKnownToAll_11 rfl (lv_at hl 1 rfl) ?_
  refine call_Sp (As := [.int (nI wn), .int (nI j)]) (rest := [.int (nI j), .ref h0]) S (m_X1_colourIn wn j hw (by omega)) g_X1_X1_colourIn hd_X1_colourIn ⟨Nat.le_of_ble_eq_true rfl, Nat.le_of_ble_eq_true rfl⟩ ⟨Nat.zero_le _, Nat.zero_le _⟩ hP hD hK hS hZ [] rfl (by decide) hl.1 rfl (Nat.le_of_ble_eq_true rfl) dX1_isKnownToAll_12 (fun r H locs hq hP hS => ?_)
  obtain rfl := hq
  refine call_Vp (As := [.int (nI j), .int (nI (qd wn j))]) (rest := []) S (m_X1_countWithHat h0 h1 h2 h3 h4 h5 h6 h2 n wn t tc sc uw c1 c2 s ow hf tf j (qd wn j) (by omega) (qd_lt _ _) hc1 hb1) g_X1_X1_countWithHat hd_X1_countWithHat ⟨Nat.le_of_ble_eq_true rfl, Nat.le_of_ble_eq_true rfl⟩ ⟨Nat.zero_le _, Nat.zero_le _⟩ hP hD hK hS hZ [0, 1, 2, 3, 4, 5, 6] rfl (by decide) 0 rfl rfl hl.1 rfl (Nat.le_of_ble_eq_true rfl) dX1_isKnownToAll_15 (fun r H locs hq hP hS => ?_)
  obtain rfl := hq
  refine lv_aload_n hx hb dX1_isKnownToAll_18 rfl (lv_at hl 0 rfl) ?_
  refine va_get (D := (dC, dI)) (ci := 1) (v := .ref h1) (C := RX1) (T := TX1) (N := 10) hx hb hts inX1 hown hK hP 0 rfl rfl 0 (by decide) (hts _ q_fl_X1_10) (fun _ h9 => h9) rfl dX1_isKnownToAll_19 ?_
  refine call_Vp (As := []) (rest := [.int (nI ((Lof hf c1).countP (fun x => qd x j == (qd wn j))))]) S (m_X0_count h1 h5 c1 hf) g_X1_X0_count hd_X0_count ⟨Nat.le_of_ble_eq_true rfl, Nat.le_of_ble_eq_true rfl⟩ ⟨Nat.zero_le _, Nat.zero_le _⟩ hP hD hK hS hZ [1, 5] rfl (by decide) 0 rfl rfl hl.1 rfl (Nat.le_of_ble_eq_true rfl) dX1_isKnownToAll_22 (fun r H locs hq hP hS => ?_)
  obtain rfl := hq
  refine icN_ne (tgt := 32) hx hb dX1_isKnownToAll_25 (by decide) (by have := List.countP_le_length (p := fun x => qd x j == qd wn j) (l := Lof hf c1); rw [Lof_len] at this; omega) (by omega) (fun c_25 => ?_) (fun c_25 => ?_)
  · refine lv_iconst (v := nI 0) hx hb dX1_isKnownToAll_32 (by decide) ?_
    exact ret _ (gW cI h0 h1 h2 h3 h4 h5 h6 h1 h2 n wn t tc sc uw c1 c2 s ow hf tf) _ _ _ _ dX1_isKnownToAll_33 rfl ⟨rfl, bI_f (by simp [allN, Lof_len, c_25])⟩ (List.Perm.refl _) hP hS
  · refine lv_iconst (v := nI 1) hx hb dX1_isKnownToAll_28 (by decide) ?_
    refine lv_goto (tgt := 33) hx hb dX1_isKnownToAll_29 (by decide) ?_
    exact ret _ (gW cI h0 h1 h2 h3 h4 h5 h6 h1 h2 n wn t tc sc uw c1 c2 s ow hf tf) _ _ _ _ dX1_isKnownToAll_33 rfl ⟨rfl, bI_t (by simp [allN, Lof_len, c_25])⟩ (List.Perm.refl _) hP hS

set_option maxHeartbeats 4000000 in
set_option maxRecDepth 100000 in
theorem m_X1_possibleWays (h0 h1 h2 h3 h4 h5 h6 n wn t tc sc : Nat) (uw : Bool) (c1 c2 : Nat) (s ow hf tf : Nat → Nat) (j : Nat) (hj : j < n) (hn : n ≤ 5) (hw : wn < 1024) (hs : ∀ p, p < 5 → s p < 1024) (hc1 : c1 ≤ 243) (hb1 : ∀ j, j < c1 → hf j < 1024) : Mp l yX1_possibleWays ws_X1_possibleWays 2 46 (dC, dI) (tyL cI cZ cS cW) [.ref h0, .int (nI j)] (gW cI h0 h1 h2 h3 h4 h5 h6 h1 h2 n wn t tc sc uw c1 c2 s ow hf tf) (fun r => r = nI (possN wn (s j) (Lof hf c1))) := by
  refine Mi_of (by decide +kernel) (Nat.le_of_ble_eq_true rfl) ?_
  intro pr ev sx mi ag bl me cd Q ls S hP hK hD hZ hl ret
  obtain ⟨hx, hb, hml, hown, hts⟩ := id S
  have hown : sx.vm.findClass RX1 = some mi.cls := hown
  have hS : va_S (wIn (gW cI h0 h1 h2 h3 h4 h5 h6 h1 h2 n wn t tc sc uw c1 c2 s ow hf tf)) sx.heap sx.heap [] := va_S.rf
  have hl : lv_has ls 2 [(0, .ref h0), (1, .int (nI j))] := hl
  refine lv_aload_n hx hb dX1_possibleWays_0 rfl (lv_at hl 0 rfl) ?_
  refine lv_iload_n hx hb dX1_possibleWays_1 rfl (lv_at hl 1 rfl) ?_
  refine call_Vv (As := [.int (nI j)]) (wr := []) (rest := []) S (m_X1_requirePlayer h0 h1 h2 h3 h4 h5 h6 h1 h2 n wn t tc sc uw c1 c2 s ow hf tf j (by omega) hn) g_X1_X1_requirePlayer hd_X1_requirePlayer ⟨Nat.le_of_ble_eq_true rfl, Nat.le_of_ble_eq_true rfl⟩ ⟨Nat.zero_le _, Nat.zero_le _⟩ hP hD hK hS hZ [0, 1, 2, 3, 4, 5, 6] [] rfl rfl (by decide) 0 rfl rfl hl.1 rfl (Nat.le_of_ble_eq_true rfl) dX1_possibleWays_2 (fun u H locs hq hP hD hS => ?_)
  obtain rfl := hq
  have hP : va_P (dC, dI) vwCl (gW cI h0 h1 h2 h3 h4 h5 h6 h1 h2 n wn t tc sc uw c1 c2 s ow hf tf) H := hP
  have hD : va_D (wIn (gW cI h0 h1 h2 h3 h4 h5 h6 h1 h2 n wn t tc sc uw c1 c2 s ow hf tf)) (gW cI h0 h1 h2 h3 h4 h5 h6 h1 h2 n wn t tc sc uw c1 c2 s ow hf tf) := hD
  refine lv_aload_n hx hb dX1_possibleWays_5 rfl (lv_at hl 0 rfl) ?_
  refine lv_iload_n hx hb dX1_possibleWays_6 rfl (lv_at hl 1 rfl) ?_
  refine call_Vp (As := [.int (nI j)]) (rest := []) S (m_X1_countPossible h0 h1 h2 h3 h4 h5 h6 h2 n wn t tc sc uw c1 c2 s ow hf tf j (by omega) hw hc1 hb1) g_X1_X1_countPossible hd_X1_countPossible ⟨Nat.le_of_ble_eq_true rfl, Nat.le_of_ble_eq_true rfl⟩ ⟨Nat.zero_le _, Nat.zero_le _⟩ hP hD hK hS hZ [0, 1, 2, 3, 4, 5, 6] rfl (by decide) 0 rfl rfl hl.1 rfl (Nat.le_of_ble_eq_true rfl) dX1_possibleWays_7 (fun r H locs hq hP hS => ?_)
  obtain rfl := hq
  exact ret _ (gW cI h0 h1 h2 h3 h4 h5 h6 h1 h2 n wn t tc sc uw c1 c2 s ow hf tf) _ _ _ _ dX1_possibleWays_10 rfl ⟨rfl, rfl⟩ (List.Perm.refl _) hP hS

set_option maxHeartbeats 4000000 in
set_option maxRecDepth 100000 in
theorem m_X1_holdsPossible (h0 h1 h2 h3 h4 h5 h6 n wn t tc sc : Nat) (uw : Bool) (c1 c2 : Nat) (s ow hf tf : Nat → Nat) (j k co : Nat) (hj : j < n) (hk : k < n) (hco : co < 3) (hn : n ≤ 5) (hw : wn < 1024) (hs : ∀ p, p < 5 → s p < 1024) (hc1 : c1 ≤ 243) (hb1 : ∀ j, j < c1 → hf j < 1024) : Mp l yX1_holdsPossible ws_X1_holdsPossible 2 49 (dC, dI) (tyL cI cZ cS cW) [.ref h0, .int (nI j), .int (nI k), .int (nI co)] (gW cI h0 h1 h2 h3 h4 h5 h6 h1 h2 n wn t tc sc uw c1 c2 s ow hf tf) (fun r => r = bI (!((pcol wn (s j) k (Lof hf c1) &&& 1 * 2 ^ co) == 0))) := by
  refine Mi_of (by decide +kernel) (Nat.le_of_ble_eq_true rfl) ?_
  intro pr ev sx mi ag bl me cd Q ls S hP hK hD hZ hl ret
  obtain ⟨hx, hb, hml, hown, hts⟩ := id S
  have hown : sx.vm.findClass RX1 = some mi.cls := hown
  have hS : va_S (wIn (gW cI h0 h1 h2 h3 h4 h5 h6 h1 h2 n wn t tc sc uw c1 c2 s ow hf tf)) sx.heap sx.heap [] := va_S.rf
  have hl : lv_has ls 4 [(0, .ref h0), (1, .int (nI j)), (2, .int (nI k)), (3, .int (nI co))] := hl
  refine lv_aload_n hx hb dX1_holdsPossible_0 rfl (lv_at hl 0 rfl) ?_
  refine lv_iload_n hx hb dX1_holdsPossible_1 rfl (lv_at hl 1 rfl) ?_
  refine call_Vv (As := [.int (nI j)]) (wr := []) (rest := []) S (m_X1_requirePlayer h0 h1 h2 h3 h4 h5 h6 h1 h2 n wn t tc sc uw c1 c2 s ow hf tf j (by omega) hn) g_X1_X1_requirePlayer hd_X1_requirePlayer ⟨Nat.le_of_ble_eq_true rfl, Nat.le_of_ble_eq_true rfl⟩ ⟨Nat.zero_le _, Nat.zero_le _⟩ hP hD hK hS hZ [0, 1, 2, 3, 4, 5, 6] [] rfl rfl (by decide) 0 rfl rfl hl.1 rfl (Nat.le_of_ble_eq_true rfl) dX1_holdsPossible_2 (fun u H locs hq hP hD hS => ?_)
  obtain rfl := hq
  have hP : va_P (dC, dI) vwCl (gW cI h0 h1 h2 h3 h4 h5 h6 h1 h2 n wn t tc sc uw c1 c2 s ow hf tf) H := hP
  have hD : va_D (wIn (gW cI h0 h1 h2 h3 h4 h5 h6 h1 h2 n wn t tc sc uw c1 c2 s ow hf tf)) (gW cI h0 h1 h2 h3 h4 h5 h6 h1 h2 n wn t tc sc uw c1 c2 s ow hf tf) := hD
  refine lv_aload_n hx hb dX1_holdsPossible_5 rfl (lv_at hl 0 rfl) ?_
  refine lv_iload_n hx hb dX1_holdsPossible_6 rfl (lv_at hl 2 rfl) ?_
  refine call_Vv (As := [.int (nI k)]) (wr := []) (rest := []) S (m_X1_requirePlayer h0 h1 h2 h3 h4 h5 h6 h1 h2 n wn t tc sc uw c1 c2 s ow hf tf k (by omega) hn) g_X1_X1_requirePlayer hd_X1_requirePlayer ⟨Nat.le_of_ble_eq_true rfl, Nat.le_of_ble_eq_true rfl⟩ ⟨Nat.zero_le _, Nat.zero_le _⟩ hP hD hK hS hZ [0, 1, 2, 3, 4, 5, 6] [] rfl rfl (by decide) 0 rfl rfl hl.1 rfl (Nat.le_of_ble_eq_true rfl) dX1_holdsPossible_7 (fun u H locs hq hP hD hS => ?_)
  obtain rfl := hq
  have hP : va_P (dC, dI) vwCl (gW cI h0 h1 h2 h3 h4 h5 h6 h1 h2 n wn t tc sc uw c1 c2 s ow hf tf) H := hP
  have hD : va_D (wIn (gW cI h0 h1 h2 h3 h4 h5 h6 h1 h2 n wn t tc sc uw c1 c2 s ow hf tf)) (gW cI h0 h1 h2 h3 h4 h5 h6 h1 h2 n wn t tc sc uw c1 c2 s ow hf tf) := hD
  refine lv_iload_n hx hb dX1_holdsPossible_10 rfl (lv_at hl 3 rfl) ?_
  refine call_Sv (As := [.int (nI co)]) (wr := [(h0, .inr (1, [.ref h1, .ref h2, .ref h3, .ref h4, .int (nI n), .int (nI wn), .int (nI t), .int (nI tc), .int (nI sc), .int (bI uw)])), (h1, .inr (0, [.ref h5, .int (nI c1)])), (h2, .inr (0, [.ref h6, .int (nI c2)])), (h3, .inl (cI, 5, .inl (fun k => nI (s k)))), (h4, .inl (cI, 1024, .inl (fun k => nI (ow k)))), (h5, .inl (cI, 243, .inl (fun k => nI (hf k)))), (h6, .inl (cI, 243, .inl (fun k => nI (tf k))))]) (rest := []) S (m_X1_requireColour co (by omega)) g_X1_X1_requireColour hd_X1_requireColour ⟨Nat.le_of_ble_eq_true rfl, Nat.le_of_ble_eq_true rfl⟩ ⟨Nat.zero_le _, Nat.zero_le _⟩ hP hD hK hS hZ [] [0, 1, 2, 3, 4, 5, 6] rfl rfl (by decide) hl.1 rfl (Nat.le_of_ble_eq_true rfl) dX1_holdsPossible_11 (fun u H locs hq hP hD hS => ?_)
  obtain rfl := hq
  have hP : va_P (dC, dI) vwCl (gW cI h0 h1 h2 h3 h4 h5 h6 h1 h2 n wn t tc sc uw c1 c2 s ow hf tf) H := hP
  have hD : va_D (wIn (gW cI h0 h1 h2 h3 h4 h5 h6 h1 h2 n wn t tc sc uw c1 c2 s ow hf tf)) (gW cI h0 h1 h2 h3 h4 h5 h6 h1 h2 n wn t tc sc uw c1 c2 s ow hf tf) := hD
  refine lv_aload_n hx hb dX1_holdsPossible_14 rfl (lv_at hl 0 rfl) ?_
  refine lv_aload_n hx hb dX1_holdsPossible_15 rfl (lv_at hl 0 rfl) ?_
  refine va_get (D := (dC, dI)) (ci := 1) (v := .ref h1) (C := RX1) (T := TX1) (N := 10) hx hb hts inX1 hown hK hP 0 rfl rfl 0 (by decide) (hts _ q_fl_X1_10) (fun _ h9 => h9) rfl dX1_holdsPossible_16 ?_
  refine lv_iload_n hx hb dX1_holdsPossible_19 rfl (lv_at hl 1 rfl) ?_
  refine lv_iload_n hx hb dX1_holdsPossible_20 rfl (lv_at hl 2 rfl) ?_
  refine call_Vp (As := [.ref h1, .int (nI j), .int (nI k)]) (rest := []) S (m_X1_possibleColours h0 h1 h2 h3 h4 h5 h6 h1 h2 n wn t tc sc uw c1 c2 s ow hf tf j k (by omega) (by omega) hw hc1 hb1) g_X1_X1_possibleColours hd_X1_possibleColours ⟨Nat.le_of_ble_eq_true rfl, Nat.le_of_ble_eq_true rfl⟩ ⟨Nat.zero_le _, Nat.zero_le _⟩ hP hD hK hS hZ [0, 1, 2, 3, 4, 5, 6] rfl (by decide) 0 rfl rfl hl.1 rfl (Nat.le_of_ble_eq_true rfl) dX1_holdsPossible_21 (fun r H locs hq hP hS => ?_)
  obtain rfl := hq
  refine lv_iconst (v := nI 1) hx hb dX1_holdsPossible_24 (by decide) ?_
  refine lv_iload_n hx hb dX1_holdsPossible_25 rfl (lv_at hl 3 rfl) ?_
  refine lv_ishl hx hb dX1_holdsPossible_26 ?_
  refine W_i (y := nI (1 * 2 ^ co)) (nI_shl _ (by omega)) ?_
  refine lv_iand hx hb dX1_holdsPossible_27 ?_
  refine W_i (y := nI ((pcol wn (s j) k (Lof hf c1)) &&& (1 * 2 ^ co))) (nI_and _ _) ?_
  refine ifN_eq (tgt := 35) hx hb dX1_holdsPossible_28 (by decide) (lt_31 (and_l (by have := pcol_lt wn (s j) k (Lof hf c1); omega))) (fun c_28 => ?_) (fun c_28 => ?_)
  · refine lv_iconst (v := nI 0) hx hb dX1_holdsPossible_35 (by decide) ?_
    exact ret _ (gW cI h0 h1 h2 h3 h4 h5 h6 h1 h2 n wn t tc sc uw c1 c2 s ow hf tf) _ _ _ _ dX1_holdsPossible_36 rfl ⟨rfl, bI_f (nb_f c_28)⟩ (List.Perm.refl _) hP hS
  · refine lv_iconst (v := nI 1) hx hb dX1_holdsPossible_31 (by decide) ?_
    refine lv_goto (tgt := 36) hx hb dX1_holdsPossible_32 (by decide) ?_
    exact ret _ (gW cI h0 h1 h2 h3 h4 h5 h6 h1 h2 n wn t tc sc uw c1 c2 s ow hf tf) _ _ _ _ dX1_holdsPossible_36 rfl ⟨rfl, bI_t (nb_t c_28)⟩ (List.Perm.refl _) hP hS

set_option maxHeartbeats 4000000 in
set_option maxRecDepth 100000 in
theorem m_X1_isCertain (h0 h1 h2 h3 h4 h5 h6 n wn t tc sc : Nat) (uw : Bool) (c1 c2 : Nat) (s ow hf tf : Nat → Nat) (j : Nat) (hj : j < n) (hn : n ≤ 5) (hw : wn < 1024) (hs : ∀ p, p < 5 → s p < 1024) (hc1 : c1 ≤ 243) (hb1 : ∀ j, j < c1 → hf j < 1024) : Mp l yX1_isCertain ws_X1_isCertain 3 71 (dC, dI) (tyL cI cZ cS cW) [.ref h0, .int (nI j)] (gW cI h0 h1 h2 h3 h4 h5 h6 h1 h2 n wn t tc sc uw c1 c2 s ow hf tf) (fun r => r = bI (cert wn (s j) j (Lof hf c1))) := by
  refine Mi_of (by decide +kernel) (Nat.le_of_ble_eq_true rfl) ?_
  intro pr ev sx mi ag bl me cd Q ls S hP hK hD hZ hl ret
  obtain ⟨hx, hb, hml, hown, hts⟩ := id S
  have hown : sx.vm.findClass RX1 = some mi.cls := hown
  have hS : va_S (wIn (gW cI h0 h1 h2 h3 h4 h5 h6 h1 h2 n wn t tc sc uw c1 c2 s ow hf tf)) sx.heap sx.heap [] := va_S.rf
  have hl : lv_has ls 2 [(0, .ref h0), (1, .int (nI j))] := hl
  refine lv_aload_n hx hb dX1_isCertain_0 rfl (lv_at hl 0 rfl) ?_
  refine lv_iload_n hx hb dX1_isCertain_1 rfl (lv_at hl 1 rfl) ?_
  refine call_Vv (As := [.int (nI j)]) (wr := []) (rest := []) S (m_X1_requirePlayer h0 h1 h2 h3 h4 h5 h6 h1 h2 n wn t tc sc uw c1 c2 s ow hf tf j (by omega) hn) g_X1_X1_requirePlayer hd_X1_requirePlayer ⟨Nat.le_of_ble_eq_true rfl, Nat.le_of_ble_eq_true rfl⟩ ⟨Nat.zero_le _, Nat.zero_le _⟩ hP hD hK hS hZ [0, 1, 2, 3, 4, 5, 6] [] rfl rfl (by decide) 0 rfl rfl hl.1 rfl (Nat.le_of_ble_eq_true rfl) dX1_isCertain_2 (fun u H locs hq hP hD hS => ?_)
  obtain rfl := hq
  have hP : va_P (dC, dI) vwCl (gW cI h0 h1 h2 h3 h4 h5 h6 h1 h2 n wn t tc sc uw c1 c2 s ow hf tf) H := hP
  have hD : va_D (wIn (gW cI h0 h1 h2 h3 h4 h5 h6 h1 h2 n wn t tc sc uw c1 c2 s ow hf tf)) (gW cI h0 h1 h2 h3 h4 h5 h6 h1 h2 n wn t tc sc uw c1 c2 s ow hf tf) := hD
  refine lv_aload_n hx hb dX1_isCertain_5 rfl (lv_at hl 0 rfl) ?_
  refine lv_aload_n hx hb dX1_isCertain_6 rfl (lv_at hl 0 rfl) ?_
  refine va_get (D := (dC, dI)) (ci := 1) (v := .ref h1) (C := RX1) (T := TX1) (N := 10) hx hb hts inX1 hown hK hP 0 rfl rfl 0 (by decide) (hts _ q_fl_X1_10) (fun _ h9 => h9) rfl dX1_isCertain_7 ?_
  refine lv_iload_n hx hb dX1_isCertain_10 rfl (lv_at hl 1 rfl) ?_
  refine call_Vp (As := [.ref h1, .int (nI j)]) (rest := []) S (m_X1_isCertainBy h0 h1 h2 h3 h4 h5 h6 h1 h2 n wn t tc sc uw c1 c2 s ow hf tf j (by omega) hw hc1 hb1) g_X1_X1_isCertainBy hd_X1_isCertainBy ⟨Nat.le_of_ble_eq_true rfl, Nat.le_of_ble_eq_true rfl⟩ ⟨Nat.zero_le _, Nat.zero_le _⟩ hP hD hK hS hZ [0, 1, 2, 3, 4, 5, 6] rfl (by decide) 0 rfl rfl hl.1 rfl (Nat.le_of_ble_eq_true rfl) dX1_isCertain_11 (fun r H locs hq hP hS => ?_)
  obtain rfl := hq
  exact ret _ (gW cI h0 h1 h2 h3 h4 h5 h6 h1 h2 n wn t tc sc uw c1 c2 s ow hf tf) _ _ _ _ dX1_isCertain_14 (bI_nar _) ⟨rfl, rfl⟩ (List.Perm.refl _) hP hS

set_option maxHeartbeats 4000000 in
set_option maxRecDepth 100000 in
theorem m_X1_knowsHatOf (h0 h1 h2 h3 h4 h5 h6 n wn t tc sc : Nat) (uw : Bool) (c1 c2 : Nat) (s ow hf tf : Nat → Nat) (j k : Nat) (hj : j < n) (hk : k < n) (hn : n ≤ 5) (hw : wn < 1024) (hs : ∀ p, p < 5 → s p < 1024) (hc1 : c1 ≤ 243) (hb1 : ∀ j, j < c1 → hf j < 1024) : Mp l yX1_knowsHatOf ws_X1_knowsHatOf 2 49 (dC, dI) (tyL cI cZ cS cW) [.ref h0, .int (nI j), .int (nI k)] (gW cI h0 h1 h2 h3 h4 h5 h6 h1 h2 n wn t tc sc uw c1 c2 s ow hf tf) (fun r => r = bI (knwN wn (s j) k (Lof hf c1))) := by
  refine Mi_of (by decide +kernel) (Nat.le_of_ble_eq_true rfl) ?_
  intro pr ev sx mi ag bl me cd Q ls S hP hK hD hZ hl ret
  obtain ⟨hx, hb, hml, hown, hts⟩ := id S
  have hown : sx.vm.findClass RX1 = some mi.cls := hown
  have hS : va_S (wIn (gW cI h0 h1 h2 h3 h4 h5 h6 h1 h2 n wn t tc sc uw c1 c2 s ow hf tf)) sx.heap sx.heap [] := va_S.rf
  have hl : lv_has ls 3 [(0, .ref h0), (1, .int (nI j)), (2, .int (nI k))] := hl
  refine lv_aload_n hx hb dX1_knowsHatOf_0 rfl (lv_at hl 0 rfl) ?_
  refine lv_iload_n hx hb dX1_knowsHatOf_1 rfl (lv_at hl 1 rfl) ?_
  refine call_Vv (As := [.int (nI j)]) (wr := []) (rest := []) S (m_X1_requirePlayer h0 h1 h2 h3 h4 h5 h6 h1 h2 n wn t tc sc uw c1 c2 s ow hf tf j (by omega) hn) g_X1_X1_requirePlayer hd_X1_requirePlayer ⟨Nat.le_of_ble_eq_true rfl, Nat.le_of_ble_eq_true rfl⟩ ⟨Nat.zero_le _, Nat.zero_le _⟩ hP hD hK hS hZ [0, 1, 2, 3, 4, 5, 6] [] rfl rfl (by decide) 0 rfl rfl hl.1 rfl (Nat.le_of_ble_eq_true rfl) dX1_knowsHatOf_2 (fun u H locs hq hP hD hS => ?_)
  obtain rfl := hq
  have hP : va_P (dC, dI) vwCl (gW cI h0 h1 h2 h3 h4 h5 h6 h1 h2 n wn t tc sc uw c1 c2 s ow hf tf) H := hP
  have hD : va_D (wIn (gW cI h0 h1 h2 h3 h4 h5 h6 h1 h2 n wn t tc sc uw c1 c2 s ow hf tf)) (gW cI h0 h1 h2 h3 h4 h5 h6 h1 h2 n wn t tc sc uw c1 c2 s ow hf tf) := hD
  refine lv_aload_n hx hb dX1_knowsHatOf_5 rfl (lv_at hl 0 rfl) ?_
  refine lv_iload_n hx hb dX1_knowsHatOf_6 rfl (lv_at hl 2 rfl) ?_
  refine call_Vv (As := [.int (nI k)]) (wr := []) (rest := []) S (m_X1_requirePlayer h0 h1 h2 h3 h4 h5 h6 h1 h2 n wn t tc sc uw c1 c2 s ow hf tf k (by omega) hn) g_X1_X1_requirePlayer hd_X1_requirePlayer ⟨Nat.le_of_ble_eq_true rfl, Nat.le_of_ble_eq_true rfl⟩ ⟨Nat.zero_le _, Nat.zero_le _⟩ hP hD hK hS hZ [0, 1, 2, 3, 4, 5, 6] [] rfl rfl (by decide) 0 rfl rfl hl.1 rfl (Nat.le_of_ble_eq_true rfl) dX1_knowsHatOf_7 (fun u H locs hq hP hD hS => ?_)
  obtain rfl := hq
  have hP : va_P (dC, dI) vwCl (gW cI h0 h1 h2 h3 h4 h5 h6 h1 h2 n wn t tc sc uw c1 c2 s ow hf tf) H := hP
  have hD : va_D (wIn (gW cI h0 h1 h2 h3 h4 h5 h6 h1 h2 n wn t tc sc uw c1 c2 s ow hf tf)) (gW cI h0 h1 h2 h3 h4 h5 h6 h1 h2 n wn t tc sc uw c1 c2 s ow hf tf) := hD
  refine lv_aload_n hx hb dX1_knowsHatOf_10 rfl (lv_at hl 0 rfl) ?_
  refine lv_aload_n hx hb dX1_knowsHatOf_11 rfl (lv_at hl 0 rfl) ?_
  refine va_get (D := (dC, dI)) (ci := 1) (v := .ref h1) (C := RX1) (T := TX1) (N := 10) hx hb hts inX1 hown hK hP 0 rfl rfl 0 (by decide) (hts _ q_fl_X1_10) (fun _ h9 => h9) rfl dX1_knowsHatOf_12 ?_
  refine lv_iload_n hx hb dX1_knowsHatOf_15 rfl (lv_at hl 1 rfl) ?_
  refine lv_iload_n hx hb dX1_knowsHatOf_16 rfl (lv_at hl 2 rfl) ?_
  refine call_Vp (As := [.ref h1, .int (nI j), .int (nI k)]) (rest := []) S (m_X1_possibleColours h0 h1 h2 h3 h4 h5 h6 h1 h2 n wn t tc sc uw c1 c2 s ow hf tf j k (by omega) (by omega) hw hc1 hb1) g_X1_X1_possibleColours hd_X1_possibleColours ⟨Nat.le_of_ble_eq_true rfl, Nat.le_of_ble_eq_true rfl⟩ ⟨Nat.zero_le _, Nat.zero_le _⟩ hP hD hK hS hZ [0, 1, 2, 3, 4, 5, 6] rfl (by decide) 0 rfl rfl hl.1 rfl (Nat.le_of_ble_eq_true rfl) dX1_knowsHatOf_17 (fun r H locs hq hP hS => ?_)
  obtain rfl := hq
  refine call_Sp (As := [.int (nI (pcol wn (s j) k (Lof hf c1)))]) (rest := []) S (m_X1_isOneColour (pcol wn (s j) k (Lof hf c1)) (pcol_lt _ _ _ _)) g_X1_X1_isOneColour hd_X1_isOneColour ⟨Nat.le_of_ble_eq_true rfl, Nat.le_of_ble_eq_true rfl⟩ ⟨Nat.zero_le _, Nat.zero_le _⟩ hP hD hK hS hZ [] rfl (by decide) hl.1 rfl (Nat.le_of_ble_eq_true rfl) dX1_knowsHatOf_20 (fun r H locs hq hP hS => ?_)
  obtain rfl := hq
  exact ret _ (gW cI h0 h1 h2 h3 h4 h5 h6 h1 h2 n wn t tc sc uw c1 c2 s ow hf tf) _ _ _ _ dX1_knowsHatOf_23 (bI_nar _) ⟨rfl, rfl⟩ (List.Perm.refl _) hP hS

set_option maxHeartbeats 4000000 in
set_option maxRecDepth 100000 in
theorem m_X1_knowsCertain (h0 h1 h2 h3 h4 h5 h6 n wn t tc sc : Nat) (uw : Bool) (c1 c2 : Nat) (s ow hf tf : Nat → Nat) (j k : Nat) (hj : j < n) (hk : k < n) (hn : n ≤ 5) (hw : wn < 1024) (hs : ∀ p, p < 5 → s p < 1024) (hc1 : c1 ≤ 243) (hb1 : ∀ j, j < c1 → hf j < 1024) : Mi l yX1_knowsCertain ws_X1_knowsCertain 3 68 (dC, dI) (tyL cI cZ cS cW) [.ref h0, .int (nI j), .int (nI k)] (gW cI h0 h1 h2 h3 h4 h5 h6 h1 h2 n wn t tc sc uw c1 c2 s ow hf tf) (fun r u => r = bI (sureL wn (s j) (s k) k (Lof hf c1)) ∧ ∃ og : Nat → Nat, u = gW cI h0 h1 h2 h3 h4 h5 h6 h1 h2 n wn t tc sc uw c1 c2 s og hf tf) := by
  refine Mi_of (by decide +kernel) (Nat.le_of_ble_eq_true rfl) ?_
  intro pr ev sx mi ag bl me cd Q ls S hP hK hD hZ hl ret
  obtain ⟨hx, hb, hml, hown, hts⟩ := id S
  have hown : sx.vm.findClass RX1 = some mi.cls := hown
  have hS : va_S (wIn (gW cI h0 h1 h2 h3 h4 h5 h6 h1 h2 n wn t tc sc uw c1 c2 s ow hf tf)) sx.heap sx.heap [] := va_S.rf
  have hl : lv_has ls 6 [(0, .ref h0), (1, .int (nI j)), (2, .int (nI k))] := hl
  refine lv_aload_n hx hb dX1_knowsCertain_0 rfl (lv_at hl 0 rfl) ?_
  refine lv_iload_n hx hb dX1_knowsCertain_1 rfl (lv_at hl 1 rfl) ?_
  refine call_Vv (As := [.int (nI j)]) (wr := []) (rest := []) S (m_X1_requirePlayer h0 h1 h2 h3 h4 h5 h6 h1 h2 n wn t tc sc uw c1 c2 s ow hf tf j (by omega) hn) g_X1_X1_requirePlayer hd_X1_requirePlayer ⟨Nat.le_of_ble_eq_true rfl, Nat.le_of_ble_eq_true rfl⟩ ⟨Nat.zero_le _, Nat.zero_le _⟩ hP hD hK hS hZ [0, 1, 2, 3, 4, 5, 6] [] rfl rfl (by decide) 0 rfl rfl hl.1 rfl (Nat.le_of_ble_eq_true rfl) dX1_knowsCertain_2 (fun u H locs hq hP hD hS => ?_)
  obtain rfl := hq
  have hP : va_P (dC, dI) vwCl (gW cI h0 h1 h2 h3 h4 h5 h6 h1 h2 n wn t tc sc uw c1 c2 s ow hf tf) H := hP
  have hD : va_D (wIn (gW cI h0 h1 h2 h3 h4 h5 h6 h1 h2 n wn t tc sc uw c1 c2 s ow hf tf)) (gW cI h0 h1 h2 h3 h4 h5 h6 h1 h2 n wn t tc sc uw c1 c2 s ow hf tf) := hD
  refine lv_aload_n hx hb dX1_knowsCertain_5 rfl (lv_at hl 0 rfl) ?_
  refine lv_iload_n hx hb dX1_knowsCertain_6 rfl (lv_at hl 2 rfl) ?_
  refine call_Vv (As := [.int (nI k)]) (wr := []) (rest := []) S (m_X1_requirePlayer h0 h1 h2 h3 h4 h5 h6 h1 h2 n wn t tc sc uw c1 c2 s ow hf tf k (by omega) hn) g_X1_X1_requirePlayer hd_X1_requirePlayer ⟨Nat.le_of_ble_eq_true rfl, Nat.le_of_ble_eq_true rfl⟩ ⟨Nat.zero_le _, Nat.zero_le _⟩ hP hD hK hS hZ [0, 1, 2, 3, 4, 5, 6] [] rfl rfl (by decide) 0 rfl rfl hl.1 rfl (Nat.le_of_ble_eq_true rfl) dX1_knowsCertain_7 (fun u H locs hq hP hD hS => ?_)
  obtain rfl := hq
  have hP : va_P (dC, dI) vwCl (gW cI h0 h1 h2 h3 h4 h5 h6 h1 h2 n wn t tc sc uw c1 c2 s ow hf tf) H := hP
  have hD : va_D (wIn (gW cI h0 h1 h2 h3 h4 h5 h6 h1 h2 n wn t tc sc uw c1 c2 s ow hf tf)) (gW cI h0 h1 h2 h3 h4 h5 h6 h1 h2 n wn t tc sc uw c1 c2 s ow hf tf) := hD
  refine lv_aload_n hx hb dX1_knowsCertain_10 rfl (lv_at hl 0 rfl) ?_
  refine lv_aload_n hx hb dX1_knowsCertain_11 rfl (lv_at hl 0 rfl) ?_
  refine va_get (D := (dC, dI)) (ci := 1) (v := .ref h1) (C := RX1) (T := TX1) (N := 10) hx hb hts inX1 hown hK hP 0 rfl rfl 0 (by decide) (hts _ q_fl_X1_10) (fun _ h9 => h9) rfl dX1_knowsCertain_12 ?_
  refine lv_iload_n hx hb dX1_knowsCertain_15 rfl (lv_at hl 2 rfl) ?_
  refine call_Vv (As := [.ref h1, .int (nI k)]) (wr := []) (rest := []) S (m_X1_noteOwnColours h0 h1 h2 h3 h4 h5 h6 h1 h2 n wn t tc sc uw c1 c2 s ow hf tf k (by omega) hc1 hb1) g_X1_X1_noteOwnColours hd_X1_noteOwnColours ⟨Nat.le_of_ble_eq_true rfl, Nat.le_of_ble_eq_true rfl⟩ ⟨Nat.zero_le _, Nat.zero_le _⟩ hP hD hK hS hZ [0, 1, 2, 3, 4, 5, 6] [] rfl rfl (by decide) 0 rfl rfl hl.1 rfl (Nat.le_of_ble_eq_true rfl) dX1_knowsCertain_16 (fun u H locs hq hP hD hS => ?_)
  obtain ⟨og, rfl, hog⟩ := hq
  have hP : va_P (dC, dI) vwCl (gW cI h0 h1 h2 h3 h4 h5 h6 h1 h2 n wn t tc sc uw c1 c2 s og hf tf) H := hP
  have hD : va_D (wIn (gW cI h0 h1 h2 h3 h4 h5 h6 h1 h2 n wn t tc sc uw c1 c2 s ow hf tf)) (gW cI h0 h1 h2 h3 h4 h5 h6 h1 h2 n wn t tc sc uw c1 c2 s og hf tf) := hD
  refine lv_aload_n hx hb dX1_knowsCertain_19 rfl (lv_at hl 0 rfl) ?_
  refine lv_iload_n hx hb dX1_knowsCertain_20 rfl (lv_at hl 1 rfl) ?_
  refine call_Vp (As := [.int (nI j)]) (rest := []) S (m_X1_seenHatsOf h0 h1 h2 h3 h4 h5 h6 h1 h2 n wn t tc sc uw c1 c2 s og hf tf j (by omega)) g_X1_X1_seenHatsOf hd_X1_seenHatsOf ⟨Nat.le_of_ble_eq_true rfl, Nat.le_of_ble_eq_true rfl⟩ ⟨Nat.zero_le _, Nat.zero_le _⟩ hP hD hK hS hZ [0, 1, 2, 3, 4, 5, 6] rfl (by decide) 0 rfl rfl hl.1 rfl (Nat.le_of_ble_eq_true rfl) dX1_knowsCertain_21 (fun r H locs hq hP hS => ?_)
  obtain rfl := hq
  refine lv_istore_n (lv' := [(3, .int (nI (s j))), (0, .ref h0), (1, .int (nI j)), (2, .int (nI k))]) hx hb dX1_knowsCertain_24 rfl hl (by decide) rfl (fun ls hl => ?_)
  refine lv_iconst (v := nI 0) hx hb dX1_knowsCertain_25 (by decide) ?_
  refine lv_istore (lv' := [(4, .int (nI 0)), (3, .int (nI (s j))), (0, .ref h0), (1, .int (nI j)), (2, .int (nI k))]) hx hb dX1_knowsCertain_26 hl (by decide) rfl (fun ls hl => ?_)
  have lp28 : ∀ (kf : Nat) (i : Nat), c1 < i + kf → (i ≤ c1) → (∀ j2, j2 < i → agr wn (hf j2) (s j) = true → wbc (s k) k (Lof hf c1) (hf j2) = true) → ∀ (H : Heap) (locs : List Loc), va_P (dC, dI) vwCl (gW cI h0 h1 h2 h3 h4 h5 h6 h1 h2 n wn t tc sc uw c1 c2 s og hf tf) H → va_D (wIn (gW cI h0 h1 h2 h3 h4 h5 h6 h1 h2 n wn t tc sc uw c1 c2 s ow hf tf)) (gW cI h0 h1 h2 h3 h4 h5 h6 h1 h2 n wn t tc sc uw c1 c2 s og hf tf) → va_S (wIn (gW cI h0 h1 h2 h3 h4 h5 h6 h1 h2 n wn t tc sc uw c1 c2 s ow hf tf)) sx.heap H locs → ∀ ls : Array Slot, lv_has ls 6 [(4, .int (nI i)), (3, .int (nI (s j))), (0, .ref h0), (1, .int (nI j)), (2, .int (nI k))] → W pr l ev (rmB 3 68) sx mi ag bl me cd H locs 0 0 Q (F0 mi 28 ls []) := by
    intro kf
    induction kf with
    | zero => intro i hkf hi hall; exact absurd hkf (by omega)
    | succ kf ih28 =>
      intro i hkf hi hall H locs hP hD hS ls hl
      refine lv_iload hx hb dX1_knowsCertain_28 (lv_at hl 0 rfl) ?_
      refine lv_aload_n hx hb dX1_knowsCertain_30 rfl (lv_at hl 2 rfl) ?_
      refine va_get (D := (dC, dI)) (ci := 1) (v := .ref h1) (C := RX1) (T := TX1) (N := 10) hx hb hts inX1 hown hK hP 0 rfl rfl 0 (by decide) (hts _ q_fl_X1_10) (fun _ h9 => h9) rfl dX1_knowsCertain_31 ?_
      refine call_Vp (As := []) (rest := [.int (nI i)]) S (m_X0_count h1 h5 c1 hf) g_X1_X0_count hd_X0_count ⟨Nat.le_of_ble_eq_true rfl, Nat.le_of_ble_eq_true rfl⟩ ⟨Nat.zero_le _, Nat.zero_le _⟩ hP hD hK hS hZ [1, 5] rfl (by decide) 0 rfl rfl hl.1 rfl (Nat.le_of_ble_eq_true rfl) dX1_knowsCertain_34 (fun r H locs hq hP hS => ?_)
      obtain rfl := hq
      refine icN_ge (tgt := 79) hx hb dX1_knowsCertain_37 (by decide) (by omega) (by omega) (fun c_37 => ?_) (fun c_37 => ?_)
      · refine lv_iconst (v := nI 1) hx hb dX1_knowsCertain_79 (by decide) ?_
        exact ret _ (gW cI h0 h1 h2 h3 h4 h5 h6 h1 h2 n wn t tc sc uw c1 c2 s og hf tf) _ _ _ _ dX1_knowsCertain_80 rfl ⟨bI_t (sure_t (fun j2 hj2 ha2 => hall j2 (by omega) ha2)), og, rfl⟩ (List.Perm.refl _) hP hS
      · refine lv_aload_n hx hb dX1_knowsCertain_40 rfl (lv_at hl 2 rfl) ?_
        refine va_get (D := (dC, dI)) (ci := 1) (v := .ref h1) (C := RX1) (T := TX1) (N := 10) hx hb hts inX1 hown hK hP 0 rfl rfl 0 (by decide) (hts _ q_fl_X1_10) (fun _ h9 => h9) rfl dX1_knowsCertain_41 ?_
        refine lv_iload hx hb dX1_knowsCertain_44 (lv_at hl 0 rfl) ?_
        refine call_Vp (As := [.int (nI i)]) (rest := []) S (m_X0_at h1 h5 c1 hf i (by omega)) g_X1_X0_at hd_X0_at ⟨Nat.le_of_ble_eq_true rfl, Nat.le_of_ble_eq_true rfl⟩ ⟨Nat.zero_le _, Nat.zero_le _⟩ hP hD hK hS hZ [1, 5] rfl (by decide) 0 rfl rfl hl.1 rfl (Nat.le_of_ble_eq_true rfl) dX1_knowsCertain_46 (fun r H locs hq hP hS => ?_)
        obtain rfl := hq
        refine lv_istore (lv' := [(5, .int (nI (hf i))), (4, .int (nI i)), (3, .int (nI (s j))), (0, .ref h0), (1, .int (nI j)), (2, .int (nI k))]) hx hb dX1_knowsCertain_49 hl (by decide) rfl (fun ls hl => ?_)
        refine lv_aload_n hx hb dX1_knowsCertain_51 rfl (lv_at hl 3 rfl) ?_
        refine lv_iload hx hb dX1_knowsCertain_52 (lv_at hl 0 rfl) ?_
        refine lv_iload_n hx hb dX1_knowsCertain_54 rfl (lv_at hl 2 rfl) ?_
        refine call_Vp (As := [.int (nI (hf i)), .int (nI (s j))]) (rest := []) S (m_X1_agreesWithNow h0 h1 h2 h3 h4 h5 h6 h1 h2 n wn t tc sc uw c1 c2 s og hf tf (hf i) (s j) (hb1 _ (by omega)) hw) g_X1_X1_agreesWithNow hd_X1_agreesWithNow ⟨Nat.le_of_ble_eq_true rfl, Nat.le_of_ble_eq_true rfl⟩ ⟨Nat.zero_le _, Nat.zero_le _⟩ hP hD hK hS hZ [0, 1, 2, 3, 4, 5, 6] rfl (by decide) 0 rfl rfl hl.1 rfl (Nat.le_of_ble_eq_true rfl) dX1_knowsCertain_55 (fun r H locs hq hP hS => ?_)
        obtain rfl := hq
        refine ifB_eq (tgt := 73) hx hb dX1_knowsCertain_58 (by decide) (fun c_58 => ?_) (fun c_58 => ?_)
        · refine lv_iinc (v := nI (i + 1)) (lv' := [(4, .int (nI (i + 1))), (5, .int (nI (hf i))), (3, .int (nI (s j))), (0, .ref h0), (1, .int (nI j)), (2, .int (nI k))]) hx hb dX1_knowsCertain_73 hl (k := 1) rfl (nI_add _ _) (by decide) rfl (fun ls hl => ?_)
          refine lv_goto (tgt := 28) hx hb dX1_knowsCertain_76 (by decide) ?_
          exact ih28 (i + 1) (by omega) (by omega) (fun j2 h2 ha2 => by rcases Nat.lt_or_ge j2 i with q | q; (· exact hall j2 q ha2); (· rw [show j2 = i by omega] at ha2 ⊢; rw [c_58] at ha2; exact absurd ha2 (by decide))) _ _ hP hD hS _ (lv_sub hl [0, 2, 3, 4, 5] rfl)
        · refine lv_aload_n hx hb dX1_knowsCertain_61 rfl (lv_at hl 3 rfl) ?_
          refine lv_iload hx hb dX1_knowsCertain_62 (lv_at hl 0 rfl) ?_
          refine lv_iload_n hx hb dX1_knowsCertain_64 rfl (lv_at hl 5 rfl) ?_
          refine call_Vp (As := [.int (nI (hf i)), .int (nI k)]) (rest := []) S (m_X1_wouldBeCertain h0 h1 h2 h3 h4 h5 h6 h1 h2 n wn t tc sc uw c1 c2 s og hf tf (hf i) k (by omega) (by rw [hog i (by omega)]; exact ocol_lt _ _ _ _)) g_X1_X1_wouldBeCertain hd_X1_wouldBeCertain ⟨Nat.le_of_ble_eq_true rfl, Nat.le_of_ble_eq_true rfl⟩ ⟨Nat.zero_le _, Nat.zero_le _⟩ hP hD hK hS hZ [0, 1, 2, 3, 4, 5, 6] rfl (by decide) 0 rfl rfl hl.1 rfl (Nat.le_of_ble_eq_true rfl) dX1_knowsCertain_65 (fun r H locs hq hP hS => ?_)
          obtain rfl : r = bI (wbc (s k) k (Lof hf c1) (hf i)) := by rw [hq, wbc, hog i (by omega)]
          refine ifB_ne (tgt := 73) hx hb dX1_knowsCertain_68 (by decide) (fun c_68 => ?_) (fun c_68 => ?_)
          · refine lv_iinc (v := nI (i + 1)) (lv' := [(4, .int (nI (i + 1))), (5, .int (nI (hf i))), (3, .int (nI (s j))), (0, .ref h0), (1, .int (nI j)), (2, .int (nI k))]) hx hb dX1_knowsCertain_73 hl (k := 1) rfl (nI_add _ _) (by decide) rfl (fun ls hl => ?_)
            refine lv_goto (tgt := 28) hx hb dX1_knowsCertain_76 (by decide) ?_
            exact ih28 (i + 1) (by omega) (by omega) (fun j2 h2 ha2 => by rcases Nat.lt_or_ge j2 i with q | q; (· exact hall j2 q ha2); (· rw [show j2 = i by omega] at ha2 ⊢; exact c_68)) _ _ hP hD hS _ (lv_sub hl [0, 2, 3, 4, 5] rfl)
          · refine lv_iconst (v := nI 0) hx hb dX1_knowsCertain_71 (by decide) ?_
            exact ret _ (gW cI h0 h1 h2 h3 h4 h5 h6 h1 h2 n wn t tc sc uw c1 c2 s og hf tf) _ _ _ _ dX1_knowsCertain_72 rfl ⟨bI_f (sure_f (by omega) c_58 c_68), og, rfl⟩ (List.Perm.refl _) hP hS
  exact lp28 (c1 + 1) 0 (by omega) (by omega) (fun j2 h2 => absurd h2 (by omega)) _ _ hP hD hS _ (lv_sub hl [0, 1, 2, 3, 4] rfl)

set_option maxHeartbeats 4000000 in
set_option maxRecDepth 100000 in
theorem m_X1_certainPlayers (h0 h1 h2 h3 h4 h5 h6 n wn t tc sc : Nat) (uw : Bool) (c1 c2 : Nat) (s ow hf tf : Nat → Nat)  (hn : n ≤ 5) (hw : wn < 1024) (hs : ∀ p, p < 5 → s p < 1024) (hc1 : c1 ≤ 243) (hb1 : ∀ j, j < c1 → hf j < 1024) : Mp l yX1_certainPlayers ws_X1_certainPlayers 4 94 (dC, dI) (tyL cI cZ cS cW) [.ref h0] (gW cI h0 h1 h2 h3 h4 h5 h6 h1 h2 n wn t tc sc uw c1 c2 s ow hf tf) (fun r => r = nI (certN wn s (Lof hf c1) n)) := by
  refine Mi_of (by decide +kernel) (Nat.le_of_ble_eq_true rfl) ?_
  intro pr ev sx mi ag bl me cd Q ls S hP hK hD hZ hl ret
  obtain ⟨hx, hb, hml, hown, hts⟩ := id S
  have hown : sx.vm.findClass RX1 = some mi.cls := hown
  have hS : va_S (wIn (gW cI h0 h1 h2 h3 h4 h5 h6 h1 h2 n wn t tc sc uw c1 c2 s ow hf tf)) sx.heap sx.heap [] := va_S.rf
  have hl : lv_has ls 1 [(0, .ref h0)] := hl
  refine lv_aload_n hx hb dX1_certainPlayers_0 rfl (lv_at hl 0 rfl) ?_
  refine lv_aload_n hx hb dX1_certainPlayers_1 rfl (lv_at hl 0 rfl) ?_
  refine va_get (D := (dC, dI)) (ci := 1) (v := .ref h1) (C := RX1) (T := TX1) (N := 10) hx hb hts inX1 hown hK hP 0 rfl rfl 0 (by decide) (hts _ q_fl_X1_10) (fun _ h9 => h9) rfl dX1_certainPlayers_2 ?_
  refine call_Vp (As := [.ref h1]) (rest := []) S (m_X1_countCertain h0 h1 h2 h3 h4 h5 h6 h1 h2 n wn t tc sc uw c1 c2 s ow hf tf  hn hw hc1 hb1) g_X1_X1_countCertain hd_X1_countCertain ⟨Nat.le_of_ble_eq_true rfl, Nat.le_of_ble_eq_true rfl⟩ ⟨Nat.zero_le _, Nat.zero_le _⟩ hP hD hK hS hZ [0, 1, 2, 3, 4, 5, 6] rfl (by decide) 0 rfl rfl hl.1 rfl (Nat.le_of_ble_eq_true rfl) dX1_certainPlayers_5 (fun r H locs hq hP hS => ?_)
  obtain rfl := hq
  exact ret _ (gW cI h0 h1 h2 h3 h4 h5 h6 h1 h2 n wn t tc sc uw c1 c2 s ow hf tf) _ _ _ _ dX1_certainPlayers_8 rfl ⟨rfl, rfl⟩ (List.Perm.refl _) hP hS





set_option maxHeartbeats 4000000 in
set_option maxRecDepth 100000 in
theorem m_X1_certainIfTold (h0 h1 h2 h3 h4 h5 h6 n wn t tc sc : Nat) (uw : Bool) (c1 c2 : Nat) (s ow hf tf : Nat → Nat) (j : Nat) (hj : j < n) (hn : n ≤ 5) (hw : wn < 1024) (hs : ∀ p, p < 5 → s p < 1024) (hc1 : c1 ≤ 243) (hb1 : ∀ j, j < c1 → hf j < 1024) : Mi l yX1_certainIfTold ws_X1_certainIfTold 4 94 (dC, dI) (tyL cI cZ cS cW) [.ref h0, .int (nI j)] (gW cI h0 h1 h2 h3 h4 h5 h6 h1 h2 n wn t tc sc uw c1 c2 s ow hf tf) (fun r u => r = nI (certN wn s (toldL wn j (Lof hf c1)) n) ∧ ∃ (k : Nat) (g : Nat → Nat), u = gW cI h0 h1 h2 h3 h4 h5 h6 h1 h2 n wn t tc sc uw c1 k s ow hf g) := by
  refine Mi_of (by decide +kernel) (Nat.le_of_ble_eq_true rfl) ?_
  intro pr ev sx mi ag bl me cd Q ls S hP hK hD hZ hl ret
  obtain ⟨hx, hb, hml, hown, hts⟩ := id S
  have hown : sx.vm.findClass RX1 = some mi.cls := hown
  have hS : va_S (wIn (gW cI h0 h1 h2 h3 h4 h5 h6 h1 h2 n wn t tc sc uw c1 c2 s ow hf tf)) sx.heap sx.heap [] := va_S.rf
  have hl : lv_has ls 2 [(0, .ref h0), (1, .int (nI j))] := hl
  refine lv_aload_n hx hb dX1_certainIfTold_0 rfl (lv_at hl 0 rfl) ?_
  refine lv_iload_n hx hb dX1_certainIfTold_1 rfl (lv_at hl 1 rfl) ?_
  refine call_Vv (As := [.int (nI j)]) (wr := []) (rest := []) S (m_X1_requirePlayer h0 h1 h2 h3 h4 h5 h6 h1 h2 n wn t tc sc uw c1 c2 s ow hf tf j (by omega) hn) g_X1_X1_requirePlayer hd_X1_requirePlayer ⟨Nat.le_of_ble_eq_true rfl, Nat.le_of_ble_eq_true rfl⟩ ⟨Nat.zero_le _, Nat.zero_le _⟩ hP hD hK hS hZ [0, 1, 2, 3, 4, 5, 6] [] rfl rfl (by decide) 0 rfl rfl hl.1 rfl (Nat.le_of_ble_eq_true rfl) dX1_certainIfTold_2 (fun u H locs hq hP hD hS => ?_)
  obtain rfl := hq
  have hP : va_P (dC, dI) vwCl (gW cI h0 h1 h2 h3 h4 h5 h6 h1 h2 n wn t tc sc uw c1 c2 s ow hf tf) H := hP
  have hD : va_D (wIn (gW cI h0 h1 h2 h3 h4 h5 h6 h1 h2 n wn t tc sc uw c1 c2 s ow hf tf)) (gW cI h0 h1 h2 h3 h4 h5 h6 h1 h2 n wn t tc sc uw c1 c2 s ow hf tf) := hD
  refine lv_aload_n hx hb dX1_certainIfTold_5 rfl (lv_at hl 0 rfl) ?_
  refine va_get (D := (dC, dI)) (ci := 1) (v := .ref h2) (C := RX1) (T := TX1) (N := 10) hx hb hts inX1 hown hK hP 0 rfl rfl 1 (by decide) (hts _ q_fl_X1_16) (fun _ h9 => h9) rfl dX1_certainIfTold_6 ?_
  refine lv_aload_n hx hb dX1_certainIfTold_9 rfl (lv_at hl 0 rfl) ?_
  refine va_get (D := (dC, dI)) (ci := 1) (v := .ref h1) (C := RX1) (T := TX1) (N := 10) hx hb hts inX1 hown hK hP 0 rfl rfl 0 (by decide) (hts _ q_fl_X1_10) (fun _ h9 => h9) rfl dX1_certainIfTold_10 ?_
  refine call_Vv (As := [.ref h1]) (wr := [(h0, .inr (1, [.ref h1, .ref h2, .ref h3, .ref h4, .int (nI n), .int (nI wn), .int (nI t), .int (nI tc), .int (nI sc), .int (bI uw)])), (h3, .inl (cI, 5, .inl (fun k => nI (s k)))), (h4, .inl (cI, 1024, .inl (fun k => nI (ow k))))]) (rest := []) S (m_X0_copyFrom h2 h6 c2 tf h1 h5 c1 hf hc1) g_X1_X0_copyFrom hd_X0_copyFrom ⟨Nat.le_of_ble_eq_true rfl, Nat.le_of_ble_eq_true rfl⟩ ⟨Nat.zero_le _, Nat.zero_le _⟩ hP hD hK hS hZ [2, 6, 1, 5] [0, 3, 4] rfl rfl (by decide) 0 rfl rfl hl.1 rfl (Nat.le_of_ble_eq_true rfl) dX1_certainIfTold_13 (fun u H locs hq hP hD hS => ?_)
  obtain ⟨nf, rfl, hnf⟩ := hq
  have hP := hP.sub (ws' := gW cI h0 h1 h2 h3 h4 h5 h6 h1 h2 n wn t tc sc uw c1 c1 s ow hf nf) [0, 5, 3, 1, 2, 6, 4] rfl
  have hD := hD.sub (ws' := gW cI h0 h1 h2 h3 h4 h5 h6 h1 h2 n wn t tc sc uw c1 c1 s ow hf nf) [0, 5, 3, 1, 2, 6, 4] (by decide) rfl
  refine lv_aload_n hx hb dX1_certainIfTold_16 rfl (lv_at hl 0 rfl) ?_
  refine va_get (D := (dC, dI)) (ci := 1) (v := .ref h2) (C := RX1) (T := TX1) (N := 10) hx hb hts inX1 hown hK hP 0 rfl rfl 1 (by decide) (hts _ q_fl_X1_16) (fun _ h9 => h9) rfl dX1_certainIfTold_17 ?_
  refine lv_iload_n hx hb dX1_certainIfTold_20 rfl (lv_at hl 1 rfl) ?_
  refine lv_aload_n hx hb dX1_certainIfTold_21 rfl (lv_at hl 0 rfl) ?_
  refine va_get (D := (dC, dI)) (ci := 1) (v := .int (nI wn)) (C := RX1) (T := TX1) (N := 10) hx hb hts inX1 hown hK hP 0 rfl rfl 5 (by decide) (hts _ q_fl_X1_30) (fun _ h9 => h9) rfl dX1_certainIfTold_22 ?_
  refine lv_iload_n hx hb dX1_certainIfTold_25 rfl (lv_at hl 1 rfl) ?_
  refine call_Sp (As := [.int (nI wn), .int (nI j)]) (rest := [.int (nI j), .ref h2]) S (m_X1_colourIn wn j hw (by omega)) g_X1_X1_colourIn hd_X1_colourIn ⟨Nat.le_of_ble_eq_true rfl, Nat.le_of_ble_eq_true rfl⟩ ⟨Nat.zero_le _, Nat.zero_le _⟩ hP hD hK hS hZ [] rfl (by decide) hl.1 rfl (Nat.le_of_ble_eq_true rfl) dX1_certainIfTold_26 (fun r H locs hq hP hS => ?_)
  obtain rfl := hq
  refine call_Sv (As := [.ref h2, .int (nI j), .int (nI (qd wn j))]) (wr := [(h0, .inr (1, [.ref h1, .ref h2, .ref h3, .ref h4, .int (nI n), .int (nI wn), .int (nI t), .int (nI tc), .int (nI sc), .int (bI uw)])), (h1, .inr (0, [.ref h5, .int (nI c1)])), (h3, .inl (cI, 5, .inl (fun k => nI (s k)))), (h4, .inl (cI, 1024, .inl (fun k => nI (ow k)))), (h5, .inl (cI, 243, .inl (fun k => nI (hf k))))]) (rest := []) S (m_X1_keepWithHat h2 h6 c1 nf j (qd wn j) (by omega) (qd_lt _ _) hc1 (fun j hj => by rw [hnf j hj]; exact hb1 j hj)) g_X1_X1_keepWithHat hd_X1_keepWithHat ⟨Nat.le_of_ble_eq_true rfl, Nat.le_of_ble_eq_true rfl⟩ ⟨Nat.zero_le _, Nat.zero_le _⟩ hP hD hK hS hZ [2, 6] [0, 1, 3, 4, 5] rfl rfl (by decide) hl.1 rfl (Nat.le_of_ble_eq_true rfl) dX1_certainIfTold_29 (fun u H locs hq hP hD hS => ?_)
  obtain ⟨k7, g7, rfl, hL7⟩ := hq
  have hP := hP.sub (ws' := gW cI h0 h1 h2 h3 h4 h5 h6 h1 h2 n wn t tc sc uw c1 k7 s ow hf g7) [0, 1, 5, 2, 3, 4, 6] rfl
  have hD := hD.sub (ws' := gW cI h0 h1 h2 h3 h4 h5 h6 h1 h2 n wn t tc sc uw c1 k7 s ow hf g7) [0, 1, 5, 2, 3, 4, 6] (by decide) rfl
  refine lv_aload_n hx hb dX1_certainIfTold_32 rfl (lv_at hl 0 rfl) ?_
  refine lv_aload_n hx hb dX1_certainIfTold_33 rfl (lv_at hl 0 rfl) ?_
  refine va_get (D := (dC, dI)) (ci := 1) (v := .ref h2) (C := RX1) (T := TX1) (N := 10) hx hb hts inX1 hown hK hP 0 rfl rfl 1 (by decide) (hts _ q_fl_X1_16) (fun _ h9 => h9) rfl dX1_certainIfTold_34 ?_
  refine call_Vp (As := [.ref h2]) (rest := []) S (m_X1_countCertain h0 h2 h1 h3 h4 h6 h5 h1 h2 n wn t tc sc uw k7 c1 s ow g7 hf  hn hw (by have := Lof_le hL7; omega) (Lof_bd hL7 (fun j hj => by rw [hnf j hj]; exact hb1 j hj))) g_X1_X1_countCertain hd_X1_countCertain ⟨Nat.le_of_ble_eq_true rfl, Nat.le_of_ble_eq_true rfl⟩ ⟨Nat.zero_le _, Nat.zero_le _⟩ hP hD hK hS hZ [0, 2, 1, 3, 4, 6, 5] rfl (by decide) 0 rfl rfl hl.1 rfl (Nat.le_of_ble_eq_true rfl) dX1_certainIfTold_37 (fun r H locs hq hP hS => ?_)
  obtain rfl := hq
  exact ret _ (gW cI h0 h1 h2 h3 h4 h5 h6 h1 h2 n wn t tc sc uw c1 k7 s ow hf g7) _ _ _ _ dX1_certainIfTold_40 rfl ⟨by rw [hL7, Lof_congr hnf]; rfl, k7, g7, rfl⟩ (List.Perm.refl _) hP hS

set_option maxHeartbeats 4000000 in
set_option maxRecDepth 100000 in
theorem m_X1_meanPossible (h0 h1 h2 h3 h4 h5 h6 n wn t tc sc : Nat) (uw : Bool) (c1 c2 : Nat) (s ow hf tf : Nat → Nat)  (hn : n ≤ 5) (hw : wn < 1024) (hs : ∀ p, p < 5 → s p < 1024) (hc1 : c1 ≤ 243) (hb1 : ∀ j, j < c1 → hf j < 1024) : Md l yX1_meanPossible ws_X1_meanPossible 2 46 (dC, dI) (tyL cI cZ cS cW) [.ref h0] (gW cI h0 h1 h2 h3 h4 h5 h6 h1 h2 n wn t tc sc uw c1 c2 s ow hf tf) (fun r u => r = meanN n (sumP wn s (Lof hf c1) n) ∧ u = gW cI h0 h1 h2 h3 h4 h5 h6 h1 h2 n wn t tc sc uw c1 c2 s ow hf tf) := by
  refine Md_of (by decide +kernel) (Nat.le_of_ble_eq_true rfl) ?_
  intro pr ev sx mi ag bl me cd Q ls S hP hK hD hZ hl ret
  obtain ⟨hx, hb, hml, hown, hts⟩ := id S
  have hown : sx.vm.findClass RX1 = some mi.cls := hown
  have hS : va_S (wIn (gW cI h0 h1 h2 h3 h4 h5 h6 h1 h2 n wn t tc sc uw c1 c2 s ow hf tf)) sx.heap sx.heap [] := va_S.rf
  have hl : lv_has ls 3 [(0, .ref h0)] := hl
  refine lv_aload_n hx hb dX1_meanPossible_0 rfl (lv_at hl 0 rfl) ?_
  refine va_get (D := (dC, dI)) (ci := 1) (v := .int (nI n)) (C := RX1) (T := TX1) (N := 10) hx hb hts inX1 hown hK hP 0 rfl rfl 4 (by decide) (hts _ q_fl_X1_26) (fun _ h9 => h9) rfl dX1_meanPossible_1 ?_
  refine ifN_gt (tgt := 9) hx hb dX1_meanPossible_4 (by decide) (by omega) (fun c_4 => ?_) (fun c_4 => ?_)
  · refine lv_iconst (v := nI 0) hx hb dX1_meanPossible_9 (by decide) ?_
    refine lv_istore_n (lv' := [(1, .int (nI 0)), (0, .ref h0)]) hx hb dX1_meanPossible_10 rfl hl (by decide) rfl (fun ls hl => ?_)
    refine lv_iconst (v := nI 0) hx hb dX1_meanPossible_11 (by decide) ?_
    refine lv_istore_n (lv' := [(2, .int (nI 0)), (1, .int (nI 0)), (0, .ref h0)]) hx hb dX1_meanPossible_12 rfl hl (by decide) rfl (fun ls hl => ?_)
    have lp13 : ∀ (kf : Nat) (i : Nat) (a : Nat), n < i + kf → (i ≤ n) → (a = sumP wn s (Lof hf c1) i) → ∀ (H : Heap) (locs : List Loc), va_P (dC, dI) vwCl (gW cI h0 h1 h2 h3 h4 h5 h6 h1 h2 n wn t tc sc uw c1 c2 s ow hf tf) H → va_D (wIn (gW cI h0 h1 h2 h3 h4 h5 h6 h1 h2 n wn t tc sc uw c1 c2 s ow hf tf)) (gW cI h0 h1 h2 h3 h4 h5 h6 h1 h2 n wn t tc sc uw c1 c2 s ow hf tf) → va_S (wIn (gW cI h0 h1 h2 h3 h4 h5 h6 h1 h2 n wn t tc sc uw c1 c2 s ow hf tf)) sx.heap H locs → ∀ ls : Array Slot, lv_has ls 3 [(2, .int (nI i)), (1, .int (nI a)), (0, .ref h0)] → W pr l ev (rmB 2 46) sx mi ag bl me cd H locs 0 0 Q (F0 mi 13 ls []) := by
      intro kf
      induction kf with
      | zero => intro i a hkf hi ha; exact absurd hkf (by omega)
      | succ kf ih13 =>
        intro i a hkf hi ha H locs hP hD hS ls hl
        refine lv_iload_n hx hb dX1_meanPossible_13 rfl (lv_at hl 0 rfl) ?_
        refine lv_aload_n hx hb dX1_meanPossible_14 rfl (lv_at hl 2 rfl) ?_
        refine va_get (D := (dC, dI)) (ci := 1) (v := .int (nI n)) (C := RX1) (T := TX1) (N := 10) hx hb hts inX1 hown hK hP 0 rfl rfl 4 (by decide) (hts _ q_fl_X1_26) (fun _ h9 => h9) rfl dX1_meanPossible_15 ?_
        refine icN_ge (tgt := 35) hx hb dX1_meanPossible_18 (by decide) (by omega) (by omega) (fun c_18 => ?_) (fun c_18 => ?_)
        · refine lv_iload_n hx hb dX1_meanPossible_35 rfl (lv_at hl 1 rfl) ?_
          refine lv_i2d hx hb dX1_meanPossible_36 ?_
          refine lv_aload_n hx hb dX1_meanPossible_37 rfl (lv_at hl 2 rfl) ?_
          refine va_get (D := (dC, dI)) (ci := 1) (v := .int (nI n)) (C := RX1) (T := TX1) (N := 10) hx hb hts inX1 hown hK hP 0 rfl rfl 4 (by decide) (hts _ q_fl_X1_26) (fun _ h9 => h9) rfl dX1_meanPossible_38 ?_
          refine lv_i2d hx hb dX1_meanPossible_41 ?_
          refine lv_ddiv hx hb dX1_meanPossible_42 (ddiv_ok (by omega) hn (by have := sumP_le wn s hf c1 n; rw [ha, show i = n by omega]; exact Nat.le_trans this (Nat.mul_le_mul_left n hc1))) ?_
          exact ret _ (gW cI h0 h1 h2 h3 h4 h5 h6 h1 h2 n wn t tc sc uw c1 c2 s ow hf tf) _ _ _ _ dX1_meanPossible_43 ⟨by rw [meanN, if_neg (by omega), ha, show i = n by omega], rfl⟩ (List.Perm.refl _) hP hS
        · refine lv_iload_n hx hb dX1_meanPossible_21 rfl (lv_at hl 1 rfl) ?_
          refine lv_aload_n hx hb dX1_meanPossible_22 rfl (lv_at hl 2 rfl) ?_
          refine lv_iload_n hx hb dX1_meanPossible_23 rfl (lv_at hl 0 rfl) ?_
          refine call_Vp (As := [.int (nI i)]) (rest := [.int (nI a)]) S (m_X1_countPossible h0 h1 h2 h3 h4 h5 h6 h2 n wn t tc sc uw c1 c2 s ow hf tf i (by omega) hw hc1 hb1) g_X1_X1_countPossible hd_X1_countPossible ⟨Nat.le_of_ble_eq_true rfl, Nat.le_of_ble_eq_true rfl⟩ ⟨Nat.zero_le _, Nat.zero_le _⟩ hP hD hK hS hZ [0, 1, 2, 3, 4, 5, 6] rfl (by decide) 0 rfl rfl hl.1 rfl (Nat.le_of_ble_eq_true rfl) dX1_meanPossible_24 (fun r H locs hq hP hS => ?_)
          obtain rfl := hq
          refine lv_iadd hx hb dX1_meanPossible_27 ?_
          refine W_i (y := nI (a + ((Lof hf c1).countP (fun x => agr wn x (s i))))) (nI_add _ _) ?_
          refine lv_istore_n (lv' := [(1, .int (nI (a + ((Lof hf c1).countP (fun x => agr wn x (s i)))))), (2, .int (nI i)), (0, .ref h0)]) hx hb dX1_meanPossible_28 rfl hl (by decide) rfl (fun ls hl => ?_)
          refine lv_iinc (v := nI (i + 1)) (lv' := [(2, .int (nI (i + 1))), (1, .int (nI (a + ((Lof hf c1).countP (fun x => agr wn x (s i)))))), (0, .ref h0)]) hx hb dX1_meanPossible_29 hl (k := 1) rfl (nI_add _ _) (by decide) rfl (fun ls hl => ?_)
          refine lv_goto (tgt := 13) hx hb dX1_meanPossible_32 (by decide) ?_
          exact ih13 (i + 1) _ (by omega) (by omega) (by rw [ha]; rfl) _ _ hP hD hS _ (lv_sub hl [0, 1, 2] rfl)
    exact lp13 (n + 1) 0 0 (by omega) (by omega) rfl _ _ hP hD hS _ (lv_sub hl [0, 1, 2] rfl)
  · refine lv_dconst0 hx hb dX1_meanPossible_7 ?_
    exact ret _ (gW cI h0 h1 h2 h3 h4 h5 h6 h1 h2 n wn t tc sc uw c1 c2 s ow hf tf) _ _ _ _ dX1_meanPossible_8 ⟨by rw [meanN, if_pos c_4], rfl⟩ (List.Perm.refl _) hP hS

set_option maxHeartbeats 4000000 in
set_option maxRecDepth 100000 in
theorem m_X1_addPlayer (h0 h1 h2 h3 h4 h5 h6 n wn t tc sc : Nat) (uw : Bool) (c1 c2 : Nat) (s ow hf tf : Nat → Nat) (co : Nat) (hco : co < 3) (hn5 : n < 5) (hu : uw = false) (hc81 : c1 ≤ 81) (hn : n ≤ 5) (hw : wn < 1024) (hs : ∀ p, p < 5 → s p < 1024) (hc1 : c1 ≤ 243) (hb1 : ∀ j, j < c1 → hf j < 1024) : Mi l yX1_addPlayer ws_X1_addPlayer 3 63 (dC, dI) (tyL cI cZ cS cW) [.ref h0, .int (nI co)] (gW cI h0 h1 h2 h3 h4 h5 h6 h1 h2 n wn t tc sc uw c1 c2 s ow hf tf) (fun r u => r = nI n ∧ ∃ g : Nat → Nat, u = gW cI h0 h1 h2 h3 h4 h5 h6 h1 h2 (n + 1) (wn ||| co * 2 ^ (n * 2)) t tc sc uw (3 * c1) c2 (upN (lkS s n n) n (mskN n)) ow g tf ∧ Lof g (3 * c1) = ocL n (Lof hf c1) 2) := by
  refine Mi_of (by decide +kernel) (Nat.le_of_ble_eq_true rfl) ?_
  intro pr ev sx mi ag bl me cd Q ls S hP hK hD hZ hl ret
  obtain ⟨hx, hb, hml, hown, hts⟩ := id S
  have hown : sx.vm.findClass RX1 = some mi.cls := hown
  have hS : va_S (wIn (gW cI h0 h1 h2 h3 h4 h5 h6 h1 h2 n wn t tc sc uw c1 c2 s ow hf tf)) sx.heap sx.heap [] := va_S.rf
  have hl : lv_has ls 3 [(0, .ref h0), (1, .int (nI co))] := hl
  refine lv_iload_n hx hb dX1_addPlayer_0 rfl (lv_at hl 1 rfl) ?_
  refine call_Sv (As := [.int (nI co)]) (wr := [(h0, .inr (1, [.ref h1, .ref h2, .ref h3, .ref h4, .int (nI n), .int (nI wn), .int (nI t), .int (nI tc), .int (nI sc), .int (bI uw)])), (h1, .inr (0, [.ref h5, .int (nI c1)])), (h2, .inr (0, [.ref h6, .int (nI c2)])), (h3, .inl (cI, 5, .inl (fun k => nI (s k)))), (h4, .inl (cI, 1024, .inl (fun k => nI (ow k)))), (h5, .inl (cI, 243, .inl (fun k => nI (hf k)))), (h6, .inl (cI, 243, .inl (fun k => nI (tf k))))]) (rest := []) S (m_X1_requireColour co (by omega)) g_X1_X1_requireColour hd_X1_requireColour ⟨Nat.le_of_ble_eq_true rfl, Nat.le_of_ble_eq_true rfl⟩ ⟨Nat.zero_le _, Nat.zero_le _⟩ hP hD hK hS hZ [] [0, 1, 2, 3, 4, 5, 6] rfl rfl (by decide) hl.1 rfl (Nat.le_of_ble_eq_true rfl) dX1_addPlayer_1 (fun u H locs hq hP hD hS => ?_)
  obtain rfl := hq
  have hP : va_P (dC, dI) vwCl (gW cI h0 h1 h2 h3 h4 h5 h6 h1 h2 n wn t tc sc uw c1 c2 s ow hf tf) H := hP
  have hD : va_D (wIn (gW cI h0 h1 h2 h3 h4 h5 h6 h1 h2 n wn t tc sc uw c1 c2 s ow hf tf)) (gW cI h0 h1 h2 h3 h4 h5 h6 h1 h2 n wn t tc sc uw c1 c2 s ow hf tf) := hD
  refine lv_aload_n hx hb dX1_addPlayer_4 rfl (lv_at hl 0 rfl) ?_
  refine va_get (D := (dC, dI)) (ci := 1) (v := .int (nI n)) (C := RX1) (T := TX1) (N := 10) hx hb hts inX1 hown hK hP 0 rfl rfl 4 (by decide) (hts _ q_fl_X1_26) (fun _ h9 => h9) rfl dX1_addPlayer_5 ?_
  refine lv_iconst (v := nI 5) hx hb dX1_addPlayer_8 (by decide) ?_
  refine icN_ge (tgt := 19) hx hb dX1_addPlayer_9 (by decide) (by omega) (by omega) (fun c_9 => absurd c_9 (by omega)) (fun c_9 => ?_)
  refine lv_aload_n hx hb dX1_addPlayer_12 rfl (lv_at hl 0 rfl) ?_
  refine va_get (D := (dC, dI)) (ci := 1) (v := .int (bI uw)) (C := RX1) (T := TX1) (N := 10) hx hb hts inX1 hown hK hP 0 rfl rfl 9 (by decide) (hts _ q_fl_X1_42) (fun _ h9 => h9) rfl dX1_addPlayer_13 ?_
  refine ifB_eq (tgt := 29) hx hb dX1_addPlayer_16 (by decide) (fun c_16 => ?_) (fun c_16 => absurd c_16 (by rw [hu]; decide))
  refine lv_aload_n hx hb dX1_addPlayer_29 rfl (lv_at hl 0 rfl) ?_
  refine va_get (D := (dC, dI)) (ci := 1) (v := .int (nI n)) (C := RX1) (T := TX1) (N := 10) hx hb hts inX1 hown hK hP 0 rfl rfl 4 (by decide) (hts _ q_fl_X1_26) (fun _ h9 => h9) rfl dX1_addPlayer_30 ?_
  refine lv_istore_n (lv' := [(2, .int (nI n)), (0, .ref h0), (1, .int (nI co))]) hx hb dX1_addPlayer_33 rfl hl (by decide) rfl (fun ls hl => ?_)
  refine lv_aload_n hx hb dX1_addPlayer_34 rfl (lv_at hl 1 rfl) ?_
  refine lv_dup hx hb dX1_addPlayer_35 rfl ?_
  refine va_get (D := (dC, dI)) (ci := 1) (v := .int (nI n)) (C := RX1) (T := TX1) (N := 10) hx hb hts inX1 hown hK hP 0 rfl rfl 4 (by decide) (hts _ q_fl_X1_26) (fun _ h9 => h9) rfl dX1_addPlayer_36 ?_
  refine lv_iconst (v := nI 1) hx hb dX1_addPlayer_39 (by decide) ?_
  refine lv_iadd hx hb dX1_addPlayer_40 ?_
  refine W_i (y := nI (n + 1)) (nI_add _ _) ?_
  refine va_put (D := (dC, dI)) (ci := 1) (v := .int (nI (n + 1))) (ty := .int) (C := RX1) (T := TX1) (N := 10) hx hb hts inX1 tyX1 tyX1_ok nmX1 hown hK hP hD hS 0 rfl rfl 4 (by decide) (hts _ q_fl_X1_26) (fun _ h9 => h9) rfl (by decide +kernel) rfl rfl (Nat.le_of_ble_eq_true rfl) dX1_addPlayer_41 (fun H locs hP hD hS => ?_)
  have hP : va_P (dC, dI) vwCl (gW cI h0 h1 h2 h3 h4 h5 h6 h1 h2 (n + 1) wn t tc sc uw c1 c2 s ow hf tf) H := hP
  have hD : va_D (wIn (gW cI h0 h1 h2 h3 h4 h5 h6 h1 h2 n wn t tc sc uw c1 c2 s ow hf tf)) (gW cI h0 h1 h2 h3 h4 h5 h6 h1 h2 (n + 1) wn t tc sc uw c1 c2 s ow hf tf) := hD
  refine lv_aload_n hx hb dX1_addPlayer_44 rfl (lv_at hl 1 rfl) ?_
  refine lv_aload_n hx hb dX1_addPlayer_45 rfl (lv_at hl 1 rfl) ?_
  refine va_get (D := (dC, dI)) (ci := 1) (v := .int (nI wn)) (C := RX1) (T := TX1) (N := 10) hx hb hts inX1 hown hK hP 0 rfl rfl 5 (by decide) (hts _ q_fl_X1_30) (fun _ h9 => h9) rfl dX1_addPlayer_46 ?_
  refine lv_iload_n hx hb dX1_addPlayer_49 rfl (lv_at hl 2 rfl) ?_
  refine lv_iload_n hx hb dX1_addPlayer_50 rfl (lv_at hl 0 rfl) ?_
  refine call_Sp (As := [.int (nI n)]) (rest := [.int (nI co), .int (nI wn), .ref h0]) S (m_X1_shiftOf n ) g_X1_X1_shiftOf hd_X1_shiftOf ⟨Nat.le_of_ble_eq_true rfl, Nat.le_of_ble_eq_true rfl⟩ ⟨Nat.zero_le _, Nat.zero_le _⟩ hP hD hK hS hZ [] rfl (by decide) hl.1 rfl (Nat.le_of_ble_eq_true rfl) dX1_addPlayer_51 (fun r H locs hq hP hS => ?_)
  obtain rfl := hq
  refine lv_ishl hx hb dX1_addPlayer_54 ?_
  refine W_i (y := nI (co * 2 ^ (n * 2))) (nI_shl _ (by omega)) ?_
  refine lv_ior hx hb dX1_addPlayer_55 ?_
  refine W_i (y := nI (wn ||| (co * 2 ^ (n * 2)))) (nI_or _ _) ?_
  refine va_put (D := (dC, dI)) (ci := 1) (v := .int (nI (wn ||| (co * 2 ^ (n * 2))))) (ty := .int) (C := RX1) (T := TX1) (N := 10) hx hb hts inX1 tyX1 tyX1_ok nmX1 hown hK hP hD hS 0 rfl rfl 5 (by decide) (hts _ q_fl_X1_30) (fun _ h9 => h9) rfl (by decide +kernel) rfl rfl (Nat.le_of_ble_eq_true rfl) dX1_addPlayer_56 (fun H locs hP hD hS => ?_)
  have hP : va_P (dC, dI) vwCl (gW cI h0 h1 h2 h3 h4 h5 h6 h1 h2 (n + 1) (wn ||| (co * 2 ^ (n * 2))) t tc sc uw c1 c2 s ow hf tf) H := hP
  have hD : va_D (wIn (gW cI h0 h1 h2 h3 h4 h5 h6 h1 h2 n wn t tc sc uw c1 c2 s ow hf tf)) (gW cI h0 h1 h2 h3 h4 h5 h6 h1 h2 (n + 1) (wn ||| (co * 2 ^ (n * 2))) t tc sc uw c1 c2 s ow hf tf) := hD
  refine lv_aload_n hx hb dX1_addPlayer_59 rfl (lv_at hl 1 rfl) ?_
  refine lv_iload_n hx hb dX1_addPlayer_60 rfl (lv_at hl 0 rfl) ?_
  refine call_Vv (As := [.int (nI n)]) (wr := []) (rest := []) S (m_X1_lookAtEachOther h0 h1 h2 h3 h4 h5 h6 h1 h2 (n + 1) (wn ||| (co * 2 ^ (n * 2))) t tc sc uw c1 c2 s ow hf tf n (by omega)) g_X1_X1_lookAtEachOther hd_X1_lookAtEachOther ⟨Nat.le_of_ble_eq_true rfl, Nat.le_of_ble_eq_true rfl⟩ ⟨Nat.zero_le _, Nat.zero_le _⟩ hP hD hK hS hZ [0, 1, 2, 3, 4, 5, 6] [] rfl rfl (by decide) 0 rfl rfl hl.1 rfl (Nat.le_of_ble_eq_true rfl) dX1_addPlayer_61 (fun u H locs hq hP hD hS => ?_)
  obtain rfl := hq
  have hP : va_P (dC, dI) vwCl (gW cI h0 h1 h2 h3 h4 h5 h6 h1 h2 (n + 1) (wn ||| (co * 2 ^ (n * 2))) t tc sc uw c1 c2 (upN (lkS s n n) n (mskN n)) ow hf tf) H := hP
  have hD : va_D (wIn (gW cI h0 h1 h2 h3 h4 h5 h6 h1 h2 n wn t tc sc uw c1 c2 s ow hf tf)) (gW cI h0 h1 h2 h3 h4 h5 h6 h1 h2 (n + 1) (wn ||| (co * 2 ^ (n * 2))) t tc sc uw c1 c2 (upN (lkS s n n) n (mskN n)) ow hf tf) := hD
  refine lv_aload_n hx hb dX1_addPlayer_64 rfl (lv_at hl 1 rfl) ?_
  refine lv_iload_n hx hb dX1_addPlayer_65 rfl (lv_at hl 0 rfl) ?_
  refine call_Vv (As := [.int (nI n)]) (wr := []) (rest := []) S (m_X1_openColoursOf h0 h1 h2 h3 h4 h5 h6 h2 (n + 1) (wn ||| (co * 2 ^ (n * 2))) t tc sc uw c1 c2 (upN (lkS s n n) n (mskN n)) ow hf tf n (by omega) (by omega)) g_X1_X1_openColoursOf hd_X1_openColoursOf ⟨Nat.le_of_ble_eq_true rfl, Nat.le_of_ble_eq_true rfl⟩ ⟨Nat.zero_le _, Nat.zero_le _⟩ hP hD hK hS hZ [0, 1, 2, 3, 4, 5, 6] [] rfl rfl (by decide) 0 rfl rfl hl.1 rfl (Nat.le_of_ble_eq_true rfl) dX1_addPlayer_66 (fun u H locs hq hP hD hS => ?_)
  obtain ⟨g4, rfl, hL4⟩ := hq
  have hP : va_P (dC, dI) vwCl (gW cI h0 h1 h2 h3 h4 h5 h6 h1 h2 (n + 1) (wn ||| (co * 2 ^ (n * 2))) t tc sc uw (3 * c1) c2 (upN (lkS s n n) n (mskN n)) ow g4 tf) H := hP
  have hD : va_D (wIn (gW cI h0 h1 h2 h3 h4 h5 h6 h1 h2 n wn t tc sc uw c1 c2 s ow hf tf)) (gW cI h0 h1 h2 h3 h4 h5 h6 h1 h2 (n + 1) (wn ||| (co * 2 ^ (n * 2))) t tc sc uw (3 * c1) c2 (upN (lkS s n n) n (mskN n)) ow g4 tf) := hD
  refine lv_iload_n hx hb dX1_addPlayer_69 rfl (lv_at hl 0 rfl) ?_
  exact ret _ (gW cI h0 h1 h2 h3 h4 h5 h6 h1 h2 (n + 1) (wn ||| (co * 2 ^ (n * 2))) t tc sc uw (3 * c1) c2 (upN (lkS s n n) n (mskN n)) ow g4 tf) _ _ _ _ dX1_addPlayer_70 rfl ⟨rfl, g4, rfl, hL4⟩ (List.Perm.refl _) hP hS

set_option maxHeartbeats 4000000 in
set_option maxRecDepth 100000 in
theorem m_X1_turnAway (h0 h1 h2 h3 h4 h5 h6 n wn t tc sc : Nat) (uw : Bool) (c1 c2 : Nat) (s ow hf tf : Nat → Nat) (j k : Nat) (hj : j < n) (hk : k < n) (hjk : j ≠ k) (hn : n ≤ 5) (hw : wn < 1024) (hs : ∀ p, p < 5 → s p < 1024) (hc1 : c1 ≤ 243) (hb1 : ∀ j, j < c1 → hf j < 1024) : Mi l yX1_turnAway ws_X1_turnAway 3 62 (dC, dI) (tyL cI cZ cS cW) [.ref h0, .int (nI j), .int (nI k)] (gW cI h0 h1 h2 h3 h4 h5 h6 h1 h2 n wn t tc sc uw c1 c2 s ow hf tf) (fun r u => r = bI (seeN (upN s j (s j ^^^ 3 * 2 ^ (k * 2))) j k) ∧ u = gW cI h0 h1 h2 h3 h4 h5 h6 h1 h2 n wn t tc sc uw c1 c2 (upN s j (s j ^^^ 3 * 2 ^ (k * 2))) ow hf tf) := by
  refine Mi_of (by decide +kernel) (Nat.le_of_ble_eq_true rfl) ?_
  intro pr ev sx mi ag bl me cd Q ls S hP hK hD hZ hl ret
  obtain ⟨hx, hb, hml, hown, hts⟩ := id S
  have hown : sx.vm.findClass RX1 = some mi.cls := hown
  have hS : va_S (wIn (gW cI h0 h1 h2 h3 h4 h5 h6 h1 h2 n wn t tc sc uw c1 c2 s ow hf tf)) sx.heap sx.heap [] := va_S.rf
  have hl : lv_has ls 3 [(0, .ref h0), (1, .int (nI j)), (2, .int (nI k))] := hl
  refine lv_aload_n hx hb dX1_turnAway_0 rfl (lv_at hl 0 rfl) ?_
  refine lv_iload_n hx hb dX1_turnAway_1 rfl (lv_at hl 1 rfl) ?_
  refine lv_iload_n hx hb dX1_turnAway_2 rfl (lv_at hl 2 rfl) ?_
  refine call_Vv (As := [.int (nI j), .int (nI k)]) (wr := []) (rest := []) S (m_X1_requireTwoPlayers h0 h1 h2 h3 h4 h5 h6 h1 h2 n wn t tc sc uw c1 c2 s ow hf tf j k (by omega) (by omega) hn hjk) g_X1_X1_requireTwoPlayers hd_X1_requireTwoPlayers ⟨Nat.le_of_ble_eq_true rfl, Nat.le_of_ble_eq_true rfl⟩ ⟨Nat.zero_le _, Nat.zero_le _⟩ hP hD hK hS hZ [0, 1, 2, 3, 4, 5, 6] [] rfl rfl (by decide) 0 rfl rfl hl.1 rfl (Nat.le_of_ble_eq_true rfl) dX1_turnAway_3 (fun u H locs hq hP hD hS => ?_)
  obtain rfl := hq
  have hP : va_P (dC, dI) vwCl (gW cI h0 h1 h2 h3 h4 h5 h6 h1 h2 n wn t tc sc uw c1 c2 s ow hf tf) H := hP
  have hD : va_D (wIn (gW cI h0 h1 h2 h3 h4 h5 h6 h1 h2 n wn t tc sc uw c1 c2 s ow hf tf)) (gW cI h0 h1 h2 h3 h4 h5 h6 h1 h2 n wn t tc sc uw c1 c2 s ow hf tf) := hD
  refine lv_aload_n hx hb dX1_turnAway_6 rfl (lv_at hl 0 rfl) ?_
  refine lv_iload_n hx hb dX1_turnAway_7 rfl (lv_at hl 1 rfl) ?_
  refine lv_aload_n hx hb dX1_turnAway_8 rfl (lv_at hl 0 rfl) ?_
  refine lv_iload_n hx hb dX1_turnAway_9 rfl (lv_at hl 1 rfl) ?_
  refine call_Vp (As := [.int (nI j)]) (rest := [.int (nI j), .ref h0]) S (m_X1_seenHatsOf h0 h1 h2 h3 h4 h5 h6 h1 h2 n wn t tc sc uw c1 c2 s ow hf tf j (by omega)) g_X1_X1_seenHatsOf hd_X1_seenHatsOf ⟨Nat.le_of_ble_eq_true rfl, Nat.le_of_ble_eq_true rfl⟩ ⟨Nat.zero_le _, Nat.zero_le _⟩ hP hD hK hS hZ [0, 1, 2, 3, 4, 5, 6] rfl (by decide) 0 rfl rfl hl.1 rfl (Nat.le_of_ble_eq_true rfl) dX1_turnAway_10 (fun r H locs hq hP hS => ?_)
  obtain rfl := hq
  refine lv_iload_n hx hb dX1_turnAway_13 rfl (lv_at hl 2 rfl) ?_
  refine call_Sp (As := [.int (nI k)]) (rest := [.int (nI (s j)), .int (nI j), .ref h0]) S (m_X1_hatMask k (by omega)) g_X1_X1_hatMask hd_X1_hatMask ⟨Nat.le_of_ble_eq_true rfl, Nat.le_of_ble_eq_true rfl⟩ ⟨Nat.zero_le _, Nat.zero_le _⟩ hP hD hK hS hZ [] rfl (by decide) hl.1 rfl (Nat.le_of_ble_eq_true rfl) dX1_turnAway_14 (fun r H locs hq hP hS => ?_)
  obtain rfl := hq
  refine lv_ixor hx hb dX1_turnAway_17 ?_
  refine W_i (y := nI ((s j) ^^^ (3 * 2 ^ (k * 2)))) (nI_xor _ _) ?_
  refine call_Vv (As := [.int (nI j), .int (nI ((s j) ^^^ (3 * 2 ^ (k * 2))))]) (wr := []) (rest := []) S (m_X1_setSeenHatsOf h0 h1 h2 h3 h4 h5 h6 h1 h2 n wn t tc sc uw c1 c2 s ow hf tf j ((s j) ^^^ (3 * 2 ^ (k * 2))) (by omega)) g_X1_X1_setSeenHatsOf hd_X1_setSeenHatsOf ⟨Nat.le_of_ble_eq_true rfl, Nat.le_of_ble_eq_true rfl⟩ ⟨Nat.zero_le _, Nat.zero_le _⟩ hP hD hK hS hZ [0, 1, 2, 3, 4, 5, 6] [] rfl rfl (by decide) 0 rfl rfl hl.1 rfl (Nat.le_of_ble_eq_true rfl) dX1_turnAway_18 (fun u H locs hq hP hD hS => ?_)
  obtain rfl := hq
  have hP : va_P (dC, dI) vwCl (gW cI h0 h1 h2 h3 h4 h5 h6 h1 h2 n wn t tc sc uw c1 c2 (upN s j ((s j) ^^^ (3 * 2 ^ (k * 2)))) ow hf tf) H := hP
  have hD : va_D (wIn (gW cI h0 h1 h2 h3 h4 h5 h6 h1 h2 n wn t tc sc uw c1 c2 s ow hf tf)) (gW cI h0 h1 h2 h3 h4 h5 h6 h1 h2 n wn t tc sc uw c1 c2 (upN s j ((s j) ^^^ (3 * 2 ^ (k * 2)))) ow hf tf) := hD
  refine lv_aload_n hx hb dX1_turnAway_21 rfl (lv_at hl 0 rfl) ?_
  refine lv_iload_n hx hb dX1_turnAway_22 rfl (lv_at hl 1 rfl) ?_
  refine lv_iload_n hx hb dX1_turnAway_23 rfl (lv_at hl 2 rfl) ?_
  refine call_Vp (As := [.int (nI j), .int (nI k)]) (rest := []) S (m_X1_seesHat h0 h1 h2 h3 h4 h5 h6 h1 h2 n wn t tc sc uw c1 c2 (upN s j ((s j) ^^^ (3 * 2 ^ (k * 2)))) ow hf tf j k (by omega) (by omega) (fun p hp => by by_cases hpj : p = j; (· subst hpj; rw [upN_s]; exact xor_k (hs p hp) (msk_lt (by omega))); (· rw [upN_n _ _ hpj]; exact hs p hp))) g_X1_X1_seesHat hd_X1_seesHat ⟨Nat.le_of_ble_eq_true rfl, Nat.le_of_ble_eq_true rfl⟩ ⟨Nat.zero_le _, Nat.zero_le _⟩ hP hD hK hS hZ [0, 1, 2, 3, 4, 5, 6] rfl (by decide) 0 rfl rfl hl.1 rfl (Nat.le_of_ble_eq_true rfl) dX1_turnAway_24 (fun r H locs hq hP hS => ?_)
  obtain rfl := hq
  exact ret _ (gW cI h0 h1 h2 h3 h4 h5 h6 h1 h2 n wn t tc sc uw c1 c2 (upN s j ((s j) ^^^ (3 * 2 ^ (k * 2)))) ow hf tf) _ _ _ _ dX1_turnAway_27 (bI_nar _) ⟨rfl, rfl⟩ (List.Perm.refl _) hP hS

set_option maxHeartbeats 4000000 in
set_option maxRecDepth 100000 in
theorem m_X1_borrow (h0 h1 h2 h3 h4 h5 h6 n wn t tc sc : Nat) (uw : Bool) (c1 c2 : Nat) (s ow hf tf : Nat → Nat) (j k : Nat) (hj : j < n) (hk : k < n) (hjk : j ≠ k) (hn : n ≤ 5) (hw : wn < 1024) (hs : ∀ p, p < 5 → s p < 1024) (hc1 : c1 ≤ 243) (hb1 : ∀ j, j < c1 → hf j < 1024) : Mi l yX1_borrow ws_X1_borrow 2 44 (dC, dI) (tyL cI cZ cS cW) [.ref h0, .int (nI j), .int (nI k)] (gW cI h0 h1 h2 h3 h4 h5 h6 h1 h2 n wn t tc sc uw c1 c2 s ow hf tf) (fun r u => r = nI (qd (xch wn j k) j) ∧ ∃ g : Nat → Nat, u = gW cI h0 h1 h2 h3 h4 h5 h6 h1 h2 n (xch wn j k) t tc sc true c1 c2 s ow g tf ∧ Lof g c1 = (Lof hf c1).map (fun x => xch x j k)) := by
  refine Mi_of (by decide +kernel) (Nat.le_of_ble_eq_true rfl) ?_
  intro pr ev sx mi ag bl me cd Q ls S hP hK hD hZ hl ret
  obtain ⟨hx, hb, hml, hown, hts⟩ := id S
  have hown : sx.vm.findClass RX1 = some mi.cls := hown
  have hS : va_S (wIn (gW cI h0 h1 h2 h3 h4 h5 h6 h1 h2 n wn t tc sc uw c1 c2 s ow hf tf)) sx.heap sx.heap [] := va_S.rf
  have hl : lv_has ls 4 [(0, .ref h0), (1, .int (nI j)), (2, .int (nI k))] := hl
  refine lv_aload_n hx hb dX1_borrow_0 rfl (lv_at hl 0 rfl) ?_
  refine lv_iload_n hx hb dX1_borrow_1 rfl (lv_at hl 1 rfl) ?_
  refine lv_iload_n hx hb dX1_borrow_2 rfl (lv_at hl 2 rfl) ?_
  refine call_Vv (As := [.int (nI j), .int (nI k)]) (wr := []) (rest := []) S (m_X1_requireTwoPlayers h0 h1 h2 h3 h4 h5 h6 h1 h2 n wn t tc sc uw c1 c2 s ow hf tf j k (by omega) (by omega) hn hjk) g_X1_X1_requireTwoPlayers hd_X1_requireTwoPlayers ⟨Nat.le_of_ble_eq_true rfl, Nat.le_of_ble_eq_true rfl⟩ ⟨Nat.zero_le _, Nat.zero_le _⟩ hP hD hK hS hZ [0, 1, 2, 3, 4, 5, 6] [] rfl rfl (by decide) 0 rfl rfl hl.1 rfl (Nat.le_of_ble_eq_true rfl) dX1_borrow_3 (fun u H locs hq hP hD hS => ?_)
  obtain rfl := hq
  have hP : va_P (dC, dI) vwCl (gW cI h0 h1 h2 h3 h4 h5 h6 h1 h2 n wn t tc sc uw c1 c2 s ow hf tf) H := hP
  have hD : va_D (wIn (gW cI h0 h1 h2 h3 h4 h5 h6 h1 h2 n wn t tc sc uw c1 c2 s ow hf tf)) (gW cI h0 h1 h2 h3 h4 h5 h6 h1 h2 n wn t tc sc uw c1 c2 s ow hf tf) := hD
  refine lv_aload_n hx hb dX1_borrow_6 rfl (lv_at hl 0 rfl) ?_
  refine lv_iconst (v := nI 1) hx hb dX1_borrow_7 (by decide) ?_
  refine W_i (y := bI true) rfl ?_
  refine va_put (D := (dC, dI)) (ci := 1) (v := .int (bI true)) (ty := .boolean) (C := RX1) (T := TX1) (N := 10) hx hb hts inX1 tyX1 tyX1_ok nmX1 hown hK hP hD hS 0 rfl rfl 9 (by decide) (hts _ q_fl_X1_42) (fun _ h9 => h9) rfl (by decide +kernel) rfl rfl (Nat.le_of_ble_eq_true rfl) dX1_borrow_8 (fun H locs hP hD hS => ?_)
  have hP : va_P (dC, dI) vwCl (gW cI h0 h1 h2 h3 h4 h5 h6 h1 h2 n wn t tc sc true c1 c2 s ow hf tf) H := hP
  have hD : va_D (wIn (gW cI h0 h1 h2 h3 h4 h5 h6 h1 h2 n wn t tc sc uw c1 c2 s ow hf tf)) (gW cI h0 h1 h2 h3 h4 h5 h6 h1 h2 n wn t tc sc true c1 c2 s ow hf tf) := hD
  refine lv_aload_n hx hb dX1_borrow_11 rfl (lv_at hl 0 rfl) ?_
  refine lv_aload_n hx hb dX1_borrow_12 rfl (lv_at hl 0 rfl) ?_
  refine va_get (D := (dC, dI)) (ci := 1) (v := .int (nI wn)) (C := RX1) (T := TX1) (N := 10) hx hb hts inX1 hown hK hP 0 rfl rfl 5 (by decide) (hts _ q_fl_X1_30) (fun _ h9 => h9) rfl dX1_borrow_13 ?_
  refine lv_iload_n hx hb dX1_borrow_16 rfl (lv_at hl 1 rfl) ?_
  refine lv_iload_n hx hb dX1_borrow_17 rfl (lv_at hl 2 rfl) ?_
  refine call_Sp (As := [.int (nI wn), .int (nI j), .int (nI k)]) (rest := [.ref h0]) S (m_X1_exchanged wn j k hw (by omega) (by omega)) g_X1_X1_exchanged hd_X1_exchanged ⟨Nat.le_of_ble_eq_true rfl, Nat.le_of_ble_eq_true rfl⟩ ⟨Nat.zero_le _, Nat.zero_le _⟩ hP hD hK hS hZ [] rfl (by decide) hl.1 rfl (Nat.le_of_ble_eq_true rfl) dX1_borrow_18 (fun r H locs hq hP hS => ?_)
  obtain rfl := hq
  refine va_put (D := (dC, dI)) (ci := 1) (v := .int (nI (xch wn j k))) (ty := .int) (C := RX1) (T := TX1) (N := 10) hx hb hts inX1 tyX1 tyX1_ok nmX1 hown hK hP hD hS 0 rfl rfl 5 (by decide) (hts _ q_fl_X1_30) (fun _ h9 => h9) rfl (by decide +kernel) rfl rfl (Nat.le_of_ble_eq_true rfl) dX1_borrow_21 (fun H locs hP hD hS => ?_)
  have hP : va_P (dC, dI) vwCl (gW cI h0 h1 h2 h3 h4 h5 h6 h1 h2 n (xch wn j k) t tc sc true c1 c2 s ow hf tf) H := hP
  have hD : va_D (wIn (gW cI h0 h1 h2 h3 h4 h5 h6 h1 h2 n wn t tc sc uw c1 c2 s ow hf tf)) (gW cI h0 h1 h2 h3 h4 h5 h6 h1 h2 n (xch wn j k) t tc sc true c1 c2 s ow hf tf) := hD
  refine lv_iconst (v := nI 0) hx hb dX1_borrow_24 (by decide) ?_
  refine lv_istore_n (lv' := [(3, .int (nI 0)), (0, .ref h0), (1, .int (nI j)), (2, .int (nI k))]) hx hb dX1_borrow_25 rfl hl (by decide) rfl (fun ls hl => ?_)
  have lp26 : ∀ (kf : Nat) (i : Nat) (g : Nat → Nat), c1 < i + kf → (i ≤ c1) → (∀ q, q < i → g q = xch (hf q) j k) → (∀ q, i ≤ q → g q = hf q) → ∀ (H : Heap) (locs : List Loc), va_P (dC, dI) vwCl (gW cI h0 h1 h2 h3 h4 h5 h6 h1 h2 n (xch wn j k) t tc sc true c1 c2 s ow g tf) H → va_D (wIn (gW cI h0 h1 h2 h3 h4 h5 h6 h1 h2 n wn t tc sc uw c1 c2 s ow hf tf)) (gW cI h0 h1 h2 h3 h4 h5 h6 h1 h2 n (xch wn j k) t tc sc true c1 c2 s ow g tf) → va_S (wIn (gW cI h0 h1 h2 h3 h4 h5 h6 h1 h2 n wn t tc sc uw c1 c2 s ow hf tf)) sx.heap H locs → ∀ ls : Array Slot, lv_has ls 4 [(3, .int (nI i)), (0, .ref h0), (1, .int (nI j)), (2, .int (nI k))] → W pr l ev (rmB 2 44) sx mi ag bl me cd H locs 0 0 Q (F0 mi 26 ls []) := by
    intro kf
    induction kf with
    | zero => intro i g hkf hi hg1 hg2; exact absurd hkf (by omega)
    | succ kf ih26 =>
      intro i g hkf hi hg1 hg2 H locs hP hD hS ls hl
      refine lv_iload_n hx hb dX1_borrow_26 rfl (lv_at hl 0 rfl) ?_
      refine lv_aload_n hx hb dX1_borrow_27 rfl (lv_at hl 1 rfl) ?_
      refine va_get (D := (dC, dI)) (ci := 1) (v := .ref h1) (C := RX1) (T := TX1) (N := 10) hx hb hts inX1 hown hK hP 0 rfl rfl 0 (by decide) (hts _ q_fl_X1_10) (fun _ h9 => h9) rfl dX1_borrow_28 ?_
      refine call_Vp (As := []) (rest := [.int (nI i)]) S (m_X0_count h1 h5 c1 g) g_X1_X0_count hd_X0_count ⟨Nat.le_of_ble_eq_true rfl, Nat.le_of_ble_eq_true rfl⟩ ⟨Nat.zero_le _, Nat.zero_le _⟩ hP hD hK hS hZ [1, 5] rfl (by decide) 0 rfl rfl hl.1 rfl (Nat.le_of_ble_eq_true rfl) dX1_borrow_31 (fun r H locs hq hP hS => ?_)
      obtain rfl := hq
      refine icN_ge (tgt := 64) hx hb dX1_borrow_34 (by decide) (by omega) (by omega) (fun c_34 => ?_) (fun c_34 => ?_)
      · refine lv_aload_n hx hb dX1_borrow_64 rfl (lv_at hl 1 rfl) ?_
        refine va_get (D := (dC, dI)) (ci := 1) (v := .int (nI (xch wn j k))) (C := RX1) (T := TX1) (N := 10) hx hb hts inX1 hown hK hP 0 rfl rfl 5 (by decide) (hts _ q_fl_X1_30) (fun _ h9 => h9) rfl dX1_borrow_65 ?_
        refine lv_iload_n hx hb dX1_borrow_68 rfl (lv_at hl 2 rfl) ?_
        refine call_Sp (As := [.int (nI (xch wn j k)), .int (nI j)]) (rest := []) S (m_X1_colourIn (xch wn j k) j (xch_lt hw (by omega) (by omega)) (by omega)) g_X1_X1_colourIn hd_X1_colourIn ⟨Nat.le_of_ble_eq_true rfl, Nat.le_of_ble_eq_true rfl⟩ ⟨Nat.zero_le _, Nat.zero_le _⟩ hP hD hK hS hZ [] rfl (by decide) hl.1 rfl (Nat.le_of_ble_eq_true rfl) dX1_borrow_69 (fun r H locs hq hP hS => ?_)
        obtain rfl := hq
        exact ret _ (gW cI h0 h1 h2 h3 h4 h5 h6 h1 h2 n (xch wn j k) t tc sc true c1 c2 s ow g tf) _ _ _ _ dX1_borrow_72 rfl ⟨rfl, g, rfl, by rw [Lof, Lof, List.map_map]; exact List.map_congr_left (fun q hq => hg1 q (by have := List.mem_range.mp hq; omega))⟩ (List.Perm.refl _) hP hS
      · refine lv_aload_n hx hb dX1_borrow_37 rfl (lv_at hl 1 rfl) ?_
        refine va_get (D := (dC, dI)) (ci := 1) (v := .ref h1) (C := RX1) (T := TX1) (N := 10) hx hb hts inX1 hown hK hP 0 rfl rfl 0 (by decide) (hts _ q_fl_X1_10) (fun _ h9 => h9) rfl dX1_borrow_38 ?_
        refine lv_iload_n hx hb dX1_borrow_41 rfl (lv_at hl 0 rfl) ?_
        refine lv_aload_n hx hb dX1_borrow_42 rfl (lv_at hl 1 rfl) ?_
        refine va_get (D := (dC, dI)) (ci := 1) (v := .ref h1) (C := RX1) (T := TX1) (N := 10) hx hb hts inX1 hown hK hP 0 rfl rfl 0 (by decide) (hts _ q_fl_X1_10) (fun _ h9 => h9) rfl dX1_borrow_43 ?_
        refine lv_iload_n hx hb dX1_borrow_46 rfl (lv_at hl 0 rfl) ?_
        refine call_Vp (As := [.int (nI i)]) (rest := [.int (nI i), .ref h1]) S (m_X0_at h1 h5 c1 g i (by omega)) g_X1_X0_at hd_X0_at ⟨Nat.le_of_ble_eq_true rfl, Nat.le_of_ble_eq_true rfl⟩ ⟨Nat.zero_le _, Nat.zero_le _⟩ hP hD hK hS hZ [1, 5] rfl (by decide) 0 rfl rfl hl.1 rfl (Nat.le_of_ble_eq_true rfl) dX1_borrow_47 (fun r H locs hq hP hS => ?_)
        obtain rfl := hq
        refine lv_iload_n hx hb dX1_borrow_50 rfl (lv_at hl 2 rfl) ?_
        refine lv_iload_n hx hb dX1_borrow_51 rfl (lv_at hl 3 rfl) ?_
        refine call_Sp (As := [.int (nI (g i)), .int (nI j), .int (nI k)]) (rest := [.int (nI i), .ref h1]) S (m_X1_exchanged (g i) j k (by rw [hg2 i (by omega)]; exact hb1 _ (by omega)) (by omega) (by omega)) g_X1_X1_exchanged hd_X1_exchanged ⟨Nat.le_of_ble_eq_true rfl, Nat.le_of_ble_eq_true rfl⟩ ⟨Nat.zero_le _, Nat.zero_le _⟩ hP hD hK hS hZ [] rfl (by decide) hl.1 rfl (Nat.le_of_ble_eq_true rfl) dX1_borrow_52 (fun r H locs hq hP hS => ?_)
        obtain rfl := hq
        refine call_Vv (As := [.int (nI i), .int (nI (xch (g i) j k))]) (wr := [(h0, .inr (1, [.ref h1, .ref h2, .ref h3, .ref h4, .int (nI n), .int (nI (xch wn j k)), .int (nI t), .int (nI tc), .int (nI sc), .int (bI true)])), (h2, .inr (0, [.ref h6, .int (nI c2)])), (h3, .inl (cI, 5, .inl (fun k => nI (s k)))), (h4, .inl (cI, 1024, .inl (fun k => nI (ow k)))), (h6, .inl (cI, 243, .inl (fun k => nI (tf k))))]) (rest := []) S (m_X0_put h1 h5 c1 g i (xch (g i) j k) (by omega)) g_X1_X0_put hd_X0_put ⟨Nat.le_of_ble_eq_true rfl, Nat.le_of_ble_eq_true rfl⟩ ⟨Nat.zero_le _, Nat.zero_le _⟩ hP hD hK hS hZ [1, 5] [0, 2, 3, 4, 6] rfl rfl (by decide) 0 rfl rfl hl.1 rfl (Nat.le_of_ble_eq_true rfl) dX1_borrow_55 (fun u H locs hq hP hD hS => ?_)
        obtain rfl := hq
        have hP := hP.sub (ws' := gW cI h0 h1 h2 h3 h4 h5 h6 h1 h2 n (xch wn j k) t tc sc true c1 c2 s ow (upN g i (xch (g i) j k)) tf) [0, 5, 1, 2, 3, 6, 4] rfl
        have hD := hD.sub (ws' := gW cI h0 h1 h2 h3 h4 h5 h6 h1 h2 n (xch wn j k) t tc sc true c1 c2 s ow (upN g i (xch (g i) j k)) tf) [0, 5, 1, 2, 3, 6, 4] (by decide) rfl
        refine lv_iinc (v := nI (i + 1)) (lv' := [(3, .int (nI (i + 1))), (0, .ref h0), (1, .int (nI j)), (2, .int (nI k))]) hx hb dX1_borrow_58 hl (k := 0) rfl (nI_add _ _) (by decide) rfl (fun ls hl => ?_)
        refine lv_goto (tgt := 26) hx hb dX1_borrow_61 (by decide) ?_
        exact ih26 (i + 1) _ (by omega) (by omega) (fun q hq => by rcases Nat.lt_or_ge q i with z | z; (· rw [upN_n _ _ (by omega)]; exact hg1 q z); (· rw [show q = i by omega, upN_s, hg2 i (by omega)])) (fun q hq => by rw [upN_n _ _ (by omega)]; exact hg2 q (by omega)) _ _ hP hD hS _ (lv_sub hl [0, 1, 2, 3] rfl)
  exact lp26 (c1 + 1) 0 hf (by omega) (by omega) (fun q hq => absurd hq (by omega)) (fun _ _ => rfl) _ _ hP hD hS _ (lv_sub hl [0, 1, 2, 3] rfl)

set_option maxHeartbeats 4000000 in
set_option maxRecDepth 100000 in
theorem m_X1_takeTurn (h0 h1 h2 h3 h4 h5 h6 n wn t tc sc : Nat) (uw : Bool) (c1 c2 : Nat) (s ow hf tf : Nat → Nat) (h0n : 0 < n) (ht : t < 5) (hn : n ≤ 5) (hw : wn < 1024) (hs : ∀ p, p < 5 → s p < 1024) (hc1 : c1 ≤ 243) (hb1 : ∀ j, j < c1 → hf j < 1024) : Mi l yX1_takeTurn ws_X1_takeTurn 5 117 (dC, dI) (tyL cI cZ cS cW) [.ref h0] (gW cI h0 h1 h2 h3 h4 h5 h6 h1 h2 n wn t tc sc uw c1 c2 s ow hf tf) (fun r u => r = (if cert wn (s t) t (Lof hf c1) = true then nI (qd wn t) else -1) ∧ ∃ (k : Nat) (og g : Nat → Nat), u = gW cI h0 h1 h2 h3 h4 h5 h6 h1 h2 n wn (aftN n t) (tc + 1) (if cert wn (s t) t (Lof hf c1) = true then sc else sc + 1) true k c2 s og g tf ∧ Lof g k = turnL wn (s t) t (Lof hf c1)) := by
  refine Mi_of (by decide +kernel) (Nat.le_of_ble_eq_true rfl) ?_
  intro pr ev sx mi ag bl me cd Q ls S hP hK hD hZ hl ret
  obtain ⟨hx, hb, hml, hown, hts⟩ := id S
  have hown : sx.vm.findClass RX1 = some mi.cls := hown
  have hS : va_S (wIn (gW cI h0 h1 h2 h3 h4 h5 h6 h1 h2 n wn t tc sc uw c1 c2 s ow hf tf)) sx.heap sx.heap [] := va_S.rf
  have hl : lv_has ls 3 [(0, .ref h0)] := hl
  refine lv_aload_n hx hb dX1_takeTurn_0 rfl (lv_at hl 0 rfl) ?_
  refine call_Vv (As := []) (wr := []) (rest := []) S (m_X1_requireSomePlayer h0 h1 h2 h3 h4 h5 h6 h1 h2 n wn t tc sc uw c1 c2 s ow hf tf  (by omega) hn) g_X1_X1_requireSomePlayer hd_X1_requireSomePlayer ⟨Nat.le_of_ble_eq_true rfl, Nat.le_of_ble_eq_true rfl⟩ ⟨Nat.zero_le _, Nat.zero_le _⟩ hP hD hK hS hZ [0, 1, 2, 3, 4, 5, 6] [] rfl rfl (by decide) 0 rfl rfl hl.1 rfl (Nat.le_of_ble_eq_true rfl) dX1_takeTurn_1 (fun u H locs hq hP hD hS => ?_)
  obtain rfl := hq
  have hP : va_P (dC, dI) vwCl (gW cI h0 h1 h2 h3 h4 h5 h6 h1 h2 n wn t tc sc uw c1 c2 s ow hf tf) H := hP
  have hD : va_D (wIn (gW cI h0 h1 h2 h3 h4 h5 h6 h1 h2 n wn t tc sc uw c1 c2 s ow hf tf)) (gW cI h0 h1 h2 h3 h4 h5 h6 h1 h2 n wn t tc sc uw c1 c2 s ow hf tf) := hD
  refine lv_aload_n hx hb dX1_takeTurn_4 rfl (lv_at hl 0 rfl) ?_
  refine va_get (D := (dC, dI)) (ci := 1) (v := .int (nI t)) (C := RX1) (T := TX1) (N := 10) hx hb hts inX1 hown hK hP 0 rfl rfl 6 (by decide) (hts _ q_fl_X1_33) (fun _ h9 => h9) rfl dX1_takeTurn_5 ?_
  refine lv_istore_n (lv' := [(1, .int (nI t)), (0, .ref h0)]) hx hb dX1_takeTurn_8 rfl hl (by decide) rfl (fun ls hl => ?_)
  refine lv_aload_n hx hb dX1_takeTurn_9 rfl (lv_at hl 1 rfl) ?_
  refine lv_aload_n hx hb dX1_takeTurn_10 rfl (lv_at hl 1 rfl) ?_
  refine va_get (D := (dC, dI)) (ci := 1) (v := .ref h1) (C := RX1) (T := TX1) (N := 10) hx hb hts inX1 hown hK hP 0 rfl rfl 0 (by decide) (hts _ q_fl_X1_10) (fun _ h9 => h9) rfl dX1_takeTurn_11 ?_
  refine lv_iload_n hx hb dX1_takeTurn_14 rfl (lv_at hl 0 rfl) ?_
  refine call_Vi (As := [.ref h1, .int (nI t)]) (wr := []) (rest := []) S (m_X1_passTurn h0 h1 h2 h3 h4 h5 h6 h1 h2 n wn t tc sc uw c1 c2 s ow hf tf t ht hw hc1 hb1) g_X1_X1_passTurn hd_X1_passTurn ⟨Nat.le_of_ble_eq_true rfl, Nat.le_of_ble_eq_true rfl⟩ ⟨Nat.zero_le _, Nat.zero_le _⟩ hP hD hK hS hZ [0, 1, 2, 3, 4, 5, 6] [] rfl rfl (by decide) 0 rfl rfl hl.1 rfl (Nat.le_of_ble_eq_true rfl) dX1_takeTurn_15 (fun r u H locs hq hP hD hS => ?_)
  obtain ⟨rfl, k6, og6, g6, rfl, hL6⟩ := hq
  have hP : va_P (dC, dI) vwCl (gW cI h0 h1 h2 h3 h4 h5 h6 h1 h2 n wn t tc sc uw k6 c2 s og6 g6 tf) H := hP
  have hD : va_D (wIn (gW cI h0 h1 h2 h3 h4 h5 h6 h1 h2 n wn t tc sc uw c1 c2 s ow hf tf)) (gW cI h0 h1 h2 h3 h4 h5 h6 h1 h2 n wn t tc sc uw k6 c2 s og6 g6 tf) := hD
  refine lv_istore_n (lv' := [(2, .int (bI (cert wn (s t) t (Lof hf c1)))), (1, .int (nI t)), (0, .ref h0)]) hx hb dX1_takeTurn_18 rfl hl (by decide) rfl (fun ls hl => ?_)
  refine lv_aload_n hx hb dX1_takeTurn_19 rfl (lv_at hl 2 rfl) ?_
  refine lv_iconst (v := nI 1) hx hb dX1_takeTurn_20 (by decide) ?_
  refine W_i (y := bI true) rfl ?_
  refine va_put (D := (dC, dI)) (ci := 1) (v := .int (bI true)) (ty := .boolean) (C := RX1) (T := TX1) (N := 10) hx hb hts inX1 tyX1 tyX1_ok nmX1 hown hK hP hD hS 0 rfl rfl 9 (by decide) (hts _ q_fl_X1_42) (fun _ h9 => h9) rfl (by decide +kernel) rfl rfl (Nat.le_of_ble_eq_true rfl) dX1_takeTurn_21 (fun H locs hP hD hS => ?_)
  have hP : va_P (dC, dI) vwCl (gW cI h0 h1 h2 h3 h4 h5 h6 h1 h2 n wn t tc sc true k6 c2 s og6 g6 tf) H := hP
  have hD : va_D (wIn (gW cI h0 h1 h2 h3 h4 h5 h6 h1 h2 n wn t tc sc uw c1 c2 s ow hf tf)) (gW cI h0 h1 h2 h3 h4 h5 h6 h1 h2 n wn t tc sc true k6 c2 s og6 g6 tf) := hD
  refine lv_aload_n hx hb dX1_takeTurn_24 rfl (lv_at hl 2 rfl) ?_
  refine lv_aload_n hx hb dX1_takeTurn_25 rfl (lv_at hl 2 rfl) ?_
  refine lv_iload_n hx hb dX1_takeTurn_26 rfl (lv_at hl 1 rfl) ?_
  refine call_Vp (As := [.int (nI t)]) (rest := [.ref h0]) S (m_X1_playerAfter h0 h1 h2 h3 h4 h5 h6 h1 h2 n wn t tc sc true k6 c2 s og6 g6 tf t hn ht) g_X1_X1_playerAfter hd_X1_playerAfter ⟨Nat.le_of_ble_eq_true rfl, Nat.le_of_ble_eq_true rfl⟩ ⟨Nat.zero_le _, Nat.zero_le _⟩ hP hD hK hS hZ [0, 1, 2, 3, 4, 5, 6] rfl (by decide) 0 rfl rfl hl.1 rfl (Nat.le_of_ble_eq_true rfl) dX1_takeTurn_27 (fun r H locs hq hP hS => ?_)
  obtain rfl := hq
  refine va_put (D := (dC, dI)) (ci := 1) (v := .int (nI (aftN n t))) (ty := .int) (C := RX1) (T := TX1) (N := 10) hx hb hts inX1 tyX1 tyX1_ok nmX1 hown hK hP hD hS 0 rfl rfl 6 (by decide) (hts _ q_fl_X1_33) (fun _ h9 => h9) rfl (by decide +kernel) rfl rfl (Nat.le_of_ble_eq_true rfl) dX1_takeTurn_30 (fun H locs hP hD hS => ?_)
  have hP : va_P (dC, dI) vwCl (gW cI h0 h1 h2 h3 h4 h5 h6 h1 h2 n wn (aftN n t) tc sc true k6 c2 s og6 g6 tf) H := hP
  have hD : va_D (wIn (gW cI h0 h1 h2 h3 h4 h5 h6 h1 h2 n wn t tc sc uw c1 c2 s ow hf tf)) (gW cI h0 h1 h2 h3 h4 h5 h6 h1 h2 n wn (aftN n t) tc sc true k6 c2 s og6 g6 tf) := hD
  refine lv_aload_n hx hb dX1_takeTurn_33 rfl (lv_at hl 2 rfl) ?_
  refine lv_dup hx hb dX1_takeTurn_34 rfl ?_
  refine va_get (D := (dC, dI)) (ci := 1) (v := .int (nI tc)) (C := RX1) (T := TX1) (N := 10) hx hb hts inX1 hown hK hP 0 rfl rfl 7 (by decide) (hts _ q_fl_X1_36) (fun _ h9 => h9) rfl dX1_takeTurn_35 ?_
  refine lv_iconst (v := nI 1) hx hb dX1_takeTurn_38 (by decide) ?_
  refine lv_iadd hx hb dX1_takeTurn_39 ?_
  refine W_i (y := nI (tc + 1)) (nI_add _ _) ?_
  refine va_put (D := (dC, dI)) (ci := 1) (v := .int (nI (tc + 1))) (ty := .int) (C := RX1) (T := TX1) (N := 10) hx hb hts inX1 tyX1 tyX1_ok nmX1 hown hK hP hD hS 0 rfl rfl 7 (by decide) (hts _ q_fl_X1_36) (fun _ h9 => h9) rfl (by decide +kernel) rfl rfl (Nat.le_of_ble_eq_true rfl) dX1_takeTurn_40 (fun H locs hP hD hS => ?_)
  have hP : va_P (dC, dI) vwCl (gW cI h0 h1 h2 h3 h4 h5 h6 h1 h2 n wn (aftN n t) (tc + 1) sc true k6 c2 s og6 g6 tf) H := hP
  have hD : va_D (wIn (gW cI h0 h1 h2 h3 h4 h5 h6 h1 h2 n wn t tc sc uw c1 c2 s ow hf tf)) (gW cI h0 h1 h2 h3 h4 h5 h6 h1 h2 n wn (aftN n t) (tc + 1) sc true k6 c2 s og6 g6 tf) := hD
  refine lv_iload_n hx hb dX1_takeTurn_43 rfl (lv_at hl 0 rfl) ?_
  refine ifB_eq (tgt := 56) hx hb dX1_takeTurn_44 (by decide) (fun c_44 => ?_) (fun c_44 => ?_)
  · refine lv_aload_n hx hb dX1_takeTurn_56 rfl (lv_at hl 2 rfl) ?_
    refine lv_dup hx hb dX1_takeTurn_57 rfl ?_
    refine va_get (D := (dC, dI)) (ci := 1) (v := .int (nI sc)) (C := RX1) (T := TX1) (N := 10) hx hb hts inX1 hown hK hP 0 rfl rfl 8 (by decide) (hts _ q_fl_X1_39) (fun _ h9 => h9) rfl dX1_takeTurn_58 ?_
    refine lv_iconst (v := nI 1) hx hb dX1_takeTurn_61 (by decide) ?_
    refine lv_iadd hx hb dX1_takeTurn_62 ?_
    refine W_i (y := nI (sc + 1)) (nI_add _ _) ?_
    refine va_put (D := (dC, dI)) (ci := 1) (v := .int (nI (sc + 1))) (ty := .int) (C := RX1) (T := TX1) (N := 10) hx hb hts inX1 tyX1 tyX1_ok nmX1 hown hK hP hD hS 0 rfl rfl 8 (by decide) (hts _ q_fl_X1_39) (fun _ h9 => h9) rfl (by decide +kernel) rfl rfl (Nat.le_of_ble_eq_true rfl) dX1_takeTurn_63 (fun H locs hP hD hS => ?_)
    have hP : va_P (dC, dI) vwCl (gW cI h0 h1 h2 h3 h4 h5 h6 h1 h2 n wn (aftN n t) (tc + 1) (sc + 1) true k6 c2 s og6 g6 tf) H := hP
    have hD : va_D (wIn (gW cI h0 h1 h2 h3 h4 h5 h6 h1 h2 n wn t tc sc uw c1 c2 s ow hf tf)) (gW cI h0 h1 h2 h3 h4 h5 h6 h1 h2 n wn (aftN n t) (tc + 1) (sc + 1) true k6 c2 s og6 g6 tf) := hD
    refine lv_iconst (v := (-1)) hx hb dX1_takeTurn_66 (by decide) ?_
    exact ret _ (gW cI h0 h1 h2 h3 h4 h5 h6 h1 h2 n wn (aftN n t) (tc + 1) (sc + 1) true k6 c2 s og6 g6 tf) _ _ _ _ dX1_takeTurn_67 rfl ⟨by rw [if_neg (by rw [c_44]; decide)], k6, og6, g6, by rw [if_neg (by rw [c_44]; decide)], hL6⟩ (List.Perm.refl _) hP hS
  · refine lv_aload_n hx hb dX1_takeTurn_47 rfl (lv_at hl 2 rfl) ?_
    refine va_get (D := (dC, dI)) (ci := 1) (v := .int (nI wn)) (C := RX1) (T := TX1) (N := 10) hx hb hts inX1 hown hK hP 0 rfl rfl 5 (by decide) (hts _ q_fl_X1_30) (fun _ h9 => h9) rfl dX1_takeTurn_48 ?_
    refine lv_iload_n hx hb dX1_takeTurn_51 rfl (lv_at hl 1 rfl) ?_
    refine call_Sp (As := [.int (nI wn), .int (nI t)]) (rest := []) S (m_X1_colourIn wn t hw ht) g_X1_X1_colourIn hd_X1_colourIn ⟨Nat.le_of_ble_eq_true rfl, Nat.le_of_ble_eq_true rfl⟩ ⟨Nat.zero_le _, Nat.zero_le _⟩ hP hD hK hS hZ [] rfl (by decide) hl.1 rfl (Nat.le_of_ble_eq_true rfl) dX1_takeTurn_52 (fun r H locs hq hP hS => ?_)
    obtain rfl := hq
    exact ret _ (gW cI h0 h1 h2 h3 h4 h5 h6 h1 h2 n wn (aftN n t) (tc + 1) sc true k6 c2 s og6 g6 tf) _ _ _ _ dX1_takeTurn_55 rfl ⟨by rw [if_pos c_44], k6, og6, g6, by rw [if_pos c_44], hL6⟩ (List.Perm.refl _) hP hS

set_option maxHeartbeats 4000000 in
set_option maxRecDepth 100000 in
theorem m_X1_sayBetween (h0 h1 h2 h3 h4 h5 h6 n wn t tc sc : Nat) (uw : Bool) (c1 c2 : Nat) (s ow hf tf : Nat → Nat) (co lo hi2 : Nat) (hco : co < 3) (hlo : lo < 6) (hhi : hi2 < 6) (hl1 : lo ≤ hatsN n wn co) (hl2 : hatsN n wn co ≤ hi2) (hn : n ≤ 5) (hw : wn < 1024) (hs : ∀ p, p < 5 → s p < 1024) (hc1 : c1 ≤ 243) (hb1 : ∀ j, j < c1 → hf j < 1024) : Mi l yX1_sayBetween ws_X1_sayBetween 3 73 (dC, dI) (tyL cI cZ cS cW) [.ref h0, .int (nI co), .int (nI lo), .int (nI hi2)] (gW cI h0 h1 h2 h3 h4 h5 h6 h1 h2 n wn t tc sc uw c1 c2 s ow hf tf) (fun r u => ∃ (k : Nat) (g : Nat → Nat), r = nI k ∧ u = gW cI h0 h1 h2 h3 h4 h5 h6 h1 h2 n wn t tc sc true k c2 s ow g tf ∧ Lof g k = (Lof hf c1).filter (fun x => decide (lo ≤ hatsN n x co) && decide (hatsN n x co ≤ hi2))) := by
  refine Mi_of (by decide +kernel) (Nat.le_of_ble_eq_true rfl) ?_
  intro pr ev sx mi ag bl me cd Q ls S hP hK hD hZ hl ret
  obtain ⟨hx, hb, hml, hown, hts⟩ := id S
  have hown : sx.vm.findClass RX1 = some mi.cls := hown
  have hS : va_S (wIn (gW cI h0 h1 h2 h3 h4 h5 h6 h1 h2 n wn t tc sc uw c1 c2 s ow hf tf)) sx.heap sx.heap [] := va_S.rf
  have hl : lv_has ls 5 [(0, .ref h0), (1, .int (nI co)), (2, .int (nI lo)), (3, .int (nI hi2))] := hl
  refine lv_aload_n hx hb dX1_sayBetween_0 rfl (lv_at hl 0 rfl) ?_
  refine lv_aload_n hx hb dX1_sayBetween_1 rfl (lv_at hl 0 rfl) ?_
  refine va_get (D := (dC, dI)) (ci := 1) (v := .int (nI wn)) (C := RX1) (T := TX1) (N := 10) hx hb hts inX1 hown hK hP 0 rfl rfl 5 (by decide) (hts _ q_fl_X1_30) (fun _ h9 => h9) rfl dX1_sayBetween_2 ?_
  refine lv_iload_n hx hb dX1_sayBetween_5 rfl (lv_at hl 1 rfl) ?_
  refine call_Vp (As := [.int (nI wn), .int (nI co)]) (rest := []) S (m_X1_hatsIn h0 h1 h2 h3 h4 h5 h6 h1 h2 n wn t tc sc uw c1 c2 s ow hf tf wn co hn hw (by omega)) g_X1_X1_hatsIn hd_X1_hatsIn ⟨Nat.le_of_ble_eq_true rfl, Nat.le_of_ble_eq_true rfl⟩ ⟨Nat.zero_le _, Nat.zero_le _⟩ hP hD hK hS hZ [0, 1, 2, 3, 4, 5, 6] rfl (by decide) 0 rfl rfl hl.1 rfl (Nat.le_of_ble_eq_true rfl) dX1_sayBetween_6 (fun r H locs hq hP hS => ?_)
  obtain rfl := hq
  refine lv_istore (lv' := [(4, .int (nI (hatsN n wn co))), (0, .ref h0), (1, .int (nI co)), (2, .int (nI lo)), (3, .int (nI hi2))]) hx hb dX1_sayBetween_9 hl (by decide) rfl (fun ls hl => ?_)
  refine lv_iload hx hb dX1_sayBetween_11 (lv_at hl 0 rfl) ?_
  refine lv_iload_n hx hb dX1_sayBetween_13 rfl (lv_at hl 3 rfl) ?_
  refine icN_lt (tgt := 23) hx hb dX1_sayBetween_14 (by decide) (by have := hatsN_le n wn co; omega) (by omega) (fun c_14 => absurd c_14 (by omega)) (fun c_14 => ?_)
  refine lv_iload hx hb dX1_sayBetween_17 (lv_at hl 0 rfl) ?_
  refine lv_iload_n hx hb dX1_sayBetween_19 rfl (lv_at hl 4 rfl) ?_
  refine icN_le (tgt := 33) hx hb dX1_sayBetween_20 (by decide) (by have := hatsN_le n wn co; omega) (by omega) (fun c_20 => ?_) (fun c_20 => absurd c_20 (by omega))
  refine lv_aload_n hx hb dX1_sayBetween_33 rfl (lv_at hl 1 rfl) ?_
  refine lv_aload_n hx hb dX1_sayBetween_34 rfl (lv_at hl 1 rfl) ?_
  refine va_get (D := (dC, dI)) (ci := 1) (v := .ref h1) (C := RX1) (T := TX1) (N := 10) hx hb hts inX1 hown hK hP 0 rfl rfl 0 (by decide) (hts _ q_fl_X1_10) (fun _ h9 => h9) rfl dX1_sayBetween_35 ?_
  refine lv_iload_n hx hb dX1_sayBetween_38 rfl (lv_at hl 2 rfl) ?_
  refine lv_iload_n hx hb dX1_sayBetween_39 rfl (lv_at hl 3 rfl) ?_
  refine lv_iload_n hx hb dX1_sayBetween_40 rfl (lv_at hl 4 rfl) ?_
  refine call_Vv (As := [.ref h1, .int (nI co), .int (nI lo), .int (nI hi2)]) (wr := []) (rest := []) S (m_X1_keepWithHats h0 h1 h2 h3 h4 h5 h6 h1 h2 n wn t tc sc uw c1 c2 s ow hf tf co lo hi2 hn (by omega) (by omega) (by omega) hc1 hb1) g_X1_X1_keepWithHats hd_X1_keepWithHats ⟨Nat.le_of_ble_eq_true rfl, Nat.le_of_ble_eq_true rfl⟩ ⟨Nat.zero_le _, Nat.zero_le _⟩ hP hD hK hS hZ [0, 1, 2, 3, 4, 5, 6] [] rfl rfl (by decide) 0 rfl rfl hl.1 rfl (Nat.le_of_ble_eq_true rfl) dX1_sayBetween_41 (fun u H locs hq hP hD hS => ?_)
  obtain ⟨k9, g9, rfl, hL9⟩ := hq
  have hP : va_P (dC, dI) vwCl (gW cI h0 h1 h2 h3 h4 h5 h6 h1 h2 n wn t tc sc uw k9 c2 s ow g9 tf) H := hP
  have hD : va_D (wIn (gW cI h0 h1 h2 h3 h4 h5 h6 h1 h2 n wn t tc sc uw c1 c2 s ow hf tf)) (gW cI h0 h1 h2 h3 h4 h5 h6 h1 h2 n wn t tc sc uw k9 c2 s ow g9 tf) := hD
  refine lv_aload_n hx hb dX1_sayBetween_44 rfl (lv_at hl 1 rfl) ?_
  refine lv_iconst (v := nI 1) hx hb dX1_sayBetween_45 (by decide) ?_
  refine W_i (y := bI true) rfl ?_
  refine va_put (D := (dC, dI)) (ci := 1) (v := .int (bI true)) (ty := .boolean) (C := RX1) (T := TX1) (N := 10) hx hb hts inX1 tyX1 tyX1_ok nmX1 hown hK hP hD hS 0 rfl rfl 9 (by decide) (hts _ q_fl_X1_42) (fun _ h9 => h9) rfl (by decide +kernel) rfl rfl (Nat.le_of_ble_eq_true rfl) dX1_sayBetween_46 (fun H locs hP hD hS => ?_)
  have hP : va_P (dC, dI) vwCl (gW cI h0 h1 h2 h3 h4 h5 h6 h1 h2 n wn t tc sc true k9 c2 s ow g9 tf) H := hP
  have hD : va_D (wIn (gW cI h0 h1 h2 h3 h4 h5 h6 h1 h2 n wn t tc sc uw c1 c2 s ow hf tf)) (gW cI h0 h1 h2 h3 h4 h5 h6 h1 h2 n wn t tc sc true k9 c2 s ow g9 tf) := hD
  refine lv_aload_n hx hb dX1_sayBetween_49 rfl (lv_at hl 1 rfl) ?_
  refine va_get (D := (dC, dI)) (ci := 1) (v := .ref h1) (C := RX1) (T := TX1) (N := 10) hx hb hts inX1 hown hK hP 0 rfl rfl 0 (by decide) (hts _ q_fl_X1_10) (fun _ h9 => h9) rfl dX1_sayBetween_50 ?_
  refine call_Vp (As := []) (rest := []) S (m_X0_count h1 h5 k9 g9) g_X1_X0_count hd_X0_count ⟨Nat.le_of_ble_eq_true rfl, Nat.le_of_ble_eq_true rfl⟩ ⟨Nat.zero_le _, Nat.zero_le _⟩ hP hD hK hS hZ [1, 5] rfl (by decide) 0 rfl rfl hl.1 rfl (Nat.le_of_ble_eq_true rfl) dX1_sayBetween_53 (fun r H locs hq hP hS => ?_)
  obtain rfl := hq
  exact ret _ (gW cI h0 h1 h2 h3 h4 h5 h6 h1 h2 n wn t tc sc true k9 c2 s ow g9 tf) _ _ _ _ dX1_sayBetween_56 rfl ⟨k9, g9, rfl, rfl, hL9⟩ (List.Perm.refl _) hP hS

set_option maxHeartbeats 4000000 in
set_option maxRecDepth 100000 in
theorem m_X1_sayAtLeast (h0 h1 h2 h3 h4 h5 h6 n wn t tc sc : Nat) (uw : Bool) (c1 c2 : Nat) (s ow hf tf : Nat → Nat) (co many : Nat) (hco : co < 3) (hm : many < 6) (hl1 : many ≤ hatsN n wn co) (hn : n ≤ 5) (hw : wn < 1024) (hs : ∀ p, p < 5 → s p < 1024) (hc1 : c1 ≤ 243) (hb1 : ∀ j, j < c1 → hf j < 1024) : Mi l yX1_sayAtLeast ws_X1_sayAtLeast 4 97 (dC, dI) (tyL cI cZ cS cW) [.ref h0, .int (nI co), .int (nI many)] (gW cI h0 h1 h2 h3 h4 h5 h6 h1 h2 n wn t tc sc uw c1 c2 s ow hf tf) (fun r u => ∃ (k : Nat) (g : Nat → Nat), r = nI k ∧ u = gW cI h0 h1 h2 h3 h4 h5 h6 h1 h2 n wn t tc sc true k c2 s ow g tf ∧ Lof g k = (Lof hf c1).filter (fun x => decide (many ≤ hatsN n x co) && decide (hatsN n x co ≤ 5))) := by
  refine Mi_of (by decide +kernel) (Nat.le_of_ble_eq_true rfl) ?_
  intro pr ev sx mi ag bl me cd Q ls S hP hK hD hZ hl ret
  obtain ⟨hx, hb, hml, hown, hts⟩ := id S
  have hown : sx.vm.findClass RX1 = some mi.cls := hown
  have hS : va_S (wIn (gW cI h0 h1 h2 h3 h4 h5 h6 h1 h2 n wn t tc sc uw c1 c2 s ow hf tf)) sx.heap sx.heap [] := va_S.rf
  have hl : lv_has ls 3 [(0, .ref h0), (1, .int (nI co)), (2, .int (nI many))] := hl
  refine lv_iload_n hx hb dX1_sayAtLeast_0 rfl (lv_at hl 1 rfl) ?_
  refine call_Sv (As := [.int (nI co)]) (wr := [(h0, .inr (1, [.ref h1, .ref h2, .ref h3, .ref h4, .int (nI n), .int (nI wn), .int (nI t), .int (nI tc), .int (nI sc), .int (bI uw)])), (h1, .inr (0, [.ref h5, .int (nI c1)])), (h2, .inr (0, [.ref h6, .int (nI c2)])), (h3, .inl (cI, 5, .inl (fun k => nI (s k)))), (h4, .inl (cI, 1024, .inl (fun k => nI (ow k)))), (h5, .inl (cI, 243, .inl (fun k => nI (hf k)))), (h6, .inl (cI, 243, .inl (fun k => nI (tf k))))]) (rest := []) S (m_X1_requireColour co (by omega)) g_X1_X1_requireColour hd_X1_requireColour ⟨Nat.le_of_ble_eq_true rfl, Nat.le_of_ble_eq_true rfl⟩ ⟨Nat.zero_le _, Nat.zero_le _⟩ hP hD hK hS hZ [] [0, 1, 2, 3, 4, 5, 6] rfl rfl (by decide) hl.1 rfl (Nat.le_of_ble_eq_true rfl) dX1_sayAtLeast_1 (fun u H locs hq hP hD hS => ?_)
  obtain rfl := hq
  have hP : va_P (dC, dI) vwCl (gW cI h0 h1 h2 h3 h4 h5 h6 h1 h2 n wn t tc sc uw c1 c2 s ow hf tf) H := hP
  have hD : va_D (wIn (gW cI h0 h1 h2 h3 h4 h5 h6 h1 h2 n wn t tc sc uw c1 c2 s ow hf tf)) (gW cI h0 h1 h2 h3 h4 h5 h6 h1 h2 n wn t tc sc uw c1 c2 s ow hf tf) := hD
  refine lv_iload_n hx hb dX1_sayAtLeast_4 rfl (lv_at hl 2 rfl) ?_
  refine call_Sv (As := [.int (nI many)]) (wr := [(h0, .inr (1, [.ref h1, .ref h2, .ref h3, .ref h4, .int (nI n), .int (nI wn), .int (nI t), .int (nI tc), .int (nI sc), .int (bI uw)])), (h1, .inr (0, [.ref h5, .int (nI c1)])), (h2, .inr (0, [.ref h6, .int (nI c2)])), (h3, .inl (cI, 5, .inl (fun k => nI (s k)))), (h4, .inl (cI, 1024, .inl (fun k => nI (ow k)))), (h5, .inl (cI, 243, .inl (fun k => nI (hf k)))), (h6, .inl (cI, 243, .inl (fun k => nI (tf k))))]) (rest := []) S (m_X1_requireMany many (by omega)) g_X1_X1_requireMany hd_X1_requireMany ⟨Nat.le_of_ble_eq_true rfl, Nat.le_of_ble_eq_true rfl⟩ ⟨Nat.zero_le _, Nat.zero_le _⟩ hP hD hK hS hZ [] [0, 1, 2, 3, 4, 5, 6] rfl rfl (by decide) hl.1 rfl (Nat.le_of_ble_eq_true rfl) dX1_sayAtLeast_5 (fun u H locs hq hP hD hS => ?_)
  obtain rfl := hq
  have hP : va_P (dC, dI) vwCl (gW cI h0 h1 h2 h3 h4 h5 h6 h1 h2 n wn t tc sc uw c1 c2 s ow hf tf) H := hP
  have hD : va_D (wIn (gW cI h0 h1 h2 h3 h4 h5 h6 h1 h2 n wn t tc sc uw c1 c2 s ow hf tf)) (gW cI h0 h1 h2 h3 h4 h5 h6 h1 h2 n wn t tc sc uw c1 c2 s ow hf tf) := hD
  refine lv_aload_n hx hb dX1_sayAtLeast_8 rfl (lv_at hl 0 rfl) ?_
  refine lv_iload_n hx hb dX1_sayAtLeast_9 rfl (lv_at hl 1 rfl) ?_
  refine lv_iload_n hx hb dX1_sayAtLeast_10 rfl (lv_at hl 2 rfl) ?_
  refine lv_iconst (v := nI 5) hx hb dX1_sayAtLeast_11 (by decide) ?_
  refine call_Vi (As := [.int (nI co), .int (nI many), .int (nI 5)]) (wr := []) (rest := []) S (m_X1_sayBetween h0 h1 h2 h3 h4 h5 h6 n wn t tc sc uw c1 c2 s ow hf tf co many 5 (by omega) (by omega) (by omega) (by omega) (by have := hatsN_le n wn co; omega) hn hw hs hc1 hb1) g_X1_X1_sayBetween hd_X1_sayBetween ⟨Nat.le_of_ble_eq_true rfl, Nat.le_of_ble_eq_true rfl⟩ ⟨Nat.zero_le _, Nat.zero_le _⟩ hP hD hK hS hZ [0, 1, 2, 3, 4, 5, 6] [] rfl rfl (by decide) 0 rfl rfl hl.1 rfl (Nat.le_of_ble_eq_true rfl) dX1_sayAtLeast_12 (fun r u H locs hq hP hD hS => ?_)
  obtain ⟨k2, g2, rfl, rfl, hL2⟩ := hq
  have hP : va_P (dC, dI) vwCl (gW cI h0 h1 h2 h3 h4 h5 h6 h1 h2 n wn t tc sc true k2 c2 s ow g2 tf) H := hP
  have hD : va_D (wIn (gW cI h0 h1 h2 h3 h4 h5 h6 h1 h2 n wn t tc sc uw c1 c2 s ow hf tf)) (gW cI h0 h1 h2 h3 h4 h5 h6 h1 h2 n wn t tc sc true k2 c2 s ow g2 tf) := hD
  exact ret _ (gW cI h0 h1 h2 h3 h4 h5 h6 h1 h2 n wn t tc sc true k2 c2 s ow g2 tf) _ _ _ _ dX1_sayAtLeast_15 rfl ⟨k2, g2, rfl, rfl, hL2⟩ (List.Perm.refl _) hP hS

set_option maxHeartbeats 4000000 in
set_option maxRecDepth 100000 in
theorem m_X1_sayAtMost (h0 h1 h2 h3 h4 h5 h6 n wn t tc sc : Nat) (uw : Bool) (c1 c2 : Nat) (s ow hf tf : Nat → Nat) (co many : Nat) (hco : co < 3) (hm : many < 6) (hl2 : hatsN n wn co ≤ many) (hn : n ≤ 5) (hw : wn < 1024) (hs : ∀ p, p < 5 → s p < 1024) (hc1 : c1 ≤ 243) (hb1 : ∀ j, j < c1 → hf j < 1024) : Mi l yX1_sayAtMost ws_X1_sayAtMost 4 97 (dC, dI) (tyL cI cZ cS cW) [.ref h0, .int (nI co), .int (nI many)] (gW cI h0 h1 h2 h3 h4 h5 h6 h1 h2 n wn t tc sc uw c1 c2 s ow hf tf) (fun r u => ∃ (k : Nat) (g : Nat → Nat), r = nI k ∧ u = gW cI h0 h1 h2 h3 h4 h5 h6 h1 h2 n wn t tc sc true k c2 s ow g tf ∧ Lof g k = (Lof hf c1).filter (fun x => decide (0 ≤ hatsN n x co) && decide (hatsN n x co ≤ many))) := by
  refine Mi_of (by decide +kernel) (Nat.le_of_ble_eq_true rfl) ?_
  intro pr ev sx mi ag bl me cd Q ls S hP hK hD hZ hl ret
  obtain ⟨hx, hb, hml, hown, hts⟩ := id S
  have hown : sx.vm.findClass RX1 = some mi.cls := hown
  have hS : va_S (wIn (gW cI h0 h1 h2 h3 h4 h5 h6 h1 h2 n wn t tc sc uw c1 c2 s ow hf tf)) sx.heap sx.heap [] := va_S.rf
  have hl : lv_has ls 3 [(0, .ref h0), (1, .int (nI co)), (2, .int (nI many))] := hl
  refine lv_iload_n hx hb dX1_sayAtMost_0 rfl (lv_at hl 1 rfl) ?_
  refine call_Sv (As := [.int (nI co)]) (wr := [(h0, .inr (1, [.ref h1, .ref h2, .ref h3, .ref h4, .int (nI n), .int (nI wn), .int (nI t), .int (nI tc), .int (nI sc), .int (bI uw)])), (h1, .inr (0, [.ref h5, .int (nI c1)])), (h2, .inr (0, [.ref h6, .int (nI c2)])), (h3, .inl (cI, 5, .inl (fun k => nI (s k)))), (h4, .inl (cI, 1024, .inl (fun k => nI (ow k)))), (h5, .inl (cI, 243, .inl (fun k => nI (hf k)))), (h6, .inl (cI, 243, .inl (fun k => nI (tf k))))]) (rest := []) S (m_X1_requireColour co (by omega)) g_X1_X1_requireColour hd_X1_requireColour ⟨Nat.le_of_ble_eq_true rfl, Nat.le_of_ble_eq_true rfl⟩ ⟨Nat.zero_le _, Nat.zero_le _⟩ hP hD hK hS hZ [] [0, 1, 2, 3, 4, 5, 6] rfl rfl (by decide) hl.1 rfl (Nat.le_of_ble_eq_true rfl) dX1_sayAtMost_1 (fun u H locs hq hP hD hS => ?_)
  obtain rfl := hq
  have hP : va_P (dC, dI) vwCl (gW cI h0 h1 h2 h3 h4 h5 h6 h1 h2 n wn t tc sc uw c1 c2 s ow hf tf) H := hP
  have hD : va_D (wIn (gW cI h0 h1 h2 h3 h4 h5 h6 h1 h2 n wn t tc sc uw c1 c2 s ow hf tf)) (gW cI h0 h1 h2 h3 h4 h5 h6 h1 h2 n wn t tc sc uw c1 c2 s ow hf tf) := hD
  refine lv_iload_n hx hb dX1_sayAtMost_4 rfl (lv_at hl 2 rfl) ?_
  refine call_Sv (As := [.int (nI many)]) (wr := [(h0, .inr (1, [.ref h1, .ref h2, .ref h3, .ref h4, .int (nI n), .int (nI wn), .int (nI t), .int (nI tc), .int (nI sc), .int (bI uw)])), (h1, .inr (0, [.ref h5, .int (nI c1)])), (h2, .inr (0, [.ref h6, .int (nI c2)])), (h3, .inl (cI, 5, .inl (fun k => nI (s k)))), (h4, .inl (cI, 1024, .inl (fun k => nI (ow k)))), (h5, .inl (cI, 243, .inl (fun k => nI (hf k)))), (h6, .inl (cI, 243, .inl (fun k => nI (tf k))))]) (rest := []) S (m_X1_requireMany many (by omega)) g_X1_X1_requireMany hd_X1_requireMany ⟨Nat.le_of_ble_eq_true rfl, Nat.le_of_ble_eq_true rfl⟩ ⟨Nat.zero_le _, Nat.zero_le _⟩ hP hD hK hS hZ [] [0, 1, 2, 3, 4, 5, 6] rfl rfl (by decide) hl.1 rfl (Nat.le_of_ble_eq_true rfl) dX1_sayAtMost_5 (fun u H locs hq hP hD hS => ?_)
  obtain rfl := hq
  have hP : va_P (dC, dI) vwCl (gW cI h0 h1 h2 h3 h4 h5 h6 h1 h2 n wn t tc sc uw c1 c2 s ow hf tf) H := hP
  have hD : va_D (wIn (gW cI h0 h1 h2 h3 h4 h5 h6 h1 h2 n wn t tc sc uw c1 c2 s ow hf tf)) (gW cI h0 h1 h2 h3 h4 h5 h6 h1 h2 n wn t tc sc uw c1 c2 s ow hf tf) := hD
  refine lv_aload_n hx hb dX1_sayAtMost_8 rfl (lv_at hl 0 rfl) ?_
  refine lv_iload_n hx hb dX1_sayAtMost_9 rfl (lv_at hl 1 rfl) ?_
  refine lv_iconst (v := nI 0) hx hb dX1_sayAtMost_10 (by decide) ?_
  refine lv_iload_n hx hb dX1_sayAtMost_11 rfl (lv_at hl 2 rfl) ?_
  refine call_Vi (As := [.int (nI co), .int (nI 0), .int (nI many)]) (wr := []) (rest := []) S (m_X1_sayBetween h0 h1 h2 h3 h4 h5 h6 n wn t tc sc uw c1 c2 s ow hf tf co 0 many (by omega) (by omega) (by omega) (by omega) (by omega) hn hw hs hc1 hb1) g_X1_X1_sayBetween hd_X1_sayBetween ⟨Nat.le_of_ble_eq_true rfl, Nat.le_of_ble_eq_true rfl⟩ ⟨Nat.zero_le _, Nat.zero_le _⟩ hP hD hK hS hZ [0, 1, 2, 3, 4, 5, 6] [] rfl rfl (by decide) 0 rfl rfl hl.1 rfl (Nat.le_of_ble_eq_true rfl) dX1_sayAtMost_12 (fun r u H locs hq hP hD hS => ?_)
  obtain ⟨k2, g2, rfl, rfl, hL2⟩ := hq
  have hP : va_P (dC, dI) vwCl (gW cI h0 h1 h2 h3 h4 h5 h6 h1 h2 n wn t tc sc true k2 c2 s ow g2 tf) H := hP
  have hD : va_D (wIn (gW cI h0 h1 h2 h3 h4 h5 h6 h1 h2 n wn t tc sc uw c1 c2 s ow hf tf)) (gW cI h0 h1 h2 h3 h4 h5 h6 h1 h2 n wn t tc sc true k2 c2 s ow g2 tf) := hD
  exact ret _ (gW cI h0 h1 h2 h3 h4 h5 h6 h1 h2 n wn t tc sc true k2 c2 s ow g2 tf) _ _ _ _ dX1_sayAtMost_15 rfl ⟨k2, g2, rfl, rfl, hL2⟩ (List.Perm.refl _) hP hS

set_option maxHeartbeats 4000000 in
set_option maxRecDepth 100000 in
theorem m_X1_begin (h0 h1 h2 h3 h4 h5 h6 n wn t tc sc : Nat) (uw : Bool) (c1 c2 : Nat) (s ow hf tf : Nat → Nat)  (hn : n ≤ 5) (hw : wn < 1024) (hs : ∀ p, p < 5 → s p < 1024) (hc1 : c1 ≤ 243) (hb1 : ∀ j, j < c1 → hf j < 1024) : Mi l yX1_begin ws_X1_begin 2 45 (dC, dI) (tyL cI cZ cS cW) [.ref h0] (gW cI h0 h1 h2 h3 h4 h5 h6 h1 h2 n wn t tc sc uw c1 c2 s ow hf tf) (fun r u => r = nI (3 ^ n) ∧ ∃ g : Nat → Nat, u = gW cI h0 h1 h2 h3 h4 h5 h6 h1 h2 n wn 0 0 0 false (3 ^ n) c2 s ow g tf ∧ Lof g (3 ^ n) = canL n) := by
  refine Mi_of (by decide +kernel) (Nat.le_of_ble_eq_true rfl) ?_
  intro pr ev sx mi ag bl me cd Q ls S hP hK hD hZ hl ret
  obtain ⟨hx, hb, hml, hown, hts⟩ := id S
  have hown : sx.vm.findClass RX1 = some mi.cls := hown
  have hS : va_S (wIn (gW cI h0 h1 h2 h3 h4 h5 h6 h1 h2 n wn t tc sc uw c1 c2 s ow hf tf)) sx.heap sx.heap [] := va_S.rf
  have hl : lv_has ls 2 [(0, .ref h0)] := hl
  refine lv_aload_n hx hb dX1_begin_0 rfl (lv_at hl 0 rfl) ?_
  refine va_get (D := (dC, dI)) (ci := 1) (v := .ref h1) (C := RX1) (T := TX1) (N := 10) hx hb hts inX1 hown hK hP 0 rfl rfl 0 (by decide) (hts _ q_fl_X1_10) (fun _ h9 => h9) rfl dX1_begin_1 ?_
  refine call_Vv (As := []) (wr := [(h0, .inr (1, [.ref h1, .ref h2, .ref h3, .ref h4, .int (nI n), .int (nI wn), .int (nI t), .int (nI tc), .int (nI sc), .int (bI uw)])), (h2, .inr (0, [.ref h6, .int (nI c2)])), (h3, .inl (cI, 5, .inl (fun k => nI (s k)))), (h4, .inl (cI, 1024, .inl (fun k => nI (ow k)))), (h6, .inl (cI, 243, .inl (fun k => nI (tf k))))]) (rest := []) S (m_X0_clear h1 h5 c1 hf) g_X1_X0_clear hd_X0_clear ⟨Nat.le_of_ble_eq_true rfl, Nat.le_of_ble_eq_true rfl⟩ ⟨Nat.zero_le _, Nat.zero_le _⟩ hP hD hK hS hZ [1, 5] [0, 2, 3, 4, 6] rfl rfl (by decide) 0 rfl rfl hl.1 rfl (Nat.le_of_ble_eq_true rfl) dX1_begin_4 (fun u H locs hq hP hD hS => ?_)
  obtain rfl := hq
  have hP := hP.sub (ws' := gW cI h0 h1 h2 h3 h4 h5 h6 h1 h2 n wn t tc sc uw 0 c2 s ow hf tf) [0, 5, 1, 2, 3, 6, 4] rfl
  have hD := hD.sub (ws' := gW cI h0 h1 h2 h3 h4 h5 h6 h1 h2 n wn t tc sc uw 0 c2 s ow hf tf) [0, 5, 1, 2, 3, 6, 4] (by decide) rfl
  refine lv_aload_n hx hb dX1_begin_7 rfl (lv_at hl 0 rfl) ?_
  refine va_get (D := (dC, dI)) (ci := 1) (v := .ref h1) (C := RX1) (T := TX1) (N := 10) hx hb hts inX1 hown hK hP 0 rfl rfl 0 (by decide) (hts _ q_fl_X1_10) (fun _ h9 => h9) rfl dX1_begin_8 ?_
  refine lv_iconst (v := nI 0) hx hb dX1_begin_11 (by decide) ?_
  refine call_Vv (As := [.int (nI 0)]) (wr := [(h0, .inr (1, [.ref h1, .ref h2, .ref h3, .ref h4, .int (nI n), .int (nI wn), .int (nI t), .int (nI tc), .int (nI sc), .int (bI uw)])), (h2, .inr (0, [.ref h6, .int (nI c2)])), (h3, .inl (cI, 5, .inl (fun k => nI (s k)))), (h4, .inl (cI, 1024, .inl (fun k => nI (ow k)))), (h6, .inl (cI, 243, .inl (fun k => nI (tf k))))]) (rest := []) S (m_X0_add h1 h5 0 hf 0 (by omega)) g_X1_X0_add hd_X0_add ⟨Nat.le_of_ble_eq_true rfl, Nat.le_of_ble_eq_true rfl⟩ ⟨Nat.zero_le _, Nat.zero_le _⟩ hP hD hK hS hZ [1, 5] [0, 2, 3, 4, 6] rfl rfl (by decide) 0 rfl rfl hl.1 rfl (Nat.le_of_ble_eq_true rfl) dX1_begin_12 (fun u H locs hq hP hD hS => ?_)
  obtain rfl := hq
  have hP := hP.sub (ws' := gW cI h0 h1 h2 h3 h4 h5 h6 h1 h2 n wn t tc sc uw (0 + 1) c2 s ow (upN hf 0 0) tf) [0, 5, 1, 2, 3, 6, 4] rfl
  have hD := hD.sub (ws' := gW cI h0 h1 h2 h3 h4 h5 h6 h1 h2 n wn t tc sc uw (0 + 1) c2 s ow (upN hf 0 0) tf) [0, 5, 1, 2, 3, 6, 4] (by decide) rfl
  refine lv_iconst (v := nI 0) hx hb dX1_begin_15 (by decide) ?_
  refine lv_istore_n (lv' := [(1, .int (nI 0)), (0, .ref h0)]) hx hb dX1_begin_16 rfl hl (by decide) rfl (fun ls hl => ?_)
  have lp17 : ∀ (kf : Nat) (i : Nat) (k : Nat) (g : Nat → Nat), n < i + kf → (i ≤ n) → (k = 3 ^ i) → (Lof g k = canL i) → ∀ (H : Heap) (locs : List Loc), va_P (dC, dI) vwCl (gW cI h0 h1 h2 h3 h4 h5 h6 h1 h2 n wn t tc sc uw k c2 s ow g tf) H → va_D (wIn (gW cI h0 h1 h2 h3 h4 h5 h6 h1 h2 n wn t tc sc uw c1 c2 s ow hf tf)) (gW cI h0 h1 h2 h3 h4 h5 h6 h1 h2 n wn t tc sc uw k c2 s ow g tf) → va_S (wIn (gW cI h0 h1 h2 h3 h4 h5 h6 h1 h2 n wn t tc sc uw c1 c2 s ow hf tf)) sx.heap H locs → ∀ ls : Array Slot, lv_has ls 2 [(1, .int (nI i)), (0, .ref h0)] → W pr l ev (rmB 2 45) sx mi ag bl me cd H locs 0 0 Q (F0 mi 17 ls []) := by
    intro kf
    induction kf with
    | zero => intro i k g hkf hi hk hL; exact absurd hkf (by omega)
    | succ kf ih17 =>
      intro i k g hkf hi hk hL H locs hP hD hS ls hl
      refine lv_iload_n hx hb dX1_begin_17 rfl (lv_at hl 0 rfl) ?_
      refine lv_aload_n hx hb dX1_begin_18 rfl (lv_at hl 1 rfl) ?_
      refine va_get (D := (dC, dI)) (ci := 1) (v := .int (nI n)) (C := RX1) (T := TX1) (N := 10) hx hb hts inX1 hown hK hP 0 rfl rfl 4 (by decide) (hts _ q_fl_X1_26) (fun _ h9 => h9) rfl dX1_begin_19 ?_
      refine icN_ge (tgt := 36) hx hb dX1_begin_22 (by decide) (by omega) (by omega) (fun c_22 => ?_) (fun c_22 => ?_)
      · refine lv_aload_n hx hb dX1_begin_36 rfl (lv_at hl 1 rfl) ?_
        refine lv_iconst (v := nI 0) hx hb dX1_begin_37 (by decide) ?_
        refine va_put (D := (dC, dI)) (ci := 1) (v := .int (nI 0)) (ty := .int) (C := RX1) (T := TX1) (N := 10) hx hb hts inX1 tyX1 tyX1_ok nmX1 hown hK hP hD hS 0 rfl rfl 6 (by decide) (hts _ q_fl_X1_33) (fun _ h9 => h9) rfl (by decide +kernel) rfl rfl (Nat.le_of_ble_eq_true rfl) dX1_begin_38 (fun H locs hP hD hS => ?_)
        have hP : va_P (dC, dI) vwCl (gW cI h0 h1 h2 h3 h4 h5 h6 h1 h2 n wn 0 tc sc uw k c2 s ow g tf) H := hP
        have hD : va_D (wIn (gW cI h0 h1 h2 h3 h4 h5 h6 h1 h2 n wn t tc sc uw c1 c2 s ow hf tf)) (gW cI h0 h1 h2 h3 h4 h5 h6 h1 h2 n wn 0 tc sc uw k c2 s ow g tf) := hD
        refine lv_aload_n hx hb dX1_begin_41 rfl (lv_at hl 1 rfl) ?_
        refine lv_iconst (v := nI 0) hx hb dX1_begin_42 (by decide) ?_
        refine va_put (D := (dC, dI)) (ci := 1) (v := .int (nI 0)) (ty := .int) (C := RX1) (T := TX1) (N := 10) hx hb hts inX1 tyX1 tyX1_ok nmX1 hown hK hP hD hS 0 rfl rfl 7 (by decide) (hts _ q_fl_X1_36) (fun _ h9 => h9) rfl (by decide +kernel) rfl rfl (Nat.le_of_ble_eq_true rfl) dX1_begin_43 (fun H locs hP hD hS => ?_)
        have hP : va_P (dC, dI) vwCl (gW cI h0 h1 h2 h3 h4 h5 h6 h1 h2 n wn 0 0 sc uw k c2 s ow g tf) H := hP
        have hD : va_D (wIn (gW cI h0 h1 h2 h3 h4 h5 h6 h1 h2 n wn t tc sc uw c1 c2 s ow hf tf)) (gW cI h0 h1 h2 h3 h4 h5 h6 h1 h2 n wn 0 0 sc uw k c2 s ow g tf) := hD
        refine lv_aload_n hx hb dX1_begin_46 rfl (lv_at hl 1 rfl) ?_
        refine lv_iconst (v := nI 0) hx hb dX1_begin_47 (by decide) ?_
        refine va_put (D := (dC, dI)) (ci := 1) (v := .int (nI 0)) (ty := .int) (C := RX1) (T := TX1) (N := 10) hx hb hts inX1 tyX1 tyX1_ok nmX1 hown hK hP hD hS 0 rfl rfl 8 (by decide) (hts _ q_fl_X1_39) (fun _ h9 => h9) rfl (by decide +kernel) rfl rfl (Nat.le_of_ble_eq_true rfl) dX1_begin_48 (fun H locs hP hD hS => ?_)
        have hP : va_P (dC, dI) vwCl (gW cI h0 h1 h2 h3 h4 h5 h6 h1 h2 n wn 0 0 0 uw k c2 s ow g tf) H := hP
        have hD : va_D (wIn (gW cI h0 h1 h2 h3 h4 h5 h6 h1 h2 n wn t tc sc uw c1 c2 s ow hf tf)) (gW cI h0 h1 h2 h3 h4 h5 h6 h1 h2 n wn 0 0 0 uw k c2 s ow g tf) := hD
        refine lv_aload_n hx hb dX1_begin_51 rfl (lv_at hl 1 rfl) ?_
        refine lv_iconst (v := nI 0) hx hb dX1_begin_52 (by decide) ?_
        refine W_i (y := bI false) rfl ?_
        refine va_put (D := (dC, dI)) (ci := 1) (v := .int (bI false)) (ty := .boolean) (C := RX1) (T := TX1) (N := 10) hx hb hts inX1 tyX1 tyX1_ok nmX1 hown hK hP hD hS 0 rfl rfl 9 (by decide) (hts _ q_fl_X1_42) (fun _ h9 => h9) rfl (by decide +kernel) rfl rfl (Nat.le_of_ble_eq_true rfl) dX1_begin_53 (fun H locs hP hD hS => ?_)
        have hP : va_P (dC, dI) vwCl (gW cI h0 h1 h2 h3 h4 h5 h6 h1 h2 n wn 0 0 0 false k c2 s ow g tf) H := hP
        have hD : va_D (wIn (gW cI h0 h1 h2 h3 h4 h5 h6 h1 h2 n wn t tc sc uw c1 c2 s ow hf tf)) (gW cI h0 h1 h2 h3 h4 h5 h6 h1 h2 n wn 0 0 0 false k c2 s ow g tf) := hD
        refine lv_aload_n hx hb dX1_begin_56 rfl (lv_at hl 1 rfl) ?_
        refine va_get (D := (dC, dI)) (ci := 1) (v := .ref h1) (C := RX1) (T := TX1) (N := 10) hx hb hts inX1 hown hK hP 0 rfl rfl 0 (by decide) (hts _ q_fl_X1_10) (fun _ h9 => h9) rfl dX1_begin_57 ?_
        refine call_Vp (As := []) (rest := []) S (m_X0_count h1 h5 k g) g_X1_X0_count hd_X0_count ⟨Nat.le_of_ble_eq_true rfl, Nat.le_of_ble_eq_true rfl⟩ ⟨Nat.zero_le _, Nat.zero_le _⟩ hP hD hK hS hZ [1, 5] rfl (by decide) 0 rfl rfl hl.1 rfl (Nat.le_of_ble_eq_true rfl) dX1_begin_60 (fun r H locs hq hP hS => ?_)
        obtain rfl := hq
        exact ret _ (gW cI h0 h1 h2 h3 h4 h5 h6 h1 h2 n wn 0 0 0 false k c2 s ow g tf) _ _ _ _ dX1_begin_63 rfl ⟨by rw [hk, show i = n by omega], g, by rw [hk, show i = n by omega], by rw [← show i = n by omega, ← hk]; exact hL⟩ (List.Perm.refl _) hP hS
      · refine lv_aload_n hx hb dX1_begin_25 rfl (lv_at hl 1 rfl) ?_
        refine lv_iload_n hx hb dX1_begin_26 rfl (lv_at hl 0 rfl) ?_
        refine call_Vv (As := [.int (nI i)]) (wr := []) (rest := []) S (m_X1_openColoursOf h0 h1 h2 h3 h4 h5 h6 h2 n wn t tc sc uw k c2 s ow g tf i (by omega) (by rw [hk]; exact p3_81 i (by omega))) g_X1_X1_openColoursOf hd_X1_openColoursOf ⟨Nat.le_of_ble_eq_true rfl, Nat.le_of_ble_eq_true rfl⟩ ⟨Nat.zero_le _, Nat.zero_le _⟩ hP hD hK hS hZ [0, 1, 2, 3, 4, 5, 6] [] rfl rfl (by decide) 0 rfl rfl hl.1 rfl (Nat.le_of_ble_eq_true rfl) dX1_begin_27 (fun u H locs hq hP hD hS => ?_)
        obtain ⟨g4, rfl, hL4⟩ := hq
        have hP : va_P (dC, dI) vwCl (gW cI h0 h1 h2 h3 h4 h5 h6 h1 h2 n wn t tc sc uw (3 * k) c2 s ow g4 tf) H := hP
        have hD : va_D (wIn (gW cI h0 h1 h2 h3 h4 h5 h6 h1 h2 n wn t tc sc uw c1 c2 s ow hf tf)) (gW cI h0 h1 h2 h3 h4 h5 h6 h1 h2 n wn t tc sc uw (3 * k) c2 s ow g4 tf) := hD
        refine lv_iinc (v := nI (i + 1)) (lv' := [(1, .int (nI (i + 1))), (0, .ref h0)]) hx hb dX1_begin_30 hl (k := 0) rfl (nI_add _ _) (by decide) rfl (fun ls hl => ?_)
        refine lv_goto (tgt := 17) hx hb dX1_begin_33 (by decide) ?_
        exact ih17 (i + 1) _ _ (by omega) (by omega) (by rw [hk, Nat.pow_succ]; omega) (by rw [hL4, hL]; rfl) _ _ hP hD hS _ (lv_sub hl [0, 1] rfl)
  exact lp17 (n + 1) 0 _ _ (by omega) (by omega) rfl (by rfl) _ _ hP hD hS _ (lv_sub hl [0, 1] rfl)





end
end
section
/-! worlds with rows: blocks of cells in a number that is no numeral -/
def rB (f : Nat → va_E) (ad : Nat → Nat) (m : Nat) : va_W := (List.range m).map (fun w => (ad w, f w))
theorem rB_get {f : Nat → va_E} {ad : Nat → Nat} {m w : Nat} (h : w < m) : (rB f ad m)[w]? = some (ad w, f w) := by
  rw [rB, List.getElem?_map, List.getElem?_range h]; rfl
theorem rB_mem {f : Nat → va_E} {ad : Nat → Nat} {m w : Nat} (h : w < m) : (ad w, f w) ∈ rB f ad m := List.mem_map.mpr ⟨w, List.mem_range.mpr h, rfl⟩
theorem rB_len (f : Nat → va_E) (ad : Nat → Nat) (m : Nat) : (rB f ad m).length = m := by simp [rB]
theorem rB_fst (f : Nat → va_E) (ad : Nat → Nat) (m : Nat) : (rB f ad m).map (·.1) = (List.range m).map ad := by
  rw [rB, List.map_map]; rfl
theorem rB_congr {f g : Nat → va_E} {ad : Nat → Nat} {m : Nat} (h : ∀ w, w < m → f w = g w) : rB f ad m = rB g ad m := by
  refine List.map_congr_left (fun w hw => ?_)
  rw [h w (List.mem_range.mp hw)]
theorem rB_set {f : Nat → va_E} {ad : Nat → Nat} {m w : Nat} {e : va_E} (h : w < m) : (rB f ad m).set w (ad w, e) = rB (upN f w e) ad m := by
  apply List.ext_getElem?
  intro j
  by_cases hj : j = w
  · subst hj
    rw [List.getElem?_set_self (by rw [rB_len]; exact h), rB_get h, upN_s]
  · rw [List.getElem?_set_ne (Ne.symm hj)]
    by_cases hl : j < m
    · rw [rB_get hl, rB_get hl, upN_n _ _ hj]
    · rw [List.getElem?_eq_none (by rw [rB_len]; omega), List.getElem?_eq_none (by rw [rB_len]; omega)]
theorem rB_pl (e : va_E) (f : Nat → va_E) (r : Nat → Nat) (N : Nat) : va_pl ([] ++ (List.range N).map r) (vr_up f ((List.range N).map r) e) = rB (fun _ => e) r N := by
  simp only [va_pl, List.nil_append, List.map_map, rB]
  refine List.map_congr_left (fun w hw => ?_)
  simp only [Function.comp]
  rw [vr_up_in (List.mem_map.mpr ⟨w, hw, rfl⟩)]
abbrev eZ (cZ : ClassId) (n : Nat) (f : Nat → Bool) : va_E := .inl (cZ, n, .inl (fun k => bI (f k)))
abbrev eI (cI : ClassId) (n : Nat) (f : Nat → Nat) : va_E := .inl (cI, n, .inl (fun k => nI (f k)))
abbrev eQ (cA : ClassId) (n : Nat) (ad : Nat → Nat) : va_E := .inl (cA, n, .inr (.inr (.inr (.inr (fun i => if i < n then some (ad i) else none)))))
abbrev sO (b0 n tn sl : Nat) (bg : Bool) (b1 b2 b3 b4 : Nat) : Nat × va_E := (b0, .inr (2, [.int (nI n), .int (nI tn), .int (nI sl), .int (bI bg), .ref b1, .ref b2, .ref b3, .ref b4]))
/-- the law's own model: the object, hats, who sees whom, the ways, which are open -/
abbrev sW (cI cZ cS cW : ClassId) (b0 b1 b2 b3 b4 n m tn sl : Nat) (bg : Bool) (ht rs : Nat → Nat) (sn : Nat → Nat → Bool) (rw : Nat → Nat) (wy : Nat → Nat → Nat) (o : Nat → Bool) : va_W :=
  [(b0, .inr (2, [.int (nI n), .int (nI tn), .int (nI sl), .int (bI bg), .ref b1, .ref b2, .ref b3, .ref b4])), (b1, .inl (cI, n, .inl (fun k => nI (ht k)))), (b2, eQ cS n rs), (b3, eQ cW m rw), (b4, .inl (cZ, m, .inl (fun k => bI (o k))))] ++ (rB (fun p => eZ cZ n (sn p)) rs n ++ rB (fun w => eI cI n (wy w)) rw m)
theorem eZ_up {cZ : ClassId} {n : Nat} {sn : Nat → Nat → Bool} {p k : Nat} {v : Bool} : upN (fun p => eZ cZ n (sn p)) p (eZ cZ n (upN (sn p) k v)) = fun q => eZ cZ n (upN sn p (upN (sn p) k v) q) := by
  funext q
  by_cases h : q = p
  · subst h; simp [upN_s]
  · simp [upN_n _ _ h]
theorem eI_up {cI : ClassId} {n : Nat} {wy : Nat → Nat → Nat} {p k : Nat} {v : Nat} : upN (fun p => eI cI n (wy p)) p (eI cI n (upN (wy p) k v)) = fun q => eI cI n (upN wy p (upN (wy p) k v) q) := by
  funext q
  by_cases h : q = p
  · subst h; simp [upN_s]
  · simp [upN_n _ _ h]
theorem va_P_iff {D : va_G} {cl : List vw_C} {ws : va_W} {H : Heap} : va_P D cl ws H ↔ ∀ q ∈ ws, va_at D cl q H := by
  constructor
  · intro h q hq
    obtain ⟨k, hk⟩ := List.getElem?_of_mem hq
    exact h k q hk
  · intro h k q hk
    exact h q (List.mem_of_getElem? hk)
theorem va_P.one {D : va_G} {cl : List vw_C} {ws : va_W} {H : Heap} (h : va_P D cl ws H) {q : Nat × va_E} (hq : q ∈ ws) : va_P D cl [q] H :=
  va_P_iff.mpr (fun x hx => by rw [List.mem_singleton.mp hx]; exact va_P_iff.mp h q hq)
theorem va_P.sl {D : va_G} {cl : List vw_C} {ws u : va_W} {H : Heap} (h : va_P D cl ws H) (hs : u.Sublist ws) : va_P D cl u H := va_P_iff.mpr (fun q hq => va_P_iff.mp h q (hs.subset hq))
theorem va_D.sl {A : Nat → Prop} {ws u : va_W} (h : va_D A ws) (hs : u.Sublist ws) : va_D A u := by
  rw [va_D_iff] at h ⊢
  exact ⟨(hs.map _).nodup h.1, fun a ha => h.2 a ((hs.map _).subset ha)⟩
theorem va_P.pm {D : va_G} {cl : List vw_C} {ws u : va_W} {H : Heap} (h : va_P D cl ws H) (hs : u.Perm ws) : va_P D cl u H := va_P_iff.mpr (fun q hq => va_P_iff.mp h q (hs.mem_iff.mp hq))
theorem va_D.pm {A : Nat → Prop} {ws u : va_W} (h : va_D A ws) (hs : u.Perm ws) : va_D A u := va_D_same h (hs.map _)
/-- behind a call over the last part of the world -/
theorem j_part {A0 : Nat → Prop} {D : va_G} {wr wc w1 : va_W} {H H1 : Heap} (hP : va_P D vwCl (wr ++ wc) H) (hD : va_D A0 (wr ++ wc)) (B : Nat → Prop) (hB : ∀ q, B q → A0 q) (hBw : ∀ q, q < H.size → B q → wIn wc q) (hk : ∀ q : Nat, q < H.size → ¬ B q → H1[q]? = H[q]?) (hP1 : va_P D vwCl w1 H1) (hD1 : va_D B w1) : va_P D vwCl (wr ++ w1) H1 ∧ va_D A0 (wr ++ w1) := by
  have hwr : ∀ x ∈ wr, x.1 < H.size ∧ ¬ wIn wc x.1 := by
    intro x hx
    refine ⟨(va_P_iff.mp hP x (List.mem_append_left _ hx)).lt, fun hq => ?_⟩
    have hn := (va_D_iff.mp hD).1
    rw [List.map_append] at hn
    exact (List.nodup_append.mp hn).2.2 x.1 (List.mem_map.mpr ⟨x, hx, rfl⟩) x.1 hq rfl
  refine ⟨va_P_iff.mpr (fun x hx => ?_), va_D.app (hD.sl (List.sublist_append_left wr wc)) (hD1.weaken (fun _ q _ h => hB _ h)) (fun i j p q hi hj he => ?_)⟩
  · rcases List.mem_append.mp hx with h | h
    · obtain ⟨h1, h2⟩ := hwr x h
      exact (va_P_iff.mp hP x (List.mem_append_left _ h)).kept (hk x.1 h1 (fun hb => h2 (hBw _ h1 hb)))
    · exact va_P_iff.mp hP1 x h
  · obtain ⟨h1, h2⟩ := hwr p (List.mem_of_getElem? hi)
    have hb : B q.1 := hD1.2 j q hj
    rw [← he] at hb
    exact h2 (hBw _ h1 hb)
theorem va_A_lt {wc : va_W} {sz q : Nat} (h : va_A wc sz q) (hq : q < sz) : wIn wc q := by
  rcases h with ⟨k, e, hk⟩ | h
  · exact wIn_of hk
  · omega
theorem my_sameS {A0 : Nat → Prop} {D : va_G} {ws wc : va_W} {H H1 : Heap} (hP : va_P D vwCl ws H) (hD : va_D A0 ws) (hs : wc.Sublist ws) (hk : ∀ q : Nat, q < H.size → ¬ wIn wc q → H1[q]? = H[q]?) (hP1 : va_P D vwCl wc H1) : va_P D vwCl ws H1 := by
  refine va_P_iff.mpr (fun q hq => ?_)
  by_cases hw : wIn wc q.1
  · obtain ⟨x, hx, he⟩ := List.mem_map.mp hw
    obtain ⟨i, hi⟩ := List.getElem?_of_mem (hs.subset hx)
    obtain ⟨j, hj⟩ := List.getElem?_of_mem hq
    have := hD.1 i j x q hi hj he
    subst this
    rw [hi] at hj
    cases hj
    exact va_P_iff.mp hP1 _ hx
  · exact (va_P_iff.mp hP q hq).kept (hk q.1 (va_P_iff.mp hP q hq).lt hw)
theorem wIn_sub {A0 : Nat → Prop} {ws wc : va_W} (hD : va_D A0 ws) (hs : wc.Sublist ws) : ∀ q, wIn wc q → A0 q := by
  intro q hq
  obtain ⟨x, hx, rfl⟩ := List.mem_map.mp hq
  obtain ⟨k, hk⟩ := List.getElem?_of_mem (hs.subset hx)
  exact hD.2 k x hk
/-! methods that make cells -/
abbrev rmG (f lo mc ms : Nat) : Room := { frames := f, cells := mc, slots := ms, locals := lo }
def cPn (sz : Nat) (D : va_G) (ty : List (ClassId × FieldType)) (av : List Value) (w : va_W) : Array Value → State → Prop := va_Pc av (fun U => U.heap.size = sz ∧ va_P D vwCl w U.heap ∧ va_K D vwCl ty U ∧ va_D (fun _ => True) w ∧ zOK U)
theorem cPn_blind {sz : Nat} {D : va_G} {ty : List (ClassId × FieldType)} {av : List Value} {w : va_W} : FrameBlind (cPn sz D ty av w) := fun a U g mk q => by
  obtain ⟨q0, qs, qP, qK, qD, qZ⟩ := q
  exact ⟨q0, qs, qP, va_K.moved (u := U) (U := U.calling g mk a) (Vm.Alike.refl U.vm) qK, qD, zOK.warm (s := U) (U := U.calling g mk a) (State.WarmedH.refl U) qZ⟩
def gB (D : va_G) (w : va_W) (sz : Nat) : va_W → State → Prop := fun u t => va_P D vwCl u t.heap ∧ va_D (va_A w sz) u
abbrev Gv (l : Launch) (y : MethodName) (ws : List Cond) (fr lo mc ms sz : Nat) (D : va_G) (ty : List (ClassId × FieldType)) (av : List Value) (w : va_W) (post : va_W → Prop) : Prop := Met l y ws (rmG fr lo mc ms) (cPn sz D ty av w) (va_Qv post (gB D w sz) (va_A w sz)) mc ms (va_A w sz)
abbrev Gi (l : Launch) (y : MethodName) (ws : List Cond) (fr lo mc ms sz : Nat) (D : va_G) (ty : List (ClassId × FieldType)) (av : List Value) (w : va_W) (post : Int32 → va_W → Prop) : Prop := Met l y ws (rmG fr lo mc ms) (cPn sz D ty av w) (va_Qi post (gB D w sz) (va_A w sz)) mc ms (va_A w sz)
theorem q_oi_X0 : Cond.methodLink RX0 3 Lib.objectInit ∈ bw := by decide +kernel
theorem q_oi_X1 : Cond.methodLink RX1 1 Lib.objectInit ∈ bw := by decide +kernel
theorem q_oi_X2 : Cond.methodLink RX2 1 Lib.objectInit ∈ bw := by decide +kernel
theorem q_oi_im : Cond.instanceMethod Lib.objectInit ∈ bw := by decide +kernel
theorem q_oi_c : Cond.code Lib.objectInit ⟨#[0xb1]⟩ 1 none ∈ bw := by decide +kernel
section
variable {p : Program} {l : Launch} {e : Env} {R : Room} {s : State} {m : MethodId} {args : Array Value} {below : List Frame} {meth : Method} {c : Code} {H : Heap} {locs : List Loc} {cells slots : Nat} {Q : State → Prop}
variable {pc : Nat} {ls : Array Slot} {rest st0 : List Value} {cc : ByteArray} {D : va_G} {cl : List vw_C} {A : Nat → Prop} {a : Nat} {tys : List (ClassId × FieldType)} {ws : va_W} {H0 : Heap}
theorem ra_of {U : State} {cA : ClassId} {ty : FieldType} (hp : ty = .int ∨ ty = .boolean ∨ ty = .array .int ∨ ty = .array .boolean) (h : va_RA U cA ty) : U.vm.findClass ("[" ++ ty.toString) = some cA := by
  rcases hp with rfl | rfl | rfl | rfl <;> exact h
/-- a new row, put behind the part P of the world -/
theorem my_newa (hexec : p.tables.exec = Jvm.exec) (hb : c.code = cc) {atype : ArrayType} (harr : (Cond.arrayClass (newarray.typeOf atype)).before args s = true) {ty : FieldType} (hty : newarray.typeOf atype = ty) (hK : va_K D cl tys s) (t0 : Nat) {cI : ClassId} (ht0 : tys[t0]? = some (cI, ty)) (P T : va_W) (hP : va_P D cl (P ++ T) H) (hD : va_D A (P ++ T)) (hS : va_S A H0 H locs) (hA : ∀ q, H0.size ≤ q → A q)
    {n : Int32} {N' : Nat} {a0 : vp_A} (ha : ∀ cA : ClassId, vp_cell cA a0 = arrV cA N' (fun _ => defaultValue ty)) (hn : ¬ n < 0) (hN : n.toNatClampNeg = N') (hbytes : N' * componentBytes ty ≤ 536870912) (hcells : cells + 1 ≤ R.cells) (hslots : slots + N' ≤ R.slots) (hdg : decode cc pc = .ok (.newarray atype, 2)) (hprim : ty = .int ∨ ty = .boolean ∨ ty = .array .int ∨ ty = .array .boolean)
    (kk : ∀ (q : Nat) (H1 : Heap), va_P D cl (P ++ (q, .inl (cI, a0)) :: T) H1 → va_D A (P ++ (q, .inl (cI, a0)) :: T) → va_S A H0 H1 locs →
      W p l e R s m args below meth c H1 locs (cells + 1) (slots + N') Q (F0 m (pc + 2) ls (.ref q :: rest))) : W p l e R s m args below meth c H locs cells slots Q (F0 m pc ls (.int n :: rest)) := by
  refine va_newa hexec hb harr hty hK hP hD hS hA ha hn hN hbytes hcells hslots hdg (fun q cA H1 hK1 hP1 hD1 hS1 => ?_)
  have e1 := ra_of hprim (hK.2 t0 _ ht0).2
  have hk1 : (tys ++ [(cA, ty)])[tys.length]? = some (cA, ty) := by simp
  have e2 := ra_of hprim (hK1.2 tys.length _ hk1).2
  have : cA = cI := Option.some.inj (e2.symm.trans e1)
  subst this
  have hp : (P ++ (q, .inl (cA, a0)) :: T).Perm ((P ++ T) ++ [(q, .inl (cA, a0))]) := by
    rw [List.append_assoc]
    exact (List.perm_append_comm (l₁ := [(q, .inl (cA, a0))]) (l₂ := T)).append_left P
  exact kk q H1 (hP1.pm hp) (hD1.pm hp) hS1
/-- a row of rows: new T[n][k] -/
theorem my_mna {X T : va_W} (hexec : p.tables.exec = Jvm.exec) (hb : c.code = cc) {own : String} {index : Nat} {ty : FieldType} (t0 t1 : Nat) {cA cy : ClassId} (ht0 : tys[t0]? = some (cA, .array ty)) (ht1 : tys[t1]? = some (cy, ty)) (hprim : ty = .int ∨ ty = .boolean) (hown : s.vm.findClass own = some m.cls) (hclink : (Cond.classLink own index ("[" ++ (FieldType.array ty).toString)).before args s = true) (hover : va_AOA ty s) (harr : (Cond.arrayClass ty).before args s = true)
    (hK : va_K D cl tys s) (hP : va_P D cl (X ++ T) H) (hD : va_D A (X ++ T)) (hS : va_S A H0 H locs) (hA : ∀ q, H0.size ≤ q → A q) {n k : Int32} {N' K' : Nat} {z : vp_A} (hn : ¬ n < 0) (hk : ¬ k < 0) (hN : n.toNatClampNeg = N') (hM : k.toNatClampNeg = K')
    (hb1 : N' ≤ 1000) (hb2 : K' ≤ 1000) (hcells : cells + (1 + N') ≤ R.cells) (hslots : slots + (N' + N' * K') ≤ R.slots) (hz : ∀ c : ClassId, vp_cell c z = arrV c K' (fun _ => defaultValue ty)) (hdg : decode cc pc = .ok (.multianewarray index 2, 4))
    (kk : ∀ (q : Nat) (r : Nat → Nat) (H1 : Heap), va_P D cl ((X ++ [(q, eQ cA N' r)]) ++ (T ++ rB (fun _ => .inl (cy, z)) r N')) H1 → va_D A ((X ++ [(q, eQ cA N' r)]) ++ (T ++ rB (fun _ => .inl (cy, z)) r N')) → va_S A H0 H1 locs →
      W p l e R s m args below meth c H1 locs (cells + 1 + N') (slots + N' + N' * K') Q (F0 m (pc + 4) ls (.ref q :: rest))) : W p l e R s m args below meth c H locs cells slots Q (F0 m pc ls (.int k :: .int n :: rest)) := by
  have hcy : s.vm.findClass (FieldType.array ty).toString = some cy := by
    have h := (hK.2 t1 _ ht1).2
    rcases hprim with rfl | rfl <;> exact h
  have hcb : componentBytes ty ≤ 8 := by cases ty <;> simp [componentBytes]
  refine va_mna (X := X ++ T) (L := []) (f := fun _ => .inl (cy, z)) (z := z) hexec hb hown hclink hover harr hcy hK (by rw [va_pl, List.map_nil, List.append_nil]; exact hP) (by rw [va_pl, List.map_nil, List.append_nil]; exact hD) hS hA hn hk hN hM (by omega) (Nat.le_trans (Nat.mul_le_mul hb2 hcb) (by omega)) (by omega) (by rcases hprim with rfl | rfl <;> rfl) (by rcases hprim with rfl | rfl <;> rfl) hcells hslots (fun c => by rw [hz]; exact arrV_new _ _ _) hdg (fun q r cA2 H1 _ _ hK1 hP1 hD1 hS1 => ?_)
  have e1 : s.vm.findClass ("[" ++ (FieldType.array ty).toString) = some cA := by
    have h := (hK.2 t0 _ ht0).2
    rcases hprim with rfl | rfl <;> exact h
  have hk1 : (tys ++ [(cA2, .array ty)])[tys.length]? = some (cA2, .array ty) := by simp
  have e2 : s.vm.findClass ("[" ++ (FieldType.array ty).toString) = some cA2 := by
    have h := (hK1.2 tys.length _ hk1).2
    rcases hprim with rfl | rfl <;> exact h
  have : cA2 = cA := Option.some.inj (e2.symm.trans e1)
  subst this
  rw [rB_pl] at hP1 hD1
  have hp : ((X ++ [(q, eQ cA2 N' r)]) ++ (T ++ rB (fun _ => .inl (cy, z)) r N')).Perm (((X ++ T) ++ [(q, eQ cA2 N' r)]) ++ rB (fun _ => .inl (cy, z)) r N') := by
    rw [← List.append_assoc]
    refine List.Perm.append_right _ ?_
    rw [List.append_assoc, List.append_assoc]
    exact (List.perm_append_comm (l₁ := [(q, eQ cA2 N' r)]) (l₂ := T)).append_left X
  exact kk q r H1 (hP1.pm hp) (hD1.pm hp) hS1
/-- an element of a row of rows -/
theorem aa_ld (hexec : p.tables.exec = Jvm.exec) (hb : c.code = cc) (hK : va_K D cl tys s) (hP : va_P D cl ws H) (q0 t0 : Nat) {cA : ClassId} {ty : FieldType} {n : Nat} {ad : Nat → Nat} (ha : ws[q0]? = some (a, eQ cA n ad)) (ht : tys[t0]? = some (cA, .array ty)) {j : Nat} (hj : j < n) (hn : n < 2 ^ 31) (hdg : decode cc pc = .ok (.aaload, 1))
    (kk : W p l e R s m args below meth c H locs cells slots Q (F0 m (pc + 1) ls (.ref (ad j) :: rest))) : W p l e R s m args below meth c H locs cells slots Q (F0 m pc ls (.int (nI j) :: .ref a :: rest)) := by
  have hlt : (nI j).toNatClampNeg < n := by rw [nI_clamp (by omega)]; exact hj
  exact W.aald (v := .ref (ad j)) (ty := .array ty) hexec hb (hP q0 _ ha) ((hK.2 t0 _ ht).1 n (fun j => va_rf (if j < n then some (ad j) else none))) rfl (fun q => by cases q) (by show ¬ ((nI j) < 0 ∨ (arrV _ _ _).slots.size ≤ _); rw [arrV_size]; exact vp_in_nI hj hn) (by show (arrV _ _ _).slots[_]? = _; rw [arrV_read _ _ hlt, nI_clamp (by omega)]; simp [va_rf, hj]) rfl rfl hdg kk
/-- an int row of the last block is written -/
theorem ri_st {X T : va_W} (hexec : p.tables.exec = Jvm.exec) (hb : c.code = cc) (hK : va_K D cl tys s) {cI : ClassId} {n m2 : Nat} {wy : Nat → Nat → Nat} {ad : Nat → Nat} (hP : va_P D cl (X ++ (T ++ rB (fun w => eI cI n (wy w)) ad m2)) H) (hD : va_D A (X ++ (T ++ rB (fun w => eI cI n (wy w)) ad m2))) (hS : va_S A H0 H locs) (t0 : Nat) (ht : tys[t0]? = some (cI, .int)) {w j v : Nat} (hw : w < m2) (hj : j < n) (hn : n < 2 ^ 31) (hdg : decode cc pc = .ok (.iastore, 1))
    (kk : ∀ (H1 : Heap) (locs1 : List Loc), va_P D cl (X ++ (T ++ rB (fun u => eI cI n (upN wy w (upN (wy w) j v) u)) ad m2)) H1 → va_D A (X ++ (T ++ rB (fun u => eI cI n (upN wy w (upN (wy w) j v) u)) ad m2)) → va_S A H0 H1 locs1 → W p l e R s m args below meth c H1 locs1 cells slots Q (F0 m (pc + 1) ls rest)) : W p l e R s m args below meth c H locs cells slots Q (F0 m pc ls (.int (nI v) :: .int (nI j) :: .ref (ad w) :: rest)) := by
  have hg : (X ++ (T ++ rB (fun w => eI cI n (wy w)) ad m2))[X.length + (T.length + w)]? = some (ad w, eI cI n (wy w)) := by
    rw [List.getElem?_append_right (by omega), Nat.add_sub_cancel_left, List.getElem?_append_right (by omega), Nat.add_sub_cancel_left, rB_get hw]
  refine ia_st hexec hb hK hP hD hS (X.length + (T.length + w)) t0 hg ht hj hn hdg (fun H1 locs1 hP1 hD1 hS1 => ?_)
  have e : (X ++ (T ++ rB (fun w => eI cI n (wy w)) ad m2)).set (X.length + (T.length + w)) (ad w, .inl (cI, n, .inl (fun k => nI (upN (wy w) j v k)))) = X ++ (T ++ rB (fun u => eI cI n (upN wy w (upN (wy w) j v) u)) ad m2) := by
    rw [List.set_append_right _ _ (by omega), Nat.add_sub_cancel_left, List.set_append_right _ _ (by omega), Nat.add_sub_cancel_left, rB_set hw, ← eI_up]
  rw [e] at hP1 hD1
  exact kk H1 locs1 hP1 hD1 hS1
/-- a truth row of the block behind T is written -/
theorem rz_st {X T B : va_W} (hexec : p.tables.exec = Jvm.exec) (hb : c.code = cc) (hK : va_K D cl tys s) {cZ : ClassId} {n m2 : Nat} {sn : Nat → Nat → Bool} {ad : Nat → Nat} (hP : va_P D cl (X ++ (T ++ (rB (fun w => eZ cZ n (sn w)) ad m2 ++ B))) H) (hD : va_D A (X ++ (T ++ (rB (fun w => eZ cZ n (sn w)) ad m2 ++ B)))) (hS : va_S A H0 H locs) (t0 : Nat) (ht : tys[t0]? = some (cZ, .boolean)) {w j : Nat} {v : Bool} (hw : w < m2) (hj : j < n) (hn : n < 2 ^ 31) (hdg : decode cc pc = .ok (.bastore, 1))
    (kk : ∀ (H1 : Heap) (locs1 : List Loc), va_P D cl (X ++ (T ++ (rB (fun u => eZ cZ n (upN sn w (upN (sn w) j v) u)) ad m2 ++ B))) H1 → va_D A (X ++ (T ++ (rB (fun u => eZ cZ n (upN sn w (upN (sn w) j v) u)) ad m2 ++ B))) → va_S A H0 H1 locs1 → W p l e R s m args below meth c H1 locs1 cells slots Q (F0 m (pc + 1) ls rest)) : W p l e R s m args below meth c H locs cells slots Q (F0 m pc ls (.int (bI v) :: .int (nI j) :: .ref (ad w) :: rest)) := by
  have hg : (X ++ (T ++ (rB (fun w => eZ cZ n (sn w)) ad m2 ++ B)))[X.length + (T.length + w)]? = some (ad w, eZ cZ n (sn w)) := by
    rw [List.getElem?_append_right (by omega), Nat.add_sub_cancel_left, List.getElem?_append_right (by omega), Nat.add_sub_cancel_left, List.getElem?_append_left (by rw [rB_len]; exact hw), rB_get hw]
  refine za_st hexec hb hK hP hD hS (X.length + (T.length + w)) t0 hg ht hj hn hdg (fun H1 locs1 hP1 hD1 hS1 => ?_)
  have e : (X ++ (T ++ (rB (fun w => eZ cZ n (sn w)) ad m2 ++ B))).set (X.length + (T.length + w)) (ad w, .inl (cZ, n, .inl (fun k => bI (upN (sn w) j v k)))) = X ++ (T ++ (rB (fun u => eZ cZ n (upN sn w (upN (sn w) j v) u)) ad m2 ++ B)) := by
    rw [List.set_append_right _ _ (by omega), Nat.add_sub_cancel_left, List.set_append_right _ _ (by omega), Nat.add_sub_cancel_left, List.set_append_left _ _ (by rw [rB_len]; exact hw), rB_set hw, ← eZ_up]
  rw [e] at hP1 hD1
  exact kk H1 locs1 hP1 hD1 hS1
theorem tern_eq (hexec : p.tables.exec = Jvm.exec) (hb : c.code = cc) {b : Bool} {off off2 : Int} (d0 : decode cc pc = .ok (.ifCond .eq off, 3)) (d1 : decode cc (pc + 3) = .ok (.iconst 1, 1)) (d2 : decode cc (pc + 4) = .ok (.goto off2, 3)) (d3 : decode cc (pc + 7) = .ok (.iconst 0, 1)) (h1 : (pc : Int) + off = ((pc + 7 : Nat) : Int)) (h2 : ((pc + 4 : Nat) : Int) + off2 = ((pc + 8 : Nat) : Int))
    (k : W p l e R s m args below meth c H locs cells slots Q (F0 m (pc + 8) ls (.int (bI b) :: rest))) : W p l e R s m args below meth c H locs cells slots Q (F0 m pc ls (.int (bI b) :: rest)) := by
  refine ifB_eq (tgt := pc + 7) hexec hb d0 h1 (fun hc => ?_) (fun hc => ?_)
  · subst hc
    exact lv_iconst (v := bI false) hexec hb d3 (by decide) k
  · subst hc
    exact lv_iconst (v := bI true) hexec hb d1 (by decide) (lv_goto (tgt := pc + 8) hexec hb d2 h2 k)
/-- c ? 1 : 0 as a number -/
theorem tern_n (hexec : p.tables.exec = Jvm.exec) (hb : c.code = cc) {b : Bool} {off off2 : Int} (d0 : decode cc pc = .ok (.ifCond .eq off, 3)) (d1 : decode cc (pc + 3) = .ok (.iconst 1, 1)) (d2 : decode cc (pc + 4) = .ok (.goto off2, 3)) (d3 : decode cc (pc + 7) = .ok (.iconst 0, 1)) (h1 : (pc : Int) + off = ((pc + 7 : Nat) : Int)) (h2 : ((pc + 4 : Nat) : Int) + off2 = ((pc + 8 : Nat) : Int))
    (k : W p l e R s m args below meth c H locs cells slots Q (F0 m (pc + 8) ls (.int (nI (if b = true then 1 else 0)) :: rest))) : W p l e R s m args below meth c H locs cells slots Q (F0 m pc ls (.int (bI b) :: rest)) :=
  tern_eq hexec hb d0 d1 d2 d3 h1 h2 (by rw [bI_n]; exact k)
variable {y : MethodName} {cb : ByteArray} {nL maxL index fr lo mc ms : Nat} {rt : FieldType} {own C : String} {ty : List (ClassId × FieldType)} {A0 : Nat → Prop} {b : Addr} {As : List Value} {wc wr : va_W} {k0 ci N : Nat} {fs : List Value} {T : u_T}
theorem cP_preS {av : List Value} (hK : va_K D vwCl ty s) (hZ : zOK s) (hP : va_P D vwCl wc H) (hD : va_D A0 wc) : ∀ U : State, U.heap = H → s.WarmedH U.vm → cP D ty av wc av.toArray U := fun U hU hW =>
  ⟨rfl, by rw [hU]; exact hP, va_K.moved hW.alike hK, hD.weaken (fun _ _ _ _ => trivial), zOK.warm hW hZ⟩
theorem cPn_preS {av : List Value} (hK : va_K D vwCl ty s) (hZ : zOK s) (hP : va_P D vwCl wc H) (hD : va_D A0 wc) : ∀ U : State, U.heap = H → s.WarmedH U.vm → cPn H.size D ty av wc av.toArray U := fun U hU hW =>
  ⟨rfl, by rw [hU], by rw [hU]; exact hP, va_K.moved hW.alike hK, hD.weaken (fun _ _ _ _ => trivial), zOK.warm hW hZ⟩
/-- a call that only reads, over a part of the world -/
theorem call_VpS {post : Int32 → Prop} (S : CallFix p m c cc nL s args bw own) (hM : Mp l y (Cond.code y cb maxL (some rt) :: bw) fr lo D ty (.ref b :: As) wc post) (hg : GoodIn bw (wsV own index C y (Cond.code y cb maxL (some rt) :: bw)))
    (hd : y.cls = C ∧ y.cls ≠ "java/lang/invoke/MethodHandle" ∧ y.cls ≠ "java/lang/invoke/VarHandle" ∧ (parseMethodDescriptor y.desc).map (fun d => d.parameters.length) = some As.length) (hR : fr + 1 ≤ R.frames ∧ 8 + (maxL + 11) + lo ≤ R.locals) (hroom : cells ≤ R.cells ∧ slots ≤ R.slots)
    (hP : va_P D vwCl ws H) (hD : va_D A0 ws) (hK : va_K D vwCl ty s) (hS : va_S A0 s.heap H locs) (hZ : zOK s) (hsub : wc.Sublist ws)
    (k0 : Nat) (hrec : wc[k0]? = some (b, .inr (ci, fs))) (hc : vwCl[ci]? = some (C, T, N)) (hls : ls.size = nL) (hst : st0 = As.reverse ++ .ref b :: rest) (hrest : (rest.map fun v => v.category).sum ≤ 8) (hdg : decode cc pc = .ok (.invokevirtual index, 3))
    (kk : ∀ (r : Int32) (H1 : Heap) (locs1 : List Loc), post r → va_P D vwCl ws H1 → va_S A0 s.heap H1 locs1 → W p l e R s m args below meth c H1 locs1 cells slots Q (F0 m (pc + 3) ls (.int r :: rest))) :
    W p l e R s m args below meth c H locs cells slots Q (F0 m pc ls st0) := by
  refine va_calli (va_runV (As := As) (rest := rest) S hM (cwV As.length S.2.2.2.2 hg rfl rfl rfl hd hR) ⟨cP_blind, va_recv hK (hP.sl hsub) (ci := ci) (q0 := k0) hc hrec, cP_preS hK hZ (hP.sl hsub) (hD.sl hsub)⟩ rfl rfl hls hst (lv_room hrest) hdg hroom) hS (fun q _ h => wIn_sub hD hsub q h) (wIn_sub hD hsub) (fun r u t H1 locs1 ht hvm hw hB hz1 hk1 hS1 => ?_)
  obtain ⟨hP1, he⟩ := hB
  obtain ⟨rfl, hw⟩ := hw
  rw [ht] at hP1
  exact kk r H1 locs1 hw (my_sameS hP hD hsub hk1 hP1) hS1
/-- a double is read -/
theorem call_VdS {post : UInt64 → va_W → Prop} (S : CallFix p m c cc nL s args bw own) (hM : Md l y (Cond.code y cb maxL (some rt) :: bw) fr lo D ty (.ref b :: As) wc post) (hg : GoodIn bw (wsV own index C y (Cond.code y cb maxL (some rt) :: bw)))
    (hd : y.cls = C ∧ y.cls ≠ "java/lang/invoke/MethodHandle" ∧ y.cls ≠ "java/lang/invoke/VarHandle" ∧ (parseMethodDescriptor y.desc).map (fun d => d.parameters.length) = some As.length) (hR : fr + 1 ≤ R.frames ∧ 8 + (maxL + 11) + lo ≤ R.locals) (hroom : cells ≤ R.cells ∧ slots ≤ R.slots)
    (hP : va_P D vwCl ws H) (hD : va_D A0 ws) (hK : va_K D vwCl ty s) (hS : va_S A0 s.heap H locs) (hZ : zOK s) (hsub : wc.Sublist ws) (hsame : ∀ r u, post r u → u = wc)
    (k0 : Nat) (hrec : wc[k0]? = some (b, .inr (ci, fs))) (hc : vwCl[ci]? = some (C, T, N)) (hls : ls.size = nL) (hst : st0 = As.reverse ++ .ref b :: rest) (hrest : (rest.map fun v => v.category).sum ≤ 8) (hdg : decode cc pc = .ok (.invokevirtual index, 3))
    (kk : ∀ (r : UInt64) (H1 : Heap) (locs1 : List Loc), post r wc → va_P D vwCl ws H1 → va_S A0 s.heap H1 locs1 → W p l e R s m args below meth c H1 locs1 cells slots Q (F0 m (pc + 3) ls (.double r :: rest))) :
    W p l e R s m args below meth c H locs cells slots Q (F0 m pc ls st0) := by
  refine va_calld (va_runV (As := As) (rest := rest) S hM (cwV As.length S.2.2.2.2 hg rfl rfl rfl hd hR) ⟨cP_blind, va_recv hK (hP.sl hsub) (ci := ci) (q0 := k0) hc hrec, cP_preS hK hZ (hP.sl hsub) (hD.sl hsub)⟩ rfl rfl hls hst (lv_room hrest) hdg hroom) hS (fun q _ h => wIn_sub hD hsub q h) (wIn_sub hD hsub) (fun r u t H1 locs1 ht hvm hw hB hz1 hk1 hS1 => ?_)
  obtain ⟨hP1, he⟩ := hB
  have := hsame r u hw
  subst this
  rw [ht] at hP1
  exact kk r H1 locs1 hw (my_sameS hP hD hsub hk1 hP1) hS1
/-- a move of the game, whose cells come first in the world -/
theorem call_ViF {post : Int32 → va_W → Prop} (S : CallFix p m c cc nL s args bw own) (hM : Mi l y (Cond.code y cb maxL (some rt) :: bw) fr lo D ty (.ref b :: As) wc post) (hg : GoodIn bw (wsV own index C y (Cond.code y cb maxL (some rt) :: bw)))
    (hd : y.cls = C ∧ y.cls ≠ "java/lang/invoke/MethodHandle" ∧ y.cls ≠ "java/lang/invoke/VarHandle" ∧ (parseMethodDescriptor y.desc).map (fun d => d.parameters.length) = some As.length) (hR : fr + 1 ≤ R.frames ∧ 8 + (maxL + 11) + lo ≤ R.locals) (hroom : cells ≤ R.cells ∧ slots ≤ R.slots)
    (hP : va_P D vwCl (wc ++ wr) H) (hD : va_D A0 (wc ++ wr)) (hK : va_K D vwCl ty s) (hS : va_S A0 s.heap H locs) (hZ : zOK s)
    (k0 : Nat) (hrec : wc[k0]? = some (b, .inr (ci, fs))) (hc : vwCl[ci]? = some (C, T, N)) (hls : ls.size = nL) (hst : st0 = As.reverse ++ .ref b :: rest) (hrest : (rest.map fun v => v.category).sum ≤ 8) (hdg : decode cc pc = .ok (.invokevirtual index, 3))
    (kk : ∀ (r : Int32) (w1 : va_W) (H1 : Heap) (locs1 : List Loc), post r w1 → va_P D vwCl (w1 ++ wr) H1 → va_D A0 (w1 ++ wr) → va_S A0 s.heap H1 locs1 → W p l e R s m args below meth c H1 locs1 cells slots Q (F0 m (pc + 3) ls (.int r :: rest))) :
    W p l e R s m args below meth c H locs cells slots Q (F0 m pc ls st0) := by
  have hsub : wc.Sublist (wc ++ wr) := List.sublist_append_left wc wr
  refine va_calli (va_runV (As := As) (rest := rest) S hM (cwV As.length S.2.2.2.2 hg rfl rfl rfl hd hR) ⟨cP_blind, va_recv hK (hP.sl hsub) (ci := ci) (q0 := k0) hc hrec, cP_preS hK hZ (hP.sl hsub) (hD.sl hsub)⟩ rfl rfl hls hst (lv_room hrest) hdg hroom) hS (fun q _ h => wIn_sub hD hsub q h) (wIn_sub hD hsub) (fun r u t H1 locs1 ht hvm hw hB hz1 hk1 hS1 => ?_)
  obtain ⟨hP1, he⟩ := hB
  rw [ht] at hP1
  have hw1 : va_D (wIn wc) u := va_D_same (va_D_self (hD.sl hsub)) he
  obtain ⟨hP2, hD2⟩ := j_part (hP.pm List.perm_append_comm) (hD.pm List.perm_append_comm) (wIn wc) (wIn_sub hD hsub) (fun q _ h => h) hk1 hP1 hw1
  exact kk r u H1 locs1 hw (hP2.pm List.perm_append_comm) (hD2.pm List.perm_append_comm) hS1
/-- a call that makes cells, over the last part of the world -/
theorem g_fin {w1 : va_W} {H1 : Heap} (hP : va_P D vwCl (wr ++ wc) H) (hD : va_D A0 (wr ++ wc)) (hS : va_S A0 s.heap H locs) (hA : ∀ q, s.heap.size ≤ q → A0 q) (hk : ∀ q : Nat, q < H.size → ¬ va_A wc H.size q → H1[q]? = H[q]?) (hP1 : va_P D vwCl w1 H1) (hD1 : va_D (va_A wc H.size) w1) : va_P D vwCl (wr ++ w1) H1 ∧ va_D A0 (wr ++ w1) := by
  refine j_part hP hD (va_A wc H.size) (fun q h => ?_) (fun q h1 h2 => va_A_lt h2 h1) hk hP1 hD1
  rcases Nat.lt_or_ge q H.size with h1 | h1
  · exact wIn_sub hD (List.sublist_append_right wr wc) q (va_A_lt h h1)
  · exact hA q (Nat.le_trans hS.1 h1)
theorem g_free (hD : va_D A0 (wr ++ wc)) (hS : va_S A0 s.heap H locs) (hA : ∀ q, s.heap.size ≤ q → A0 q) : ∀ q, va_A wc H.size q → A0 q := by
  intro q h
  rcases Nat.lt_or_ge q H.size with h1 | h1
  · exact wIn_sub hD (List.sublist_append_right wr wc) q (va_A_lt h h1)
  · exact hA q (Nat.le_trans hS.1 h1)
theorem call_VgI {post : Int32 → va_W → Prop} (S : CallFix p m c cc nL s args bw own) (hM : Gi l y (Cond.code y cb maxL (some rt) :: bw) fr lo mc ms H.size D ty (.ref b :: As) wc post) (hg : GoodIn bw (wsV own index C y (Cond.code y cb maxL (some rt) :: bw)))
    (hd : y.cls = C ∧ y.cls ≠ "java/lang/invoke/MethodHandle" ∧ y.cls ≠ "java/lang/invoke/VarHandle" ∧ (parseMethodDescriptor y.desc).map (fun d => d.parameters.length) = some As.length) (hR : fr + 1 ≤ R.frames ∧ 8 + (maxL + 11) + lo ≤ R.locals) (hroom : cells + mc ≤ R.cells ∧ slots + ms ≤ R.slots)
    (hP : va_P D vwCl (wr ++ wc) H) (hD : va_D A0 (wr ++ wc)) (hK : va_K D vwCl ty s) (hS : va_S A0 s.heap H locs) (hA : ∀ q, s.heap.size ≤ q → A0 q) (hZ : zOK s)
    (k0 : Nat) (hrec : wc[k0]? = some (b, .inr (ci, fs))) (hc : vwCl[ci]? = some (C, T, N)) (hls : ls.size = nL) (hst : st0 = As.reverse ++ .ref b :: rest) (hrest : (rest.map fun v => v.category).sum ≤ 8) (hdg : decode cc pc = .ok (.invokevirtual index, 3))
    (kk : ∀ (r : Int32) (w1 : va_W) (H1 : Heap) (locs1 : List Loc), post r w1 → va_P D vwCl (wr ++ w1) H1 → va_D A0 (wr ++ w1) → va_S A0 s.heap H1 locs1 → W p l e R s m args below meth c H1 locs1 (cells + mc) (slots + ms) Q (F0 m (pc + 3) ls (.int r :: rest))) :
    W p l e R s m args below meth c H locs cells slots Q (F0 m pc ls st0) := by
  have hsub : wc.Sublist (wr ++ wc) := List.sublist_append_right wr wc
  refine va_calli (va_runV (As := As) (rest := rest) S hM (cwV As.length S.2.2.2.2 hg rfl rfl rfl hd hR) ⟨cPn_blind, va_recv hK (hP.sl hsub) (ci := ci) (q0 := k0) hc hrec, cPn_preS hK hZ (hP.sl hsub) (hD.sl hsub)⟩ rfl rfl hls hst (lv_room hrest) hdg hroom) hS (fun q _ h => g_free hD hS hA q h) (g_free hD hS hA) (fun r u t H1 locs1 ht hvm hw hB hz1 hk1 hS1 => ?_)
  obtain ⟨hP1, hD1⟩ := hB
  rw [ht] at hP1
  obtain ⟨hP2, hD2⟩ := g_fin hP hD hS hA hk1 hP1 hD1
  exact kk r u H1 locs1 hw hP2 hD2 hS1
theorem call_VgV {post : va_W → Prop} (S : CallFix p m c cc nL s args bw own) (hM : Gv l y (Cond.code y cb maxL none :: bw) fr lo mc ms H.size D ty (.ref b :: As) wc post) (hg : GoodIn bw (wsV own index C y (Cond.code y cb maxL none :: bw)))
    (hd : y.cls = C ∧ y.cls ≠ "java/lang/invoke/MethodHandle" ∧ y.cls ≠ "java/lang/invoke/VarHandle" ∧ (parseMethodDescriptor y.desc).map (fun d => d.parameters.length) = some As.length) (hR : fr + 1 ≤ R.frames ∧ 8 + (maxL + 11) + lo ≤ R.locals) (hroom : cells + mc ≤ R.cells ∧ slots + ms ≤ R.slots)
    (hP : va_P D vwCl (wr ++ wc) H) (hD : va_D A0 (wr ++ wc)) (hK : va_K D vwCl ty s) (hS : va_S A0 s.heap H locs) (hA : ∀ q, s.heap.size ≤ q → A0 q) (hZ : zOK s)
    (k0 : Nat) (hrec : wc[k0]? = some (b, .inr (ci, fs))) (hc : vwCl[ci]? = some (C, T, N)) (hls : ls.size = nL) (hst : st0 = As.reverse ++ .ref b :: rest) (hrest : (rest.map fun v => v.category).sum ≤ 8) (hdg : decode cc pc = .ok (.invokevirtual index, 3))
    (kk : ∀ (w1 : va_W) (H1 : Heap) (locs1 : List Loc), post w1 → va_P D vwCl (wr ++ w1) H1 → va_D A0 (wr ++ w1) → va_S A0 s.heap H1 locs1 → W p l e R s m args below meth c H1 locs1 (cells + mc) (slots + ms) Q (F0 m (pc + 3) ls rest)) :
    W p l e R s m args below meth c H locs cells slots Q (F0 m pc ls st0) := by
  have hsub : wc.Sublist (wr ++ wc) := List.sublist_append_right wr wc
  refine va_callv (va_runV (As := As) (rest := rest) S hM (cwV As.length S.2.2.2.2 hg rfl rfl rfl hd hR) ⟨cPn_blind, va_recv hK (hP.sl hsub) (ci := ci) (q0 := k0) hc hrec, cPn_preS hK hZ (hP.sl hsub) (hD.sl hsub)⟩ rfl rfl hls hst (lv_room hrest) hdg hroom) hS (fun q _ h => g_free hD hS hA q h) (g_free hD hS hA) (fun u t H1 locs1 ht hvm hw hB hz1 hk1 hS1 => ?_)
  obtain ⟨hP1, hD1⟩ := hB
  rw [ht] at hP1
  obtain ⟨hP2, hD2⟩ := g_fin hP hD hS hA hk1 hP1 hD1
  exact kk u H1 locs1 hw hP2 hD2 hS1
/-- a static one -/
theorem call_SgI {post : Int32 → va_W → Prop} (S : CallFix p m c cc nL s args bw own) (hM : Gi l y (Cond.code y cb maxL (some rt) :: bw) fr lo mc ms H.size D ty As wc post) (hg : GoodIn bw (va_wsS own index y (Cond.code y cb maxL (some rt) :: bw)))
    (hd : y.cls ≠ "java/lang/invoke/MethodHandle" ∧ y.cls ≠ "java/lang/invoke/VarHandle" ∧ (parseMethodDescriptor y.desc).map (fun d => d.parameters.length) = some As.length) (hR : fr + 1 ≤ R.frames ∧ 8 + (maxL + 11) + lo ≤ R.locals) (hroom : cells + mc ≤ R.cells ∧ slots + ms ≤ R.slots)
    (hP : va_P D vwCl (wr ++ wc) H) (hD : va_D A0 (wr ++ wc)) (hK : va_K D vwCl ty s) (hS : va_S A0 s.heap H locs) (hA : ∀ q, s.heap.size ≤ q → A0 q) (hZ : zOK s)
    (hls : ls.size = nL) (hst : st0 = As.reverse ++ rest) (hrest : (rest.map fun v => v.category).sum ≤ 8) (hdg : decode cc pc = .ok (.invokestatic index, 3))
    (kk : ∀ (r : Int32) (w1 : va_W) (H1 : Heap) (locs1 : List Loc), post r w1 → va_P D vwCl (wr ++ w1) H1 → va_D A0 (wr ++ w1) → va_S A0 s.heap H1 locs1 → W p l e R s m args below meth c H1 locs1 (cells + mc) (slots + ms) Q (F0 m (pc + 3) ls (.int r :: rest))) :
    W p l e R s m args below meth c H locs cells slots Q (F0 m pc ls st0) := by
  have hsub : wc.Sublist (wr ++ wc) := List.sublist_append_right wr wc
  refine va_calli (va_runS (As := As) (rest := rest) S hM (va_cwS As.length S.2.2.2.2 hg rfl rfl rfl hd hR) ⟨cPn_blind, cPn_preS hK hZ (hP.sl hsub) (hD.sl hsub)⟩ rfl rfl hls hst (lv_room hrest) hdg hroom) hS (fun q _ h => g_free hD hS hA q h) (g_free hD hS hA) (fun r u t H1 locs1 ht hvm hw hB hz1 hk1 hS1 => ?_)
  obtain ⟨hP1, hD1⟩ := hB
  rw [ht] at hP1
  obtain ⟨hP2, hD2⟩ := g_fin hP hD hS hA hk1 hP1 hD1
  exact kk r u H1 locs1 hw hP2 hD2 hS1
/-- a nest mate's constructor -/
theorem call_GN {post : va_W → Prop} (S : CallFix p m c cc nL s args bw own) (hM : Gv l y (Cond.code y cb maxL none :: bw) fr lo mc ms H.size D ty (.ref b :: As) wc post) {host : String} (hgd : GoodIn bw (Cond.code y cb maxL none :: bw)) (hlk : va_Nw (.methodLinkNest own index y host) s) (hini : (Cond.initialized y.cls) ∈ bw) (him : Cond.instanceMethod y ∈ bw) (hy : y.name = "<init>")
    (hd : y.cls ≠ "java/lang/invoke/MethodHandle" ∧ y.cls ≠ "java/lang/invoke/VarHandle" ∧ (parseMethodDescriptor y.desc).map (fun d => d.parameters.length) = some As.length) (hR : fr + 1 ≤ R.frames ∧ 8 + (maxL + 11) + lo ≤ R.locals) (hroom : cells + mc ≤ R.cells ∧ slots + ms ≤ R.slots)
    (hP : va_P D vwCl (wr ++ wc) H) (hD : va_D A0 (wr ++ wc)) (hK : va_K D vwCl ty s) (hS : va_S A0 s.heap H locs) (hA : ∀ q, s.heap.size ≤ q → A0 q) (hZ : zOK s)
    (hls : ls.size = nL) (hst : st0 = As.reverse ++ .ref b :: rest) (hrest : (rest.map fun v => v.category).sum ≤ 8) (hdg : decode cc pc = .ok (.invokespecial index, 3))
    (kk : ∀ (w1 : va_W) (H1 : Heap) (locs1 : List Loc), post w1 → va_P D vwCl (wr ++ w1) H1 → va_D A0 (wr ++ w1) → va_S A0 s.heap H1 locs1 → W p l e R s m args below meth c H1 locs1 (cells + mc) (slots + ms) Q (F0 m (pc + 3) ls rest)) :
    W p l e R s m args below meth c H locs cells slots Q (F0 m pc ls st0) := by
  have hsub : wc.Sublist (wr ++ wc) := List.sublist_append_right wr wc
  refine va_callv (va_runIN (As := As) (rest := rest) (host := host) S hM ⟨va_cnB As.length S.2.2.2.2 hgd rfl rfl rfl hlk (S.2.2.2.2 _ hini) hd hR, hy, S.2.2.2.2 _ him⟩ ⟨cPn_blind, cPn_preS hK hZ (hP.sl hsub) (hD.sl hsub)⟩ rfl rfl hls hst (lv_room hrest) hdg hroom) hS (fun q _ h => g_free hD hS hA q h) (g_free hD hS hA) (fun u t H1 locs1 ht hvm hw hB hz1 hk1 hS1 => ?_)
  obtain ⟨hP1, hD1⟩ := hB
  rw [ht] at hP1
  obtain ⟨hP2, hD2⟩ := g_fin hP hD hS hA hk1 hP1 hD1
  exact kk u H1 locs1 hw hP2 hD2 hS1
/-- a constructor -/
theorem call_GI {post : va_W → Prop} (S : CallFix p m c cc nL s args bw own) (hM : Gv l y (Cond.code y cb maxL none :: bw) fr lo mc ms H.size D ty (.ref b :: As) wc post) (hgd : GoodIn bw (Cond.code y cb maxL none :: bw)) (hlk : Cond.methodLink own index y ∈ bw) (hini : (Cond.initialized y.cls) ∈ bw) (him : Cond.instanceMethod y ∈ bw) (hy : y.name = "<init>")
    (hd : y.cls ≠ "java/lang/invoke/MethodHandle" ∧ y.cls ≠ "java/lang/invoke/VarHandle" ∧ (parseMethodDescriptor y.desc).map (fun d => d.parameters.length) = some As.length) (hR : fr + 1 ≤ R.frames ∧ 8 + (maxL + 11) + lo ≤ R.locals) (hroom : cells + mc ≤ R.cells ∧ slots + ms ≤ R.slots)
    (hP : va_P D vwCl (wr ++ wc) H) (hD : va_D A0 (wr ++ wc)) (hK : va_K D vwCl ty s) (hS : va_S A0 s.heap H locs) (hA : ∀ q, s.heap.size ≤ q → A0 q) (hZ : zOK s)
    (hls : ls.size = nL) (hst : st0 = As.reverse ++ .ref b :: rest) (hrest : (rest.map fun v => v.category).sum ≤ 8) (hdg : decode cc pc = .ok (.invokespecial index, 3))
    (kk : ∀ (w1 : va_W) (H1 : Heap) (locs1 : List Loc), post w1 → va_P D vwCl (wr ++ w1) H1 → va_D A0 (wr ++ w1) → va_S A0 s.heap H1 locs1 → W p l e R s m args below meth c H1 locs1 (cells + mc) (slots + ms) Q (F0 m (pc + 3) ls rest)) :
    W p l e R s m args below meth c H locs cells slots Q (F0 m pc ls st0) := by
  have hsub : wc.Sublist (wr ++ wc) := List.sublist_append_right wr wc
  refine va_callv (va_runI (As := As) (rest := rest) S hM (cwI As.length S.2.2.2.2 hgd rfl rfl rfl (S.2.2.2.2 _ hini) (S.2.2.2.2 _ hlk) (S.2.2.2.2 _ him) hy hd hR) ⟨cPn_blind, cPn_preS hK hZ (hP.sl hsub) (hD.sl hsub)⟩ rfl rfl hls hst (lv_room hrest) hdg hroom) hS (fun q _ h => g_free hD hS hA q h) (g_free hD hS hA) (fun u t H1 locs1 ht hvm hw hB hz1 hk1 hS1 => ?_)
  obtain ⟨hP1, hD1⟩ := hB
  rw [ht] at hP1
  obtain ⟨hP2, hD2⟩ := g_fin hP hD hS hA hk1 hP1 hD1
  exact kk u H1 locs1 hw hP2 hD2 hS1
end
section
variable {l : Launch} {y : MethodName} {cc : ByteArray} {n fr lo mc ms sz : Nat} {rt : FieldType} {D : va_G} {ty : List (ClassId × FieldType)} {av : List Value} {w : va_W}
theorem Gv_of {post : va_W → Prop} (hy : plainName y.cls = true) (hn : (lg_sl av).length ≤ n)
    (body : ∀ (p : Program) (e : Env) (s : State) (m : MethodId) (args : Array Value) (below : List Frame) (meth : Method) (c : Code) (Q : State → Prop) (ls : Array Slot) (A : Nat → Prop), CallFix p m c cc n s args bw y.cls → va_P D vwCl w s.heap → va_K D vwCl ty s → va_D A w → (∀ q, s.heap.size ≤ q → A q) → zOK s → lv_has ls n (lv_args 0 av) → meth.name = y.name →
      (∀ (u : va_W) (H : Heap) (locs : List Loc) (ls' : Array Slot) (pc : Nat), decode cc pc = .ok (.return_, 1) → post u → va_P D vwCl u H → va_D A u → va_S A s.heap H locs → W p l e (rmG fr lo mc ms) s m args below meth c H locs mc ms Q (F0 m pc ls' [])) →
      W p l e (rmG fr lo mc ms) s m args below meth c s.heap [] 0 0 Q (F0 m 0 ls [])) : Gv l y (Cond.code y cc n none :: bw) fr lo mc ms sz D ty av w post := by
  refine Met.ofW (cc := cc) (maxL := n) (ret := none) hy rfl ?_
  intro p e s m args below meth c s₁ B hml hv
  obtain ⟨rfl, hsz, hP, hK, hD0, hZ⟩ := hv
  subst hsz
  have hts := atoms_spec (ws := Cond.code y cc n none :: bw) B.pre
  rw [lg_entry_eq]
  refine body p e s m _ below meth c _ _ (va_A w s.heap.size) ⟨B.exec, B.bytes, hml, findClass_of_methodNamed B.named, fun w h => hts w (List.mem_cons_of_mem _ h)⟩ hP hK (hD0.self (sz := s.heap.size)) (fun q h => Or.inr h) hZ (lv_entry av (n := n) hn) (name_of_methodNamed B.named B.method).1 ?_
  intro u H locs ls' pc hdg hpost hPu hDu hS
  exact W.vret B.exec B.bytes B.returns (fun t ht hW => ⟨⟨u, rfl, hpost, by rw [ht]; exact hPu, hDu⟩, hS.F ht⟩) hS.2.2 hdg B.notSynchronized
theorem Gi_of {post : Int32 → va_W → Prop} (hy : plainName y.cls = true) (hn : (lg_sl av).length ≤ n)
    (body : ∀ (p : Program) (e : Env) (s : State) (m : MethodId) (args : Array Value) (below : List Frame) (meth : Method) (c : Code) (Q : State → Prop) (ls : Array Slot) (A : Nat → Prop), CallFix p m c cc n s args bw y.cls → va_P D vwCl w s.heap → va_K D vwCl ty s → va_D A w → (∀ q, s.heap.size ≤ q → A q) → zOK s → lv_has ls n (lv_args 0 av) → meth.name = y.name →
      (∀ (v : Int32) (u : va_W) (H : Heap) (locs : List Loc) (ls' : Array Slot) (pc : Nat), decode cc pc = .ok (.ireturn, 1) → narrow rt (.int v) = .int v → post v u → va_P D vwCl u H → va_D A u → va_S A s.heap H locs → W p l e (rmG fr lo mc ms) s m args below meth c H locs mc ms Q (F0 m pc ls' [.int v])) →
      W p l e (rmG fr lo mc ms) s m args below meth c s.heap [] 0 0 Q (F0 m 0 ls [])) : Gi l y (Cond.code y cc n (some rt) :: bw) fr lo mc ms sz D ty av w post := by
  refine Met.ofW (cc := cc) (maxL := n) (ret := some rt) hy rfl ?_
  intro p e s m args below meth c s₁ B hml hv
  obtain ⟨rfl, hsz, hP, hK, hD0, hZ⟩ := hv
  subst hsz
  have hts := atoms_spec (ws := Cond.code y cc n (some rt) :: bw) B.pre
  rw [lg_entry_eq]
  refine body p e s m _ below meth c _ _ (va_A w s.heap.size) ⟨B.exec, B.bytes, hml, findClass_of_methodNamed B.named, fun w h => hts w (List.mem_cons_of_mem _ h)⟩ hP hK (hD0.self (sz := s.heap.size)) (fun q h => Or.inr h) hZ (lv_entry av (n := n) hn) (name_of_methodNamed B.named B.method).1 ?_
  intro v u H locs ls' pc hdg hnr hpost hPu hDu hS
  exact W.zret (v := v) B.exec B.bytes B.returns hnr (fun t ht hW => ⟨⟨v, u, rfl, hpost, by rw [ht]; exact hPu, hDu⟩, hS.F ht⟩) hS.2.2 hdg B.notSynchronized
end
end
section
/-! what the law's own model answers -/
def cntP (P : Nat → Bool) : Nat → Nat
  | 0 => 0
  | w + 1 => cntP P w + if P w = true then 1 else 0
theorem cntP_le (P : Nat → Bool) : ∀ i, cntP P i ≤ i
  | 0 => Nat.le_refl 0
  | w + 1 => by
    have := cntP_le P w
    simp only [cntP]; split <;> omega
theorem p3_243 : ∀ n, n ≤ 5 → 3 ^ n ≤ 243 := by decide
def agS (q : Nat → Bool) (a b : Nat → Nat) : Nat → Bool
  | 0 => true
  | k + 1 => agS q a b k && (!q k || a k == b k)
theorem agS_iff {q : Nat → Bool} {a b : Nat → Nat} : ∀ {n : Nat}, agS q a b n = true ↔ ∀ k, k < n → q k = true → a k = b k
  | 0 => by simp [agS]
  | n + 1 => by
    simp only [agS, Bool.and_eq_true, agS_iff (n := n)]
    constructor
    · rintro ⟨h1, h2⟩ k hk hq
      rcases Nat.lt_or_ge k n with h | h
      · exact h1 k h hq
      · have : k = n := by omega
        subst this
        simpa [hq] using h2
    · intro h
      refine ⟨fun k hk => h k (by omega), ?_⟩
      cases hq : q n with
      | false => rfl
      | true => simpa using h n (by omega) hq
theorem agS_f {q : Nat → Bool} {a b : Nat → Nat} {n i : Nat} (hi : i < n) (hq : q i = true) (h : a i ≠ b i) : agS q a b n = false := by
  cases hc : agS q a b n with
  | false => rfl
  | true => exact absurd (agS_iff.mp hc i hi hq) h
def sur (P : Nat → Bool) (f : Nat → Nat) (m : Nat) : Bool := (List.range m).any (fun w => P w && (List.range m).all (fun v => !P v || f v == f w))
theorem sur_iff {P : Nat → Bool} {f : Nat → Nat} {m : Nat} : sur P f m = true ↔ ∃ w, w < m ∧ P w = true ∧ ∀ v, v < m → P v = true → f v = f w := by
  unfold sur
  rw [List.any_eq_true]
  constructor
  · rintro ⟨w, hw, h⟩
    rw [Bool.and_eq_true, List.all_eq_true] at h
    refine ⟨w, List.mem_range.mp hw, h.1, fun v hv hp => ?_⟩
    have := h.2 v (List.mem_range.mpr hv)
    simpa [hp] using this
  · rintro ⟨w, hw, hp, h⟩
    refine ⟨w, List.mem_range.mpr hw, ?_⟩
    rw [Bool.and_eq_true, List.all_eq_true]
    refine ⟨hp, fun v hv => ?_⟩
    cases hq : P v with
    | false => rfl
    | true => simp [h v (List.mem_range.mp hv) hq]
theorem sur_f {P : Nat → Bool} {f : Nat → Nat} {m u v : Nat} (hu : u < m) (hv : v < m) (h1 : P u = true) (h2 : P v = true) (h : f u ≠ f v) : sur P f m = false := by
  cases hc : sur P f m with
  | false => rfl
  | true =>
    obtain ⟨w, hw, -, h9⟩ := sur_iff.mp hc
    exact absurd ((h9 u hu h1).trans (h9 v hv h2).symm) h
theorem sur_0 {P : Nat → Bool} {f : Nat → Nat} {m : Nat} (h : ∀ w, w < m → P w = false) : sur P f m = false := by
  cases hc : sur P f m with
  | false => rfl
  | true =>
    obtain ⟨w, hw, hp, -⟩ := sur_iff.mp hc
    rw [h w hw] at hp; cases hp
/-- a player sees two ways alike; is sure of a colour in one -/
def suP (n : Nat) (sn wy : Nat → Nat → Bool) : Nat := 0
abbrev okS (n : Nat) (sn : Nat → Nat → Bool) (wy : Nat → Nat → Nat) (o : Nat → Bool) (p : Nat) (f : Nat → Nat) (w : Nat) : Bool := o w && agS (sn p) f (wy w) n
def surS (n m : Nat) (sn : Nat → Nat → Bool) (wy : Nat → Nat → Nat) (o : Nat → Bool) (p q : Nat) (f : Nat → Nat) : Bool := sur (okS n sn wy o p f) (fun w => wy w q) m
def havS (f : Nat → Nat) (c : Nat) : Nat → Nat
  | 0 => 0
  | k + 1 => havS f c k + if f k = c then 1 else 0
theorem havS_le (f : Nat → Nat) (c : Nat) : ∀ k, havS f c k ≤ k
  | 0 => Nat.le_refl 0
  | k + 1 => by
    have := havS_le f c k
    simp only [havS]; split <;> omega
def cerS (n m : Nat) (sn : Nat → Nat → Bool) (ht : Nat → Nat) (wy : Nat → Nat → Nat) (o : Nat → Bool) : Nat → Nat
  | 0 => 0
  | p + 1 => cerS n m sn ht wy o p + if surS n m sn wy o p p ht = true then 1 else 0
theorem cerS_le (n m : Nat) (sn : Nat → Nat → Bool) (ht : Nat → Nat) (wy : Nat → Nat → Nat) (o : Nat → Bool) : ∀ k, cerS n m sn ht wy o k ≤ k
  | 0 => Nat.le_refl 0
  | k + 1 => by
    have := cerS_le n m sn ht wy o k
    simp only [cerS]; split <;> omega
theorem oI_ge {c : Option Nat} (hc : ∀ v, c = some v → v < 4) (h : ¬ oI c < 0) : ∃ v, c = some v := by
  cases c with
  | none => exact absurd (by decide) h
  | some v => exact ⟨v, rfl⟩
theorem oI_lt {c : Option Nat} (hc : ∀ v, c = some v → v < 4) (h : oI c < 0) : c = none := by
  cases c with
  | none => rfl
  | some v => exact absurd h (nI_pos (by have := hc v rfl; omega))
/-- what the search for a colour knows so far: P, f below i -/
def surI (P : Nat → Bool) (f : Nat → Nat) (i : Nat) (c : Option Nat) : Prop := match c with
  | none => ∀ w, w < i → P w = false
  | some v => (∃ w, w < i ∧ P w = true ∧ f w = v) ∧ ∀ w, w < i → P w = true → f w = v
theorem surI_n {P : Nat → Bool} {f : Nat → Nat} {i : Nat} {c : Option Nat} (h : surI P f i c) (hp : P i = false) : surI P f (i + 1) c := by
  cases c with
  | none =>
    intro w hw
    rcases Nat.lt_or_ge w i with h1 | h1
    · exact h w h1
    · rw [show w = i by omega]; exact hp
  | some v =>
    refine ⟨?_, fun w hw hq => ?_⟩
    · obtain ⟨w, h1, h2, h3⟩ := h.1
      exact ⟨w, by omega, h2, h3⟩
    · rcases Nat.lt_or_ge w i with h1 | h1
      · exact h.2 w h1 hq
      · rw [show w = i by omega, hp] at hq; cases hq
theorem surI_0 {P : Nat → Bool} {f : Nat → Nat} {i : Nat} {c : Option Nat} (hc : c = none) (h : surI P f i c) (hp : P i = true) : surI P f (i + 1) (some (f i)) := by
  subst hc
  refine ⟨⟨i, by omega, hp, rfl⟩, fun w hw hq => ?_⟩
  rcases Nat.lt_or_ge w i with h1 | h1
  · rw [h w h1] at hq; cases hq
  · rw [show w = i by omega]
theorem surI_s {P : Nat → Bool} {f : Nat → Nat} {i : Nat} {c : Option Nat} {v : Nat} (hc : c = some v) (h : surI P f i c) (hp : P i = true) (he : v = f i) : surI P f (i + 1) (some (f i)) := by
  subst hc
  subst he
  refine ⟨⟨i, by omega, hp, rfl⟩, fun w hw hq => ?_⟩
  rcases Nat.lt_or_ge w i with h1 | h1
  · exact h.2 w h1 hq
  · rw [show w = i by omega]
theorem surI_x {P : Nat → Bool} {f : Nat → Nat} {i m : Nat} {c : Option Nat} {v : Nat} (hc : c = some v) (h : surI P f i c) (hi : i < m) (hp : P i = true) (he : v ≠ f i) : sur P f m = false := by
  subst hc
  obtain ⟨w, h1, h2, h3⟩ := h.1
  exact sur_f (by omega) hi h2 hp (by rw [h3]; exact he)
theorem surI_t {P : Nat → Bool} {f : Nat → Nat} {m : Nat} {c : Option Nat} {v : Nat} (hc : c = some v) (h : surI P f m c) : sur P f m = true := by
  subst hc
  obtain ⟨w, h1, h2, h3⟩ := h.1
  exact sur_iff.mpr ⟨w, h1, h2, fun u hu hp => (h.2 u hu hp).trans h3.symm⟩
theorem surI_e {P : Nat → Bool} {f : Nat → Nat} {m : Nat} {c : Option Nat} (hc : c = none) (h : surI P f m c) : sur P f m = false := by
  subst hc
  exact sur_0 h
section
variable {l : Launch} {dC : Nat → ClassId} {dI : Nat → Nat → Nat} {cI cZ cS cW : ClassId}

set_option maxHeartbeats 4000000 in
set_option maxRecDepth 100000 in
theorem m_X2_agree (b0 b1 b2 b3 b4 n m tn sl : Nat) (bg : Bool) (ht rs : Nat → Nat) (sn : Nat → Nat → Bool) (rw : Nat → Nat) (wy : Nat → Nat → Nat) (o : Nat → Bool) (p ra rb : Nat) (fa fb : Nat → Nat) (hn : n ≤ 5) (hp : p < n) (hma : (ra, eI cI n fa) ∈ sW cI cZ cS cW b0 b1 b2 b3 b4 n m tn sl bg ht rs sn rw wy o) (hmb : (rb, eI cI n fb) ∈ sW cI cZ cS cW b0 b1 b2 b3 b4 n m tn sl bg ht rs sn rw wy o) (hfa : ∀ k, k < n → fa k < 4) (hfb : ∀ k, k < n → fb k < 4) : Mp l yX2_agree ws_X2_agree 0 0 (dC, dI) (tyL cI cZ cS cW) [.ref b0, .int (nI p), .ref ra, .ref rb] (sW cI cZ cS cW b0 b1 b2 b3 b4 n m tn sl bg ht rs sn rw wy o) (fun r => r = bI (agS (sn p) fa fb n)) := by
  refine Mi_of (by decide +kernel) (Nat.le_of_ble_eq_true rfl) ?_
  intro pr ev sx mi ag bl me cd Q ls S hP hK hD hZ hl ret
  obtain ⟨hx, hb, hml, hown, hts⟩ := id S
  have hown : sx.vm.findClass RX2 = some mi.cls := hown
  have hS : va_S (wIn (sW cI cZ cS cW b0 b1 b2 b3 b4 n m tn sl bg ht rs sn rw wy o)) sx.heap sx.heap [] := va_S.rf
  have hl : lv_has ls 5 [(0, .ref b0), (1, .int (nI p)), (2, .ref ra), (3, .ref rb)] := hl
  refine lv_iconst (v := nI 0) hx hb dX2_agree_0 (by decide) ?_
  refine lv_istore (lv' := [(4, .int (nI 0)), (0, .ref b0), (1, .int (nI p)), (2, .ref ra), (3, .ref rb)]) hx hb dX2_agree_1 hl (by decide) rfl (fun ls hl => ?_)
  have lp3 : ∀ (kf : Nat) (i : Nat), n < i + kf → (i ≤ n) → (agS (sn p) fa fb i = true) → ∀ (H : Heap) (locs : List Loc), va_P (dC, dI) vwCl (sW cI cZ cS cW b0 b1 b2 b3 b4 n m tn sl bg ht rs sn rw wy o) H → va_D (wIn (sW cI cZ cS cW b0 b1 b2 b3 b4 n m tn sl bg ht rs sn rw wy o)) (sW cI cZ cS cW b0 b1 b2 b3 b4 n m tn sl bg ht rs sn rw wy o) → va_S (wIn (sW cI cZ cS cW b0 b1 b2 b3 b4 n m tn sl bg ht rs sn rw wy o)) sx.heap H locs → ∀ ls : Array Slot, lv_has ls 5 [(4, .int (nI i)), (0, .ref b0), (1, .int (nI p)), (2, .ref ra), (3, .ref rb)] → W pr l ev (rmB 0 0) sx mi ag bl me cd H locs 0 0 Q (F0 mi 3 ls []) := by
    intro kf
    induction kf with
    | zero => intro i hkf hi hall; exact absurd hkf (by omega)
    | succ kf ih3 =>
      intro i hkf hi hall H locs hP hD hS ls hl
      refine lv_iload hx hb dX2_agree_3 (lv_at hl 0 rfl) ?_
      refine lv_aload_n hx hb dX2_agree_5 rfl (lv_at hl 1 rfl) ?_
      refine va_get (D := (dC, dI)) (ci := 2) (v := .int (nI n)) (C := RX2) (T := TX2) (N := 8) hx hb hts inX2 hown hK hP 0 rfl rfl 0 (by decide) (hts _ q_fl_X2_27) (fun _ h9 => h9) rfl dX2_agree_6 ?_
      refine icN_ge (tgt := 43) hx hb dX2_agree_9 (by decide) (by omega) (by omega) (fun c_9 => ?_) (fun c_9 => ?_)
      · refine lv_iconst (v := nI 1) hx hb dX2_agree_43 (by decide) ?_
        exact ret _ (sW cI cZ cS cW b0 b1 b2 b3 b4 n m tn sl bg ht rs sn rw wy o) _ _ _ _ dX2_agree_44 rfl ⟨rfl, bI_t (by rw [show n = i by omega]; exact hall)⟩ (List.Perm.refl _) hP hS
      · refine lv_aload_n hx hb dX2_agree_12 rfl (lv_at hl 1 rfl) ?_
        refine va_get (D := (dC, dI)) (ci := 2) (v := .ref b2) (C := RX2) (T := TX2) (N := 8) hx hb hts inX2 hown hK hP 0 rfl rfl 5 (by decide) (hts _ q_fl_X2_15) (fun _ h9 => h9) rfl dX2_agree_13 ?_
        refine lv_iload_n hx hb dX2_agree_16 rfl (lv_at hl 2 rfl) ?_
        refine aa_ld hx hb hK hP 2 2 rfl rfl (j := p) (by omega) (by omega) dX2_agree_17 ?_
        refine lv_iload hx hb dX2_agree_18 (lv_at hl 0 rfl) ?_
        refine za_ld hx hb hK (hP.one (List.mem_append_right _ (List.mem_append_left _ (rB_mem (by omega))))) 0 1 rfl rfl (j := i) (by omega) (by omega) dX2_agree_20 ?_
        refine ifB_eq (tgt := 37) hx hb dX2_agree_21 (by decide) (fun c_21 => ?_) (fun c_21 => ?_)
        · refine lv_iinc (v := nI (i + 1)) (lv' := [(4, .int (nI (i + 1))), (0, .ref b0), (1, .int (nI p)), (2, .ref ra), (3, .ref rb)]) hx hb dX2_agree_37 hl (k := 0) rfl (nI_add _ _) (by decide) rfl (fun ls hl => ?_)
          refine lv_goto (tgt := 3) hx hb dX2_agree_40 (by decide) ?_
          exact ih3 (i + 1) (by omega) (by omega) (by simp [agS, hall, c_21]) _ _ hP hD hS _ (lv_sub hl [0, 1, 2, 3, 4] rfl)
        · refine lv_aload_n hx hb dX2_agree_24 rfl (lv_at hl 3 rfl) ?_
          refine lv_iload hx hb dX2_agree_25 (lv_at hl 0 rfl) ?_
          refine ia_ld hx hb hK (hP.one hma) 0 0 rfl rfl (j := i) (by omega) (by omega) dX2_agree_27 ?_
          refine lv_aload_n hx hb dX2_agree_28 rfl (lv_at hl 4 rfl) ?_
          refine lv_iload hx hb dX2_agree_29 (lv_at hl 0 rfl) ?_
          refine ia_ld hx hb hK (hP.one hmb) 0 0 rfl rfl (j := i) (by omega) (by omega) dX2_agree_31 ?_
          refine icN_eq (tgt := 37) hx hb dX2_agree_32 (by decide) (by have := hfa i (by omega); omega) (by have := hfb i (by omega); omega) (fun c_32 => ?_) (fun c_32 => ?_)
          · refine lv_iinc (v := nI (i + 1)) (lv' := [(4, .int (nI (i + 1))), (0, .ref b0), (1, .int (nI p)), (2, .ref ra), (3, .ref rb)]) hx hb dX2_agree_37 hl (k := 0) rfl (nI_add _ _) (by decide) rfl (fun ls hl => ?_)
            refine lv_goto (tgt := 3) hx hb dX2_agree_40 (by decide) ?_
            exact ih3 (i + 1) (by omega) (by omega) (by simp [agS, hall, c_32]) _ _ hP hD hS _ (lv_sub hl [0, 1, 2, 3, 4] rfl)
          · refine lv_iconst (v := nI 0) hx hb dX2_agree_35 (by decide) ?_
            exact ret _ (sW cI cZ cS cW b0 b1 b2 b3 b4 n m tn sl bg ht rs sn rw wy o) _ _ _ _ dX2_agree_36 rfl ⟨rfl, bI_f (agS_f (by omega) c_21 c_32)⟩ (List.Perm.refl _) hP hS
  exact lp3 (n + 1) 0 (by omega) (by omega) rfl _ _ hP hD hS _ (lv_sub hl [0, 1, 2, 3, 4] rfl)

set_option maxHeartbeats 4000000 in
set_option maxRecDepth 100000 in
theorem m_X2_isSure (b0 b1 b2 b3 b4 n m tn sl : Nat) (bg : Bool) (ht rs : Nat → Nat) (sn : Nat → Nat → Bool) (rw : Nat → Nat) (wy : Nat → Nat → Nat) (o : Nat → Bool) (p q rx : Nat) (fx : Nat → Nat) (hn : n ≤ 5) (hp : p < n) (hq9 : q < n) (hm : m < 2 ^ 31) (hmx : (rx, eI cI n fx) ∈ sW cI cZ cS cW b0 b1 b2 b3 b4 n m tn sl bg ht rs sn rw wy o) (hfx : ∀ k, k < n → fx k < 4) (hwy : ∀ w, w < m → ∀ k, k < n → wy w k < 4) : Mp l yX2_isSure ws_X2_isSure 1 24 (dC, dI) (tyL cI cZ cS cW) [.ref b0, .int (nI p), .int (nI q), .ref rx] (sW cI cZ cS cW b0 b1 b2 b3 b4 n m tn sl bg ht rs sn rw wy o) (fun r => r = bI (surS n m sn wy o p q fx)) := by
  refine Mi_of (by decide +kernel) (Nat.le_of_ble_eq_true rfl) ?_
  intro pr ev sx mi ag bl me cd Q ls S hP hK hD hZ hl ret
  obtain ⟨hx, hb, hml, hown, hts⟩ := id S
  have hown : sx.vm.findClass RX2 = some mi.cls := hown
  have hS : va_S (wIn (sW cI cZ cS cW b0 b1 b2 b3 b4 n m tn sl bg ht rs sn rw wy o)) sx.heap sx.heap [] := va_S.rf
  have hl : lv_has ls 6 [(0, .ref b0), (1, .int (nI p)), (2, .int (nI q)), (3, .ref rx)] := hl
  refine lv_iconst (v := (-1)) hx hb dX2_isSure_0 (by decide) ?_
  refine lv_istore (lv' := [(4, .int (-1)), (0, .ref b0), (1, .int (nI p)), (2, .int (nI q)), (3, .ref rx)]) hx hb dX2_isSure_1 hl (by decide) rfl (fun ls hl => ?_)
  refine lv_iconst (v := nI 0) hx hb dX2_isSure_3 (by decide) ?_
  refine lv_istore (lv' := [(5, .int (nI 0)), (4, .int (-1)), (0, .ref b0), (1, .int (nI p)), (2, .int (nI q)), (3, .ref rx)]) hx hb dX2_isSure_4 hl (by decide) rfl (fun ls hl => ?_)
  have lp6 : ∀ (kf : Nat) (i : Nat) (c : Option Nat), m < i + kf → (i ≤ m) → (∀ v, c = some v → v < 4) → (surI (okS n sn wy o p fx) (fun w => wy w q) i c) → ∀ (H : Heap) (locs : List Loc), va_P (dC, dI) vwCl (sW cI cZ cS cW b0 b1 b2 b3 b4 n m tn sl bg ht rs sn rw wy o) H → va_D (wIn (sW cI cZ cS cW b0 b1 b2 b3 b4 n m tn sl bg ht rs sn rw wy o)) (sW cI cZ cS cW b0 b1 b2 b3 b4 n m tn sl bg ht rs sn rw wy o) → va_S (wIn (sW cI cZ cS cW b0 b1 b2 b3 b4 n m tn sl bg ht rs sn rw wy o)) sx.heap H locs → ∀ ls : Array Slot, lv_has ls 6 [(5, .int (nI i)), (4, .int (oI c)), (0, .ref b0), (1, .int (nI p)), (2, .int (nI q)), (3, .ref rx)] → W pr l ev (rmB 1 24) sx mi ag bl me cd H locs 0 0 Q (F0 mi 6 ls []) := by
    intro kf
    induction kf with
    | zero => intro i c hkf hi hc4 hc; exact absurd hkf (by omega)
    | succ kf ih6 =>
      intro i c hkf hi hc4 hc H locs hP hD hS ls hl
      refine lv_iload hx hb dX2_isSure_6 (lv_at hl 0 rfl) ?_
      refine lv_aload_n hx hb dX2_isSure_8 rfl (lv_at hl 2 rfl) ?_
      refine va_get (D := (dC, dI)) (ci := 2) (v := .ref b3) (C := RX2) (T := TX2) (N := 8) hx hb hts inX2 hown hK hP 0 rfl rfl 6 (by decide) (hts _ q_fl_X2_20) (fun _ h9 => h9) rfl dX2_isSure_9 ?_
      refine va_alen (v := nI m) hx hb hK hP 3 3 rfl rfl rfl dX2_isSure_12 ?_
      refine icN_ge (tgt := 83) hx hb dX2_isSure_13 (by decide) (by omega) (by omega) (fun c_13 => ?_) (fun c_13 => ?_)
      · refine lv_iload hx hb dX2_isSure_83 (lv_at hl 1 rfl) ?_
        refine lv_if_lt (tgt := 92) hx hb dX2_isSure_85 (by decide) (fun c_85 => ?_) (fun c_85 => ?_)
        · refine lv_iconst (v := nI 0) hx hb dX2_isSure_92 (by decide) ?_
          exact ret _ (sW cI cZ cS cW b0 b1 b2 b3 b4 n m tn sl bg ht rs sn rw wy o) _ _ _ _ dX2_isSure_93 rfl ⟨rfl, bI_f (surI_e (oI_lt hc4 c_85) (by rw [show m = i by omega]; exact hc))⟩ (List.Perm.refl _) hP hS
        · refine lv_iconst (v := nI 1) hx hb dX2_isSure_88 (by decide) ?_
          refine lv_goto (tgt := 93) hx hb dX2_isSure_89 (by decide) ?_
          exact ret _ (sW cI cZ cS cW b0 b1 b2 b3 b4 n m tn sl bg ht rs sn rw wy o) _ _ _ _ dX2_isSure_93 rfl ⟨rfl, bI_t (by obtain ⟨v, hv⟩ := oI_ge hc4 c_85; exact surI_t hv (by rw [show m = i by omega]; exact hc))⟩ (List.Perm.refl _) hP hS
      · refine lv_aload_n hx hb dX2_isSure_16 rfl (lv_at hl 2 rfl) ?_
        refine va_get (D := (dC, dI)) (ci := 2) (v := .ref b4) (C := RX2) (T := TX2) (N := 8) hx hb hts inX2 hown hK hP 0 rfl rfl 7 (by decide) (hts _ q_fl_X2_24) (fun _ h9 => h9) rfl dX2_isSure_17 ?_
        refine lv_iload hx hb dX2_isSure_20 (lv_at hl 0 rfl) ?_
        refine za_ld hx hb hK hP 4 1 rfl rfl (j := i) (by omega) (by omega) dX2_isSure_22 ?_
        refine ifB_eq (tgt := 77) hx hb dX2_isSure_23 (by decide) (fun c_23 => ?_) (fun c_23 => ?_)
        · refine lv_iinc (v := nI (i + 1)) (lv' := [(5, .int (nI (i + 1))), (4, .int (oI c)), (0, .ref b0), (1, .int (nI p)), (2, .int (nI q)), (3, .ref rx)]) hx hb dX2_isSure_77 hl (k := 0) rfl (nI_add _ _) (by decide) rfl (fun ls hl => ?_)
          refine lv_goto (tgt := 6) hx hb dX2_isSure_80 (by decide) ?_
          exact ih6 (i + 1) c (by omega) (by omega) hc4 (surI_n hc (by simp [okS, c_23])) _ _ hP hD hS _ (lv_sub hl [0, 1, 2, 3, 4, 5] rfl)
        · refine lv_aload_n hx hb dX2_isSure_26 rfl (lv_at hl 2 rfl) ?_
          refine lv_iload_n hx hb dX2_isSure_27 rfl (lv_at hl 3 rfl) ?_
          refine lv_aload_n hx hb dX2_isSure_28 rfl (lv_at hl 5 rfl) ?_
          refine lv_aload_n hx hb dX2_isSure_29 rfl (lv_at hl 2 rfl) ?_
          refine va_get (D := (dC, dI)) (ci := 2) (v := .ref b3) (C := RX2) (T := TX2) (N := 8) hx hb hts inX2 hown hK hP 0 rfl rfl 6 (by decide) (hts _ q_fl_X2_20) (fun _ h9 => h9) rfl dX2_isSure_30 ?_
          refine lv_iload hx hb dX2_isSure_33 (lv_at hl 0 rfl) ?_
          refine aa_ld hx hb hK hP 3 3 rfl rfl (j := i) (by omega) (by omega) dX2_isSure_35 ?_
          refine call_VpS (As := [.int (nI p), .ref rx, .ref (rw i)]) (rest := []) S (m_X2_agree b0 b1 b2 b3 b4 n m tn sl bg ht rs sn rw wy o p rx (rw i) fx (wy i) hn (by omega) hmx (List.mem_append_right _ (List.mem_append_right _ (rB_mem (by omega)))) hfx (hwy i (by omega))) g_X2_X2_agree hd_X2_agree ⟨Nat.le_of_ble_eq_true rfl, Nat.le_of_ble_eq_true rfl⟩ ⟨Nat.zero_le _, Nat.zero_le _⟩ hP hD hK hS hZ (List.Sublist.refl _) 0 rfl rfl hl.1 rfl (Nat.le_of_ble_eq_true rfl) dX2_isSure_36 (fun r H locs hq hP hS => ?_)
          obtain rfl := hq
          refine ifB_ne (tgt := 45) hx hb dX2_isSure_39 (by decide) (fun c_39 => ?_) (fun c_39 => ?_)
          · refine lv_iload hx hb dX2_isSure_45 (lv_at hl 1 rfl) ?_
            refine lv_if_lt (tgt := 66) hx hb dX2_isSure_47 (by decide) (fun c_47 => ?_) (fun c_47 => ?_)
            · refine lv_aload_n hx hb dX2_isSure_66 rfl (lv_at hl 2 rfl) ?_
              refine va_get (D := (dC, dI)) (ci := 2) (v := .ref b3) (C := RX2) (T := TX2) (N := 8) hx hb hts inX2 hown hK hP 0 rfl rfl 6 (by decide) (hts _ q_fl_X2_20) (fun _ h9 => h9) rfl dX2_isSure_67 ?_
              refine lv_iload hx hb dX2_isSure_70 (lv_at hl 0 rfl) ?_
              refine aa_ld hx hb hK hP 3 3 rfl rfl (j := i) (by omega) (by omega) dX2_isSure_72 ?_
              refine lv_iload_n hx hb dX2_isSure_73 rfl (lv_at hl 4 rfl) ?_
              refine ia_ld hx hb hK (hP.one (List.mem_append_right _ (List.mem_append_right _ (rB_mem (by omega))))) 0 0 rfl rfl (j := q) (by omega) (by omega) dX2_isSure_74 ?_
              refine lv_istore (lv' := [(4, .int (nI (wy i q))), (5, .int (nI i)), (0, .ref b0), (1, .int (nI p)), (2, .int (nI q)), (3, .ref rx)]) hx hb dX2_isSure_75 hl (by decide) rfl (fun ls hl => ?_)
              refine lv_iinc (v := nI (i + 1)) (lv' := [(5, .int (nI (i + 1))), (4, .int (nI (wy i q))), (0, .ref b0), (1, .int (nI p)), (2, .int (nI q)), (3, .ref rx)]) hx hb dX2_isSure_77 hl (k := 1) rfl (nI_add _ _) (by decide) rfl (fun ls hl => ?_)
              refine lv_goto (tgt := 6) hx hb dX2_isSure_80 (by decide) ?_
              exact ih6 (i + 1) (some (wy i q)) (by omega) (by omega) (fun v hv => by cases hv; exact hwy i (by omega) q hq9) (surI_0 (oI_lt hc4 c_47) hc (by simp [okS, c_23, c_39])) _ _ hP hD hS _ (lv_sub hl [0, 1, 2, 3, 4, 5] rfl)
            · refine lv_iload hx hb dX2_isSure_50 (lv_at hl 1 rfl) ?_
              refine lv_aload_n hx hb dX2_isSure_52 rfl (lv_at hl 2 rfl) ?_
              refine va_get (D := (dC, dI)) (ci := 2) (v := .ref b3) (C := RX2) (T := TX2) (N := 8) hx hb hts inX2 hown hK hP 0 rfl rfl 6 (by decide) (hts _ q_fl_X2_20) (fun _ h9 => h9) rfl dX2_isSure_53 ?_
              refine lv_iload hx hb dX2_isSure_56 (lv_at hl 0 rfl) ?_
              refine aa_ld hx hb hK hP 3 3 rfl rfl (j := i) (by omega) (by omega) dX2_isSure_58 ?_
              refine lv_iload_n hx hb dX2_isSure_59 rfl (lv_at hl 4 rfl) ?_
              refine ia_ld hx hb hK (hP.one (List.mem_append_right _ (List.mem_append_right _ (rB_mem (by omega))))) 0 0 rfl rfl (j := q) (by omega) (by omega) dX2_isSure_60 ?_
              refine lv_icmp_eq (tgt := 66) hx hb dX2_isSure_61 (by decide) (fun c_61 => ?_) (fun c_61 => ?_)
              · refine lv_aload_n hx hb dX2_isSure_66 rfl (lv_at hl 2 rfl) ?_
                refine va_get (D := (dC, dI)) (ci := 2) (v := .ref b3) (C := RX2) (T := TX2) (N := 8) hx hb hts inX2 hown hK hP 0 rfl rfl 6 (by decide) (hts _ q_fl_X2_20) (fun _ h9 => h9) rfl dX2_isSure_67 ?_
                refine lv_iload hx hb dX2_isSure_70 (lv_at hl 0 rfl) ?_
                refine aa_ld hx hb hK hP 3 3 rfl rfl (j := i) (by omega) (by omega) dX2_isSure_72 ?_
                refine lv_iload_n hx hb dX2_isSure_73 rfl (lv_at hl 4 rfl) ?_
                refine ia_ld hx hb hK (hP.one (List.mem_append_right _ (List.mem_append_right _ (rB_mem (by omega))))) 0 0 rfl rfl (j := q) (by omega) (by omega) dX2_isSure_74 ?_
                refine lv_istore (lv' := [(4, .int (nI (wy i q))), (5, .int (nI i)), (0, .ref b0), (1, .int (nI p)), (2, .int (nI q)), (3, .ref rx)]) hx hb dX2_isSure_75 hl (by decide) rfl (fun ls hl => ?_)
                refine lv_iinc (v := nI (i + 1)) (lv' := [(5, .int (nI (i + 1))), (4, .int (nI (wy i q))), (0, .ref b0), (1, .int (nI p)), (2, .int (nI q)), (3, .ref rx)]) hx hb dX2_isSure_77 hl (k := 1) rfl (nI_add _ _) (by decide) rfl (fun ls hl => ?_)
                refine lv_goto (tgt := 6) hx hb dX2_isSure_80 (by decide) ?_
                exact ih6 (i + 1) (some (wy i q)) (by omega) (by omega) (fun v hv => by cases hv; exact hwy i (by omega) q hq9) (by obtain ⟨v, hv⟩ := oI_ge hc4 c_47; exact surI_s hv hc (by simp [okS, c_23, c_39]) ((nI_eq (by have := hc4 v hv; omega) (by have := hwy i (by omega) q hq9; omega)).mp (by rw [hv] at c_61; exact c_61))) _ _ hP hD hS _ (lv_sub hl [0, 1, 2, 3, 4, 5] rfl)
              · refine lv_iconst (v := nI 0) hx hb dX2_isSure_64 (by decide) ?_
                exact ret _ (sW cI cZ cS cW b0 b1 b2 b3 b4 n m tn sl bg ht rs sn rw wy o) _ _ _ _ dX2_isSure_65 rfl ⟨rfl, bI_f (by obtain ⟨v, hv⟩ := oI_ge hc4 c_47; exact surI_x hv hc (by omega) (by simp [okS, c_23, c_39]) (fun e => c_61 (by rw [hv, e]; rfl)))⟩ (List.Perm.refl _) hP hS
          · refine lv_goto (tgt := 77) hx hb dX2_isSure_42 (by decide) ?_
            refine lv_iinc (v := nI (i + 1)) (lv' := [(5, .int (nI (i + 1))), (4, .int (oI c)), (0, .ref b0), (1, .int (nI p)), (2, .int (nI q)), (3, .ref rx)]) hx hb dX2_isSure_77 hl (k := 0) rfl (nI_add _ _) (by decide) rfl (fun ls hl => ?_)
            refine lv_goto (tgt := 6) hx hb dX2_isSure_80 (by decide) ?_
            exact ih6 (i + 1) c (by omega) (by omega) hc4 (surI_n hc (by simp [okS, c_39])) _ _ hP hD hS _ (lv_sub hl [0, 1, 2, 3, 4, 5] rfl)
  exact lp6 (m + 1) 0 none (by omega) (by omega) (fun v hv => by cases hv) (fun w hw => absurd hw (by omega)) _ _ hP hD hS _ (lv_sub hl [0, 1, 2, 3, 4, 5] rfl)

set_option maxHeartbeats 4000000 in
set_option maxRecDepth 100000 in
theorem m_X2_have (b0 b1 b2 b3 b4 n m tn sl : Nat) (bg : Bool) (ht rs : Nat → Nat) (sn : Nat → Nat → Bool) (rw : Nat → Nat) (wy : Nat → Nat → Nat) (o : Nat → Bool) (ra co : Nat) (fa : Nat → Nat) (hn : n ≤ 5) (hma : (ra, eI cI n fa) ∈ sW cI cZ cS cW b0 b1 b2 b3 b4 n m tn sl bg ht rs sn rw wy o) (hfa : ∀ k, k < n → fa k < 4) (hco : co < 4) : Mp l yX2_have ws_X2_have 0 0 (dC, dI) (tyL cI cZ cS cW) [.ref b0, .ref ra, .int (nI co)] (sW cI cZ cS cW b0 b1 b2 b3 b4 n m tn sl bg ht rs sn rw wy o) (fun r => r = nI (havS fa co n)) := by
  refine Mi_of (by decide +kernel) (Nat.le_of_ble_eq_true rfl) ?_
  intro pr ev sx mi ag bl me cd Q ls S hP hK hD hZ hl ret
  obtain ⟨hx, hb, hml, hown, hts⟩ := id S
  have hown : sx.vm.findClass RX2 = some mi.cls := hown
  have hS : va_S (wIn (sW cI cZ cS cW b0 b1 b2 b3 b4 n m tn sl bg ht rs sn rw wy o)) sx.heap sx.heap [] := va_S.rf
  have hl : lv_has ls 8 [(0, .ref b0), (1, .ref ra), (2, .int (nI co))] := hl
  refine lv_iconst (v := nI 0) hx hb dX2_have_0 (by decide) ?_
  refine lv_istore_n (lv' := [(3, .int (nI 0)), (0, .ref b0), (1, .ref ra), (2, .int (nI co))]) hx hb dX2_have_1 rfl hl (by decide) rfl (fun ls hl => ?_)
  refine lv_aload_n hx hb dX2_have_2 rfl (lv_at hl 2 rfl) ?_
  refine lv_astore (lv' := [(4, .ref ra), (3, .int (nI 0)), (0, .ref b0), (1, .ref ra), (2, .int (nI co))]) hx hb dX2_have_3 hl (by decide) rfl (fun ls hl => ?_)
  refine lv_aload hx hb dX2_have_5 (lv_at hl 0 rfl) ?_
  refine va_alen (v := nI n) hx hb hK (hP.one hma) 0 0 rfl rfl rfl dX2_have_7 ?_
  refine lv_istore (lv' := [(5, .int (nI n)), (4, .ref ra), (3, .int (nI 0)), (0, .ref b0), (1, .ref ra), (2, .int (nI co))]) hx hb dX2_have_8 hl (by decide) rfl (fun ls hl => ?_)
  refine lv_iconst (v := nI 0) hx hb dX2_have_10 (by decide) ?_
  refine lv_istore (lv' := [(6, .int (nI 0)), (5, .int (nI n)), (4, .ref ra), (3, .int (nI 0)), (0, .ref b0), (1, .ref ra), (2, .int (nI co))]) hx hb dX2_have_11 hl (by decide) rfl (fun ls hl => ?_)
  have lp13 : ∀ (kf : Nat) (i : Nat) (a : Nat), n < i + kf → (i ≤ n) → (a = havS fa co i) → ∀ (H : Heap) (locs : List Loc), va_P (dC, dI) vwCl (sW cI cZ cS cW b0 b1 b2 b3 b4 n m tn sl bg ht rs sn rw wy o) H → va_D (wIn (sW cI cZ cS cW b0 b1 b2 b3 b4 n m tn sl bg ht rs sn rw wy o)) (sW cI cZ cS cW b0 b1 b2 b3 b4 n m tn sl bg ht rs sn rw wy o) → va_S (wIn (sW cI cZ cS cW b0 b1 b2 b3 b4 n m tn sl bg ht rs sn rw wy o)) sx.heap H locs → ∀ ls : Array Slot, lv_has ls 8 [(6, .int (nI i)), (5, .int (nI n)), (4, .ref ra), (3, .int (nI a)), (0, .ref b0), (2, .int (nI co))] → W pr l ev (rmB 0 0) sx mi ag bl me cd H locs 0 0 Q (F0 mi 13 ls []) := by
    intro kf
    induction kf with
    | zero => intro i a hkf hi ha; exact absurd hkf (by omega)
    | succ kf ih13 =>
      intro i a hkf hi ha H locs hP hD hS ls hl
      refine lv_iload hx hb dX2_have_13 (lv_at hl 0 rfl) ?_
      refine lv_iload hx hb dX2_have_15 (lv_at hl 1 rfl) ?_
      refine icN_ge (tgt := 47) hx hb dX2_have_17 (by decide) (by omega) (by omega) (fun c_17 => ?_) (fun c_17 => ?_)
      · refine lv_iload_n hx hb dX2_have_47 rfl (lv_at hl 3 rfl) ?_
        exact ret _ (sW cI cZ cS cW b0 b1 b2 b3 b4 n m tn sl bg ht rs sn rw wy o) _ _ _ _ dX2_have_48 rfl ⟨rfl, by rw [ha, show i = n by omega]⟩ (List.Perm.refl _) hP hS
      · refine lv_aload hx hb dX2_have_20 (lv_at hl 2 rfl) ?_
        refine lv_iload hx hb dX2_have_22 (lv_at hl 0 rfl) ?_
        refine ia_ld hx hb hK (hP.one hma) 0 0 rfl rfl (j := i) (by omega) (by omega) dX2_have_24 ?_
        refine lv_istore (lv' := [(7, .int (nI (fa i))), (6, .int (nI i)), (5, .int (nI n)), (4, .ref ra), (3, .int (nI a)), (0, .ref b0), (2, .int (nI co))]) hx hb dX2_have_25 hl (by decide) rfl (fun ls hl => ?_)
        refine lv_iload_n hx hb dX2_have_27 rfl (lv_at hl 4 rfl) ?_
        refine lv_iload hx hb dX2_have_28 (lv_at hl 0 rfl) ?_
        refine lv_iload_n hx hb dX2_have_30 rfl (lv_at hl 6 rfl) ?_
        refine icN_ne (tgt := 38) hx hb dX2_have_31 (by decide) (by have := hfa i (by omega); omega) (by omega) (fun c_31 => ?_) (fun c_31 => ?_)
        · refine lv_iconst (v := nI 0) hx hb dX2_have_38 (by decide) ?_
          refine lv_iadd hx hb dX2_have_39 ?_
          refine W_i (y := nI (a + 0)) (nI_add _ _) ?_
          refine lv_istore_n (lv' := [(3, .int (nI (a + 0))), (7, .int (nI (fa i))), (6, .int (nI i)), (5, .int (nI n)), (4, .ref ra), (0, .ref b0), (2, .int (nI co))]) hx hb dX2_have_40 rfl hl (by decide) rfl (fun ls hl => ?_)
          refine lv_iinc (v := nI (i + 1)) (lv' := [(6, .int (nI (i + 1))), (3, .int (nI (a + 0))), (7, .int (nI (fa i))), (5, .int (nI n)), (4, .ref ra), (0, .ref b0), (2, .int (nI co))]) hx hb dX2_have_41 hl (k := 2) rfl (nI_add _ _) (by decide) rfl (fun ls hl => ?_)
          refine lv_goto (tgt := 13) hx hb dX2_have_44 (by decide) ?_
          exact ih13 (i + 1) _ (by omega) (by omega) (by simp [havS, ha, c_31]) _ _ hP hD hS _ (lv_sub hl [0, 3, 4, 1, 5, 6] rfl)
        · refine lv_iconst (v := nI 1) hx hb dX2_have_34 (by decide) ?_
          refine lv_goto (tgt := 39) hx hb dX2_have_35 (by decide) ?_
          refine lv_iadd hx hb dX2_have_39 ?_
          refine W_i (y := nI (a + 1)) (nI_add _ _) ?_
          refine lv_istore_n (lv' := [(3, .int (nI (a + 1))), (7, .int (nI (fa i))), (6, .int (nI i)), (5, .int (nI n)), (4, .ref ra), (0, .ref b0), (2, .int (nI co))]) hx hb dX2_have_40 rfl hl (by decide) rfl (fun ls hl => ?_)
          refine lv_iinc (v := nI (i + 1)) (lv' := [(6, .int (nI (i + 1))), (3, .int (nI (a + 1))), (7, .int (nI (fa i))), (5, .int (nI n)), (4, .ref ra), (0, .ref b0), (2, .int (nI co))]) hx hb dX2_have_41 hl (k := 2) rfl (nI_add _ _) (by decide) rfl (fun ls hl => ?_)
          refine lv_goto (tgt := 13) hx hb dX2_have_44 (by decide) ?_
          exact ih13 (i + 1) _ (by omega) (by omega) (by simp [havS, ha, c_31]) _ _ hP hD hS _ (lv_sub hl [0, 3, 4, 1, 5, 6] rfl)
  exact lp13 (n + 1) 0 0 (by omega) (by omega) rfl _ _ hP hD hS _ (lv_sub hl [0, 1, 2, 3, 4, 6] rfl)

set_option maxHeartbeats 4000000 in
set_option maxRecDepth 100000 in
theorem m_X2_many (b0 b1 b2 b3 b4 n m tn sl : Nat) (bg : Bool) (ht rs : Nat → Nat) (sn : Nat → Nat → Bool) (rw : Nat → Nat) (wy : Nat → Nat → Nat) (o : Nat → Bool) (hm : m < 2 ^ 31) : Mp l yX2_many ws_X2_many 0 0 (dC, dI) (tyL cI cZ cS cW) [.ref b0] (sW cI cZ cS cW b0 b1 b2 b3 b4 n m tn sl bg ht rs sn rw wy o) (fun r => r = nI (cntP o m)) := by
  refine Mi_of (by decide +kernel) (Nat.le_of_ble_eq_true rfl) ?_
  intro pr ev sx mi ag bl me cd Q ls S hP hK hD hZ hl ret
  obtain ⟨hx, hb, hml, hown, hts⟩ := id S
  have hown : sx.vm.findClass RX2 = some mi.cls := hown
  have hS : va_S (wIn (sW cI cZ cS cW b0 b1 b2 b3 b4 n m tn sl bg ht rs sn rw wy o)) sx.heap sx.heap [] := va_S.rf
  have hl : lv_has ls 6 [(0, .ref b0)] := hl
  refine lv_iconst (v := nI 0) hx hb dX2_many_0 (by decide) ?_
  refine lv_istore_n (lv' := [(1, .int (nI 0)), (0, .ref b0)]) hx hb dX2_many_1 rfl hl (by decide) rfl (fun ls hl => ?_)
  refine lv_aload_n hx hb dX2_many_2 rfl (lv_at hl 1 rfl) ?_
  refine va_get (D := (dC, dI)) (ci := 2) (v := .ref b4) (C := RX2) (T := TX2) (N := 8) hx hb hts inX2 hown hK hP 0 rfl rfl 7 (by decide) (hts _ q_fl_X2_24) (fun _ h9 => h9) rfl dX2_many_3 ?_
  refine lv_astore_n (lv' := [(2, .ref b4), (1, .int (nI 0)), (0, .ref b0)]) hx hb dX2_many_6 rfl hl (by decide) rfl (fun ls hl => ?_)
  refine lv_aload_n hx hb dX2_many_7 rfl (lv_at hl 0 rfl) ?_
  refine va_alen (v := nI m) hx hb hK hP 4 1 rfl rfl rfl dX2_many_8 ?_
  refine lv_istore_n (lv' := [(3, .int (nI m)), (2, .ref b4), (1, .int (nI 0)), (0, .ref b0)]) hx hb dX2_many_9 rfl hl (by decide) rfl (fun ls hl => ?_)
  refine lv_iconst (v := nI 0) hx hb dX2_many_10 (by decide) ?_
  refine lv_istore (lv' := [(4, .int (nI 0)), (3, .int (nI m)), (2, .ref b4), (1, .int (nI 0)), (0, .ref b0)]) hx hb dX2_many_11 hl (by decide) rfl (fun ls hl => ?_)
  have lp13 : ∀ (kf : Nat) (i : Nat) (a : Nat), m < i + kf → (i ≤ m) → (a = cntP o i) → ∀ (H : Heap) (locs : List Loc), va_P (dC, dI) vwCl (sW cI cZ cS cW b0 b1 b2 b3 b4 n m tn sl bg ht rs sn rw wy o) H → va_D (wIn (sW cI cZ cS cW b0 b1 b2 b3 b4 n m tn sl bg ht rs sn rw wy o)) (sW cI cZ cS cW b0 b1 b2 b3 b4 n m tn sl bg ht rs sn rw wy o) → va_S (wIn (sW cI cZ cS cW b0 b1 b2 b3 b4 n m tn sl bg ht rs sn rw wy o)) sx.heap H locs → ∀ ls : Array Slot, lv_has ls 6 [(4, .int (nI i)), (3, .int (nI m)), (2, .ref b4), (1, .int (nI a)), (0, .ref b0)] → W pr l ev (rmB 0 0) sx mi ag bl me cd H locs 0 0 Q (F0 mi 13 ls []) := by
    intro kf
    induction kf with
    | zero => intro i a hkf hi ha; exact absurd hkf (by omega)
    | succ kf ih13 =>
      intro i a hkf hi ha H locs hP hD hS ls hl
      refine lv_iload hx hb dX2_many_13 (lv_at hl 0 rfl) ?_
      refine lv_iload_n hx hb dX2_many_15 rfl (lv_at hl 1 rfl) ?_
      refine icN_ge (tgt := 44) hx hb dX2_many_16 (by decide) (by omega) (by omega) (fun c_16 => ?_) (fun c_16 => ?_)
      · refine lv_iload_n hx hb dX2_many_44 rfl (lv_at hl 3 rfl) ?_
        exact ret _ (sW cI cZ cS cW b0 b1 b2 b3 b4 n m tn sl bg ht rs sn rw wy o) _ _ _ _ dX2_many_45 rfl ⟨rfl, by rw [ha, show i = m by omega]⟩ (List.Perm.refl _) hP hS
      · refine lv_aload_n hx hb dX2_many_19 rfl (lv_at hl 2 rfl) ?_
        refine lv_iload hx hb dX2_many_20 (lv_at hl 0 rfl) ?_
        refine za_ld hx hb hK hP 4 1 rfl rfl (j := i) (by omega) (by omega) dX2_many_22 ?_
        refine lv_istore (lv' := [(5, .int (bI (o i))), (4, .int (nI i)), (3, .int (nI m)), (2, .ref b4), (1, .int (nI a)), (0, .ref b0)]) hx hb dX2_many_23 hl (by decide) rfl (fun ls hl => ?_)
        refine lv_iload_n hx hb dX2_many_25 rfl (lv_at hl 4 rfl) ?_
        refine lv_iload hx hb dX2_many_26 (lv_at hl 0 rfl) ?_
        refine ifB_eq (tgt := 35) hx hb dX2_many_28 (by decide) (fun c_28 => ?_) (fun c_28 => ?_)
        · refine lv_iconst (v := nI 0) hx hb dX2_many_35 (by decide) ?_
          refine lv_iadd hx hb dX2_many_36 ?_
          refine W_i (y := nI (a + 0)) (nI_add _ _) ?_
          refine lv_istore_n (lv' := [(1, .int (nI (a + 0))), (5, .int (bI (o i))), (4, .int (nI i)), (3, .int (nI m)), (2, .ref b4), (0, .ref b0)]) hx hb dX2_many_37 rfl hl (by decide) rfl (fun ls hl => ?_)
          refine lv_iinc (v := nI (i + 1)) (lv' := [(4, .int (nI (i + 1))), (1, .int (nI (a + 0))), (5, .int (bI (o i))), (3, .int (nI m)), (2, .ref b4), (0, .ref b0)]) hx hb dX2_many_38 hl (k := 2) rfl (nI_add _ _) (by decide) rfl (fun ls hl => ?_)
          refine lv_goto (tgt := 13) hx hb dX2_many_41 (by decide) ?_
          exact ih13 (i + 1) _ (by omega) (by omega) (by simp [cntP, ha, c_28]) _ _ hP hD hS _ (lv_sub hl [0, 3, 4, 1, 5] rfl)
        · refine lv_iconst (v := nI 1) hx hb dX2_many_31 (by decide) ?_
          refine lv_goto (tgt := 36) hx hb dX2_many_32 (by decide) ?_
          refine lv_iadd hx hb dX2_many_36 ?_
          refine W_i (y := nI (a + 1)) (nI_add _ _) ?_
          refine lv_istore_n (lv' := [(1, .int (nI (a + 1))), (5, .int (bI (o i))), (4, .int (nI i)), (3, .int (nI m)), (2, .ref b4), (0, .ref b0)]) hx hb dX2_many_37 rfl hl (by decide) rfl (fun ls hl => ?_)
          refine lv_iinc (v := nI (i + 1)) (lv' := [(4, .int (nI (i + 1))), (1, .int (nI (a + 1))), (5, .int (bI (o i))), (3, .int (nI m)), (2, .ref b4), (0, .ref b0)]) hx hb dX2_many_38 hl (k := 2) rfl (nI_add _ _) (by decide) rfl (fun ls hl => ?_)
          refine lv_goto (tgt := 13) hx hb dX2_many_41 (by decide) ?_
          exact ih13 (i + 1) _ (by omega) (by omega) (by simp [cntP, ha, c_28]) _ _ hP hD hS _ (lv_sub hl [0, 3, 4, 1, 5] rfl)
  exact lp13 (m + 1) 0 0 (by omega) (by omega) rfl _ _ hP hD hS _ (lv_sub hl [0, 1, 2, 3, 4] rfl)

set_option maxHeartbeats 4000000 in
set_option maxRecDepth 100000 in
theorem m_X2_certain (b0 b1 b2 b3 b4 n m tn sl : Nat) (bg : Bool) (ht rs : Nat → Nat) (sn : Nat → Nat → Bool) (rw : Nat → Nat) (wy : Nat → Nat → Nat) (o : Nat → Bool) (hn : n ≤ 5) (hm : m < 2 ^ 31) (hht : ∀ k, k < n → ht k < 4) (hwy : ∀ w, w < m → ∀ k, k < n → wy w k < 4) : Mp l yX2_certain ws_X2_certain 2 49 (dC, dI) (tyL cI cZ cS cW) [.ref b0] (sW cI cZ cS cW b0 b1 b2 b3 b4 n m tn sl bg ht rs sn rw wy o) (fun r => r = nI (cerS n m sn ht wy o n)) := by
  refine Mi_of (by decide +kernel) (Nat.le_of_ble_eq_true rfl) ?_
  intro pr ev sx mi ag bl me cd Q ls S hP hK hD hZ hl ret
  obtain ⟨hx, hb, hml, hown, hts⟩ := id S
  have hown : sx.vm.findClass RX2 = some mi.cls := hown
  have hS : va_S (wIn (sW cI cZ cS cW b0 b1 b2 b3 b4 n m tn sl bg ht rs sn rw wy o)) sx.heap sx.heap [] := va_S.rf
  have hl : lv_has ls 3 [(0, .ref b0)] := hl
  refine lv_iconst (v := nI 0) hx hb dX2_certain_0 (by decide) ?_
  refine lv_istore_n (lv' := [(1, .int (nI 0)), (0, .ref b0)]) hx hb dX2_certain_1 rfl hl (by decide) rfl (fun ls hl => ?_)
  refine lv_iconst (v := nI 0) hx hb dX2_certain_2 (by decide) ?_
  refine lv_istore_n (lv' := [(2, .int (nI 0)), (1, .int (nI 0)), (0, .ref b0)]) hx hb dX2_certain_3 rfl hl (by decide) rfl (fun ls hl => ?_)
  have lp4 : ∀ (kf : Nat) (i : Nat) (a : Nat), n < i + kf → (i ≤ n) → (a = cerS n m sn ht wy o i) → ∀ (H : Heap) (locs : List Loc), va_P (dC, dI) vwCl (sW cI cZ cS cW b0 b1 b2 b3 b4 n m tn sl bg ht rs sn rw wy o) H → va_D (wIn (sW cI cZ cS cW b0 b1 b2 b3 b4 n m tn sl bg ht rs sn rw wy o)) (sW cI cZ cS cW b0 b1 b2 b3 b4 n m tn sl bg ht rs sn rw wy o) → va_S (wIn (sW cI cZ cS cW b0 b1 b2 b3 b4 n m tn sl bg ht rs sn rw wy o)) sx.heap H locs → ∀ ls : Array Slot, lv_has ls 3 [(2, .int (nI i)), (1, .int (nI a)), (0, .ref b0)] → W pr l ev (rmB 2 49) sx mi ag bl me cd H locs 0 0 Q (F0 mi 4 ls []) := by
    intro kf
    induction kf with
    | zero => intro i a hkf hi ha; exact absurd hkf (by omega)
    | succ kf ih4 =>
      intro i a hkf hi ha H locs hP hD hS ls hl
      refine lv_iload_n hx hb dX2_certain_4 rfl (lv_at hl 0 rfl) ?_
      refine lv_aload_n hx hb dX2_certain_5 rfl (lv_at hl 2 rfl) ?_
      refine va_get (D := (dC, dI)) (ci := 2) (v := .int (nI n)) (C := RX2) (T := TX2) (N := 8) hx hb hts inX2 hown hK hP 0 rfl rfl 0 (by decide) (hts _ q_fl_X2_27) (fun _ h9 => h9) rfl dX2_certain_6 ?_
      refine icN_ge (tgt := 39) hx hb dX2_certain_9 (by decide) (by omega) (by omega) (fun c_9 => ?_) (fun c_9 => ?_)
      · refine lv_iload_n hx hb dX2_certain_39 rfl (lv_at hl 1 rfl) ?_
        exact ret _ (sW cI cZ cS cW b0 b1 b2 b3 b4 n m tn sl bg ht rs sn rw wy o) _ _ _ _ dX2_certain_40 rfl ⟨rfl, by rw [ha, show i = n by omega]⟩ (List.Perm.refl _) hP hS
      · refine lv_iload_n hx hb dX2_certain_12 rfl (lv_at hl 1 rfl) ?_
        refine lv_aload_n hx hb dX2_certain_13 rfl (lv_at hl 2 rfl) ?_
        refine lv_iload_n hx hb dX2_certain_14 rfl (lv_at hl 0 rfl) ?_
        refine lv_iload_n hx hb dX2_certain_15 rfl (lv_at hl 0 rfl) ?_
        refine lv_aload_n hx hb dX2_certain_16 rfl (lv_at hl 2 rfl) ?_
        refine va_get (D := (dC, dI)) (ci := 2) (v := .ref b1) (C := RX2) (T := TX2) (N := 8) hx hb hts inX2 hown hK hP 0 rfl rfl 4 (by decide) (hts _ q_fl_X2_7) (fun _ h9 => h9) rfl dX2_certain_17 ?_
        refine call_VpS (As := [.int (nI i), .int (nI i), .ref b1]) (rest := [.int (nI a)]) S (m_X2_isSure b0 b1 b2 b3 b4 n m tn sl bg ht rs sn rw wy o i i b1 ht hn (by omega) (by omega) (by omega) (List.mem_append_left _ (List.mem_cons_of_mem _ List.mem_cons_self)) hht hwy) g_X2_X2_isSure hd_X2_isSure ⟨Nat.le_of_ble_eq_true rfl, Nat.le_of_ble_eq_true rfl⟩ ⟨Nat.zero_le _, Nat.zero_le _⟩ hP hD hK hS hZ (List.Sublist.refl _) 0 rfl rfl hl.1 rfl (Nat.le_of_ble_eq_true rfl) dX2_certain_20 (fun r H locs hq hP hS => ?_)
        obtain rfl := hq
        refine ifB_eq (tgt := 30) hx hb dX2_certain_23 (by decide) (fun c_23 => ?_) (fun c_23 => ?_)
        · refine lv_iconst (v := nI 0) hx hb dX2_certain_30 (by decide) ?_
          refine lv_iadd hx hb dX2_certain_31 ?_
          refine W_i (y := nI (a + 0)) (nI_add _ _) ?_
          refine lv_istore_n (lv' := [(1, .int (nI (a + 0))), (2, .int (nI i)), (0, .ref b0)]) hx hb dX2_certain_32 rfl hl (by decide) rfl (fun ls hl => ?_)
          refine lv_iinc (v := nI (i + 1)) (lv' := [(2, .int (nI (i + 1))), (1, .int (nI (a + 0))), (0, .ref b0)]) hx hb dX2_certain_33 hl (k := 1) rfl (nI_add _ _) (by decide) rfl (fun ls hl => ?_)
          refine lv_goto (tgt := 4) hx hb dX2_certain_36 (by decide) ?_
          exact ih4 (i + 1) _ (by omega) (by omega) (by simp [cerS, ha, c_23]) _ _ hP hD hS _ (lv_sub hl [0, 1, 2] rfl)
        · refine lv_iconst (v := nI 1) hx hb dX2_certain_26 (by decide) ?_
          refine lv_goto (tgt := 31) hx hb dX2_certain_27 (by decide) ?_
          refine lv_iadd hx hb dX2_certain_31 ?_
          refine W_i (y := nI (a + 1)) (nI_add _ _) ?_
          refine lv_istore_n (lv' := [(1, .int (nI (a + 1))), (2, .int (nI i)), (0, .ref b0)]) hx hb dX2_certain_32 rfl hl (by decide) rfl (fun ls hl => ?_)
          refine lv_iinc (v := nI (i + 1)) (lv' := [(2, .int (nI (i + 1))), (1, .int (nI (a + 1))), (0, .ref b0)]) hx hb dX2_certain_33 hl (k := 1) rfl (nI_add _ _) (by decide) rfl (fun ls hl => ?_)
          refine lv_goto (tgt := 4) hx hb dX2_certain_36 (by decide) ?_
          exact ih4 (i + 1) _ (by omega) (by omega) (by simp [cerS, ha, c_23]) _ _ hP hD hS _ (lv_sub hl [0, 1, 2] rfl)
  exact lp4 (n + 1) 0 0 (by omega) (by omega) rfl _ _ hP hD hS _ (lv_sub hl [0, 1, 2] rfl)

end
end
section
/-! the moves of the law's own model -/
def isS (f : Nat → Nat) (co many n : Nat) (least : Bool) : Bool := if least = true then decide (many ≤ havS f co n) else decide (havS f co n ≤ many)
def swS (f : Nat → Nat) (a b : Nat) : Nat → Nat := fun k => if k = a then f b else if k = b then f a else f k
theorem swS_up {f : Nat → Nat} {a b : Nat} (h : a ≠ b) : upN (upN f a (f b)) b (f a) = swS f a b := by
  funext k
  by_cases h1 : k = a
  · subst h1; simp [upN, swS, h]
  · by_cases h2 : k = b
    · subst h2; simp [upN, swS, h1]
    · simp [upN, swS, h1, h2]
def nxS (n m : Nat) (sn : Nat → Nat → Bool) (wy : Nat → Nat → Nat) (o : Nat → Bool) (ht : Nat → Nat) (p : Nat) (is : Bool) (w : Nat) : Bool := o w && (surS n m sn wy o p p (wy w) == is) && (!is || wy w p == ht p)
def dg3 (w p : Nat) : Nat := w / 3 ^ p % 3
theorem dg3_lt (w p : Nat) : dg3 w p < 3 := Nat.mod_lt _ (by omega)
def adS (n : Nat) (sn : Nat → Nat → Bool) (p k : Nat) : Bool := !(p == k) && (p == n || k == n || sn p k)
theorem q0_eq (cS : ClassId) : eQ cS 0 (fun _ => 0) = .inl (cS, 0, .inr (.inr (.inr (.inr (fun _ => none))))) := by
  simp [eQ]
theorem rows_pm (A Z B I : va_W) : ((B ++ A) ++ (Z ++ I)).Perm ((A ++ Z) ++ (B ++ I)) := by
  rw [List.append_assoc, List.append_assoc]
  exact ((List.perm_append_comm_assoc Z B I).append_left A |>.trans (List.perm_append_comm_assoc A B (Z ++ I))).symm
section
variable {p : Program} {l : Launch} {e : Env} {R : Room} {s : State} {m : MethodId} {args : Array Value} {below : List Frame} {meth : Method} {c : Code} {H : Heap} {locs : List Loc} {cells slots : Nat} {Q : State → Prop}
variable {pc : Nat} {ls : Array Slot} {rest : List Value} {cc : ByteArray} {D : va_G} {cl : List vw_C} {A : Nat → Prop} {a : Nat} {tys : List (ClassId × FieldType)} {ws : va_W} {H0 : Heap}
/-- a truth row of the last block is written -/
theorem rz_stL {X T : va_W} (hexec : p.tables.exec = Jvm.exec) (hb : c.code = cc) (hK : va_K D cl tys s) {cZ : ClassId} {n m2 : Nat} {sn : Nat → Nat → Bool} {ad : Nat → Nat} (hP : va_P D cl (X ++ (T ++ rB (fun w => eZ cZ n (sn w)) ad m2)) H) (hD : va_D A (X ++ (T ++ rB (fun w => eZ cZ n (sn w)) ad m2))) (hS : va_S A H0 H locs) (t0 : Nat) (ht : tys[t0]? = some (cZ, .boolean)) {w j : Nat} {v : Bool} (hw : w < m2) (hj : j < n) (hn : n < 2 ^ 31) (hdg : decode cc pc = .ok (.bastore, 1))
    (kk : ∀ (H1 : Heap) (locs1 : List Loc), va_P D cl (X ++ (T ++ rB (fun u => eZ cZ n (upN sn w (upN (sn w) j v) u)) ad m2)) H1 → va_D A (X ++ (T ++ rB (fun u => eZ cZ n (upN sn w (upN (sn w) j v) u)) ad m2)) → va_S A H0 H1 locs1 → W p l e R s m args below meth c H1 locs1 cells slots Q (F0 m (pc + 1) ls rest)) : W p l e R s m args below meth c H locs cells slots Q (F0 m pc ls (.int (bI v) :: .int (nI j) :: .ref (ad w) :: rest)) := by
  refine rz_st (X := X) (T := T) (B := []) hexec hb hK (by rw [List.append_nil]; exact hP) (by rw [List.append_nil]; exact hD) hS t0 ht hw hj hn hdg (fun H1 locs1 hP1 hD1 hS1 => ?_)
  rw [List.append_nil] at hP1 hD1
  exact kk H1 locs1 hP1 hD1 hS1
/-- a new row for rows: new T[n][] -/
theorem my_newqA (hexec : p.tables.exec = Jvm.exec) (hb : c.code = cc) {own : String} {index : Nat} {ty : FieldType} (t0 : Nat) {cA : ClassId} (ht0 : tys[t0]? = some (cA, .array ty)) (hprim : ty = .int ∨ ty = .boolean) (hown : s.vm.findClass own = some m.cls) (hclink : (Cond.classLink own index (FieldType.array ty).toString).before args s = true) (hover : va_AOA ty s) (hK : va_K D cl tys s) (hP : va_P D cl ws H) (hD : va_D A ws) (hS : va_S A H0 H locs) (hA : ∀ q, H0.size ≤ q → A q)
    {n : Int32} {N' : Nat} (hn : ¬ n < 0) (hN : n.toNatClampNeg = N') (hbytes : N' * 4 ≤ 536870912) (hcells : cells + 1 ≤ R.cells) (hslots : slots + N' ≤ R.slots) (hdg : decode cc pc = .ok (.anewarray index, 3))
    (kk : ∀ (q : Nat) (H1 : Heap), va_P D cl (ws ++ [(q, .inl (cA, N', .inr (.inr (.inr (.inr (fun _ => none))))))]) H1 → va_D A (ws ++ [(q, .inl (cA, N', .inr (.inr (.inr (.inr (fun _ => none))))))]) → va_S A H0 H1 locs →
      W p l e R s m args below meth c H1 locs (cells + 1) (slots + N') Q (F0 m (pc + 3) ls (.ref q :: rest))) : W p l e R s m args below meth c H locs cells slots Q (F0 m pc ls (.int n :: rest)) := by
  subst hN
  refine W.anewA hexec hb hown hclink (va_AOA.use hover) rfl hdg rfl hn hbytes hcells hslots fun cA2 kA comp f1 f2 f3 f4 => ?_
  have e1 : s.vm.findClass ("[" ++ (FieldType.array ty).toString) = some cA := by
    have h := (hK.2 t0 _ ht0).2
    rcases hprim with rfl | rfl <;> exact h
  have : cA2 = cA := Option.some.inj (f1.symm.trans e1)
  subst this
  generalize hH1 : H.push ({ cls := cA2, slots := Array.replicate n.toNatClampNeg .null, vm := .none } : Cell) = H1
  have z1 : H1.size = H.size + 1 := by rw [← hH1, Array.size_push]
  have g1 : H1[H.size]? = some (arrV cA2 n.toNatClampNeg (fun _ => .null)) := by rw [← hH1, Array.getElem?_push_size, ← arrV_new]
  have o1 : ∀ q : Nat, q < H.size → H1[q]? = H[q]? := fun q hq => by rw [← hH1, Array.getElem?_push, if_neg (Nat.ne_of_lt hq)]
  have hk : ∀ (k : Nat) (x : Nat × va_E), ws[k]? = some x → H1[x.1]? = H[x.1]? := fun k x hx => o1 x.1 ((hP k x hx).lt)
  refine kk H.size H1 ((hP.kept hk).app (fun k x hx => ?_)) (hD.push hP rfl (hA _ hS.1)) ⟨Nat.le_trans hS.1 (by omega), fun x h1 h2 => (o1 x (Nat.lt_of_lt_of_le h1 hS.1)).trans (hS.2.1 x h1 h2), hS.2.2⟩
  have hz : k < 1 := (List.getElem?_eq_some_iff.mp hx).1
  rw [show k = 0 by omega] at hx
  cases hx
  show H1[H.size]? = some (vp_cell _ _)
  rw [vp_cell_q]
  exact g1
/-- an int row goes into a row of rows -/
theorem aa_st (hexec : p.tables.exec = Jvm.exec) (hb : c.code = cc) (hK : va_K D cl tys s) (hover : va_AOA .int s) (hP : va_P D cl ws H) (hD : va_D A ws) (hS : va_S A H0 H locs) (q0 qk t0 t1 : Nat) {cA cI : ClassId} {n v N : Nat} {f : Nat → Option Nat} {g : Nat → Int32} (ha : ws[q0]? = some (a, .inl (cA, n, .inr (.inr (.inr (.inr f)))))) (hv : ws[qk]? = some (v, .inl (cI, N, .inl g))) (ht0 : tys[t0]? = some (cA, .array .int)) (ht1 : tys[t1]? = some (cI, .int)) {j : Nat} (hj : j < n) (hn : n < 2 ^ 31) (hdg : decode cc pc = .ok (.aastore, 1))
    (kk : ∀ (H1 : Heap) (locs1 : List Loc), va_P D cl (ws.set q0 (a, .inl (cA, n, .inr (.inr (.inr (.inr (va_up f j (some v)))))))) H1 → va_D A (ws.set q0 (a, .inl (cA, n, .inr (.inr (.inr (.inr (va_up f j (some v)))))))) → va_S A H0 H1 locs1 → W p l e R s m args below meth c H1 locs1 cells slots Q (F0 m (pc + 1) ls rest)) : W p l e R s m args below meth c H locs cells slots Q (F0 m pc ls (.ref v :: .int (nI j) :: .ref a :: rest)) := by
  obtain ⟨comp, c2, k, d1, -, d2, d3, d4⟩ := arrayOverA_spec (va_AOA.use (A := args) hover)
  have r1 : s.vm.findClass ("[" ++ (FieldType.array .int).toString) = some cA := (hK.2 t0 _ ht0).2
  have r2 : s.vm.findClass (FieldType.array .int).toString = some cI := (hK.2 t1 _ ht1).2
  cases d4.symm.trans r1
  cases d1.symm.trans r2
  obtain ⟨-, kI, hkI, -⟩ := (hK.2 t1 _ ht1).1 N (fun _ => .null)
  have hkI : s.vm.classes[cI]? = some kI := hkI
  refine W.aast hexec hb (hP q0 _ ha) (fun q h => by cases h) (fun h => by cases h) d2 d3 rfl hkI ⟨nI_pos (by omega), by show _ < (arrV _ _ _).slots.size; rw [arrV_size, nI_clamp (by omega)]; exact hj⟩ (hP qk _ hv) (fun q h => by cases h) hkI (by show Vm.assignableAux s.vm (255 + 1) cI cI = true; rw [Vm.assignableAux]; simp) rfl rfl hdg fun H1 e z oq => ?_
  refine kk H1 _ (hP.set hD ha ?_ oq) (hD.set ha) (hS.put z oq (hD.2 q0 _ ha))
  show H1[a]? = some (vp_cell _ _)
  rw [e]
  rw [vp_cell_q, vp_cell_q, arrV_store, nI_clamp (by omega)]
  congr 2
  funext q
  by_cases hq : q = j
  · subst hq
    simp [updV, va_up, va_rf]
  · simp [updV, va_up, hq]
end
section
variable {l : Launch} {dC : Nat → ClassId} {dI : Nat → Nat → Nat} {cI cZ cS cW : ClassId}

set_option maxHeartbeats 4000000 in
set_option maxRecDepth 100000 in
theorem m_X2_say (b0 b1 b2 b3 b4 n m tn sl : Nat) (bg : Bool) (ht rs : Nat → Nat) (sn : Nat → Nat → Bool) (rw : Nat → Nat) (wy : Nat → Nat → Nat) (o : Nat → Bool) (co many : Nat) (least : Bool) (hn : n ≤ 5) (hm : m ≤ 243) (hco : co < 4) (hmany : many < 6) (hwy : ∀ w, w < m → ∀ k, k < n → wy w k < 4) (sz : Nat) : Gi l yX2_say ws_X2_say 1 27 0 0 sz (dC, dI) (tyL cI cZ cS cW) [.ref b0, .int (nI co), .int (nI many), .int (bI least)] (sW cI cZ cS cW b0 b1 b2 b3 b4 n m tn sl bg ht rs sn rw wy o) (fun r u => ∃ o2 : Nat → Bool, r = nI (cntP o2 m) ∧ (∀ w, w < m → o2 w = (o w && isS (wy w) co many n least)) ∧ u = sW cI cZ cS cW b0 b1 b2 b3 b4 n m tn sl true ht rs sn rw wy o2) := by
  refine Gi_of (by decide +kernel) (Nat.le_of_ble_eq_true rfl) ?_
  intro pr ev sx mi ag bl me cd Q ls A S hP hK hD hA hZ hl hin ret
  obtain ⟨hx, hb, hml, hown, hts⟩ := id S
  have hown : sx.vm.findClass RX2 = some mi.cls := hown
  have hS : va_S A sx.heap sx.heap [] := va_S.rf
  have hl : lv_has ls 6 [(0, .ref b0), (1, .int (nI co)), (2, .int (nI many)), (3, .int (bI least))] := hl
  refine lv_iconst (v := nI 0) hx hb dX2_say_0 (by decide) ?_
  refine lv_istore (lv' := [(4, .int (nI 0)), (0, .ref b0), (1, .int (nI co)), (2, .int (nI many)), (3, .int (bI least))]) hx hb dX2_say_1 hl (by decide) rfl (fun ls hl => ?_)
  have lp3 : ∀ (kf : Nat) (i : Nat) (g : Nat → Bool), m < i + kf → (i ≤ m) → (∀ w, w < i → g w = (o w && isS (wy w) co many n least)) → (∀ w, i ≤ w → g w = o w) → ∀ (H : Heap) (locs : List Loc), va_P (dC, dI) vwCl (sW cI cZ cS cW b0 b1 b2 b3 b4 n m tn sl bg ht rs sn rw wy g) H → va_D A (sW cI cZ cS cW b0 b1 b2 b3 b4 n m tn sl bg ht rs sn rw wy g) → va_S A sx.heap H locs → ∀ ls : Array Slot, lv_has ls 6 [(4, .int (nI i)), (0, .ref b0), (1, .int (nI co)), (2, .int (nI many)), (3, .int (bI least))] → W pr l ev (rmG 1 27 0 0) sx mi ag bl me cd H locs 0 0 Q (F0 mi 3 ls []) := by
    intro kf
    induction kf with
    | zero => intro i g hkf hi hg1 hg2; exact absurd hkf (by omega)
    | succ kf ih3 =>
      intro i g hkf hi hg1 hg2 H locs hP hD hS ls hl
      refine lv_iload hx hb dX2_say_3 (lv_at hl 0 rfl) ?_
      refine lv_aload_n hx hb dX2_say_5 rfl (lv_at hl 1 rfl) ?_
      refine va_get (D := (dC, dI)) (ci := 2) (v := .ref b3) (C := RX2) (T := TX2) (N := 8) hx hb hts inX2 hown hK hP 0 rfl rfl 6 (by decide) (hts _ q_fl_X2_20) (fun _ h9 => h9) rfl dX2_say_6 ?_
      refine va_alen (v := nI m) hx hb hK hP 3 3 rfl rfl rfl dX2_say_9 ?_
      refine icN_ge (tgt := 74) hx hb dX2_say_10 (by decide) (by omega) (by omega) (fun c_10 => ?_) (fun c_10 => ?_)
      · refine lv_aload_n hx hb dX2_say_74 rfl (lv_at hl 1 rfl) ?_
        refine lv_iconst (v := nI 1) hx hb dX2_say_75 (by decide) ?_
        refine W_i (y := bI true) rfl ?_
        refine va_put (D := (dC, dI)) (ci := 2) (v := .int (bI true)) (ty := .boolean) (C := RX2) (T := TX2) (N := 8) hx hb hts inX2 tyX2 tyX2_ok nmX2 hown hK hP hD hS 0 rfl rfl 3 (by decide) (hts _ q_fl_X2_50) (fun _ h9 => h9) rfl (by decide +kernel) rfl rfl (Nat.le_of_ble_eq_true rfl) dX2_say_76 (fun H locs hP hD hS => ?_)
        have hP : va_P (dC, dI) vwCl (sW cI cZ cS cW b0 b1 b2 b3 b4 n m tn sl true ht rs sn rw wy g) H := hP
        have hD : va_D A (sW cI cZ cS cW b0 b1 b2 b3 b4 n m tn sl true ht rs sn rw wy g) := hD
        refine lv_aload_n hx hb dX2_say_79 rfl (lv_at hl 1 rfl) ?_
        refine call_VpS (As := []) (rest := []) S (m_X2_many b0 b1 b2 b3 b4 n m tn sl true ht rs sn rw wy g (by omega)) g_X2_X2_many hd_X2_many ⟨Nat.le_of_ble_eq_true rfl, Nat.le_of_ble_eq_true rfl⟩ ⟨by show _ ≤ 0; omega, by show _ ≤ 0; omega⟩ hP hD hK hS hZ (List.Sublist.refl _) 0 rfl rfl hl.1 rfl (Nat.le_of_ble_eq_true rfl) dX2_say_80 (fun r H locs hq hP hS => ?_)
        obtain rfl := hq
        refine W.widen (k := 0) (n := 0) (by omega) (by omega) ?_
        exact ret _ (sW cI cZ cS cW b0 b1 b2 b3 b4 n m tn sl true ht rs sn rw wy g) _ _ _ _ dX2_say_83 rfl ⟨g, rfl, fun w hw => hg1 w (by omega), rfl⟩ hP hD hS
      · refine lv_aload_n hx hb dX2_say_13 rfl (lv_at hl 1 rfl) ?_
        refine lv_aload_n hx hb dX2_say_14 rfl (lv_at hl 1 rfl) ?_
        refine va_get (D := (dC, dI)) (ci := 2) (v := .ref b3) (C := RX2) (T := TX2) (N := 8) hx hb hts inX2 hown hK hP 0 rfl rfl 6 (by decide) (hts _ q_fl_X2_20) (fun _ h9 => h9) rfl dX2_say_15 ?_
        refine lv_iload hx hb dX2_say_18 (lv_at hl 0 rfl) ?_
        refine aa_ld hx hb hK hP 3 3 rfl rfl (j := i) (by omega) (by omega) dX2_say_20 ?_
        refine lv_iload_n hx hb dX2_say_21 rfl (lv_at hl 2 rfl) ?_
        refine call_VpS (As := [.ref (rw i), .int (nI co)]) (rest := []) S (m_X2_have b0 b1 b2 b3 b4 n m tn sl bg ht rs sn rw wy g (rw i) co (wy i) hn (List.mem_append_right _ (List.mem_append_right _ (rB_mem (by omega)))) (hwy i (by omega)) (by omega)) g_X2_X2_have hd_X2_have ⟨Nat.le_of_ble_eq_true rfl, Nat.le_of_ble_eq_true rfl⟩ ⟨by show _ ≤ 0; omega, by show _ ≤ 0; omega⟩ hP hD hK hS hZ (List.Sublist.refl _) 0 rfl rfl hl.1 rfl (Nat.le_of_ble_eq_true rfl) dX2_say_22 (fun r H locs hq hP hS => ?_)
        obtain rfl := hq
        refine lv_istore (lv' := [(5, .int (nI (havS (wy i) co n))), (4, .int (nI i)), (0, .ref b0), (1, .int (nI co)), (2, .int (nI many)), (3, .int (bI least))]) hx hb dX2_say_25 hl (by decide) rfl (fun ls hl => ?_)
        refine lv_aload_n hx hb dX2_say_27 rfl (lv_at hl 2 rfl) ?_
        refine va_get (D := (dC, dI)) (ci := 2) (v := .ref b4) (C := RX2) (T := TX2) (N := 8) hx hb hts inX2 hown hK hP 0 rfl rfl 7 (by decide) (hts _ q_fl_X2_24) (fun _ h9 => h9) rfl dX2_say_28 ?_
        refine lv_iload hx hb dX2_say_31 (lv_at hl 1 rfl) ?_
        refine lv_aload_n hx hb dX2_say_33 rfl (lv_at hl 2 rfl) ?_
        refine va_get (D := (dC, dI)) (ci := 2) (v := .ref b4) (C := RX2) (T := TX2) (N := 8) hx hb hts inX2 hown hK hP 0 rfl rfl 7 (by decide) (hts _ q_fl_X2_24) (fun _ h9 => h9) rfl dX2_say_34 ?_
        refine lv_iload hx hb dX2_say_37 (lv_at hl 1 rfl) ?_
        refine za_ld hx hb hK hP 4 1 rfl rfl (j := i) (by omega) (by omega) dX2_say_39 ?_
        refine ifB_eq (tgt := 66) hx hb dX2_say_40 (by decide) (fun c_40 => ?_) (fun c_40 => ?_)
        · refine lv_iconst (v := nI 0) hx hb dX2_say_66 (by decide) ?_
          refine W_i (y := bI false) rfl ?_
          refine za_st hx hb hK hP hD hS 4 1 rfl rfl (j := i) (v := false) (by omega) (by omega) dX2_say_67 (fun H locs hP hD hS => ?_)
          have hP : va_P (dC, dI) vwCl (sW cI cZ cS cW b0 b1 b2 b3 b4 n m tn sl bg ht rs sn rw wy (upN g i false)) H := hP
          have hD : va_D A (sW cI cZ cS cW b0 b1 b2 b3 b4 n m tn sl bg ht rs sn rw wy (upN g i false)) := hD
          refine lv_iinc (v := nI (i + 1)) (lv' := [(4, .int (nI (i + 1))), (5, .int (nI (havS (wy i) co n))), (0, .ref b0), (1, .int (nI co)), (2, .int (nI many)), (3, .int (bI least))]) hx hb dX2_say_68 hl (k := 1) rfl (nI_add _ _) (by decide) rfl (fun ls hl => ?_)
          refine lv_goto (tgt := 3) hx hb dX2_say_71 (by decide) ?_
          exact ih3 (i + 1) _ (by omega) (by omega) (fun w hw => by rcases Nat.lt_or_ge w i with z | z; (· rw [upN_n _ _ (by omega)]; exact hg1 w z); (· rw [show w = i by omega, upN_s]; exact (by simp [← hg2 i (by omega), c_40]))) (fun w hw => by rw [upN_n _ _ (by omega)]; exact hg2 w (by omega)) _ _ hP hD hS _ (lv_sub hl [0, 2, 3, 4, 5] rfl)
        · refine lv_iload_n hx hb dX2_say_43 rfl (lv_at hl 5 rfl) ?_
          refine ifB_eq (tgt := 56) hx hb dX2_say_44 (by decide) (fun c_44 => ?_) (fun c_44 => ?_)
          · refine lv_iload hx hb dX2_say_56 (lv_at hl 0 rfl) ?_
            refine lv_iload_n hx hb dX2_say_58 rfl (lv_at hl 4 rfl) ?_
            refine icN_gt (tgt := 66) hx hb dX2_say_59 (by decide) (by have := havS_le (wy i) co n; omega) (by omega) (fun c_59 => ?_) (fun c_59 => ?_)
            · refine lv_iconst (v := nI 0) hx hb dX2_say_66 (by decide) ?_
              refine W_i (y := bI false) rfl ?_
              refine za_st hx hb hK hP hD hS 4 1 rfl rfl (j := i) (v := false) (by omega) (by omega) dX2_say_67 (fun H locs hP hD hS => ?_)
              have hP : va_P (dC, dI) vwCl (sW cI cZ cS cW b0 b1 b2 b3 b4 n m tn sl bg ht rs sn rw wy (upN g i false)) H := hP
              have hD : va_D A (sW cI cZ cS cW b0 b1 b2 b3 b4 n m tn sl bg ht rs sn rw wy (upN g i false)) := hD
              refine lv_iinc (v := nI (i + 1)) (lv' := [(4, .int (nI (i + 1))), (5, .int (nI (havS (wy i) co n))), (0, .ref b0), (1, .int (nI co)), (2, .int (nI many)), (3, .int (bI least))]) hx hb dX2_say_68 hl (k := 1) rfl (nI_add _ _) (by decide) rfl (fun ls hl => ?_)
              refine lv_goto (tgt := 3) hx hb dX2_say_71 (by decide) ?_
              exact ih3 (i + 1) _ (by omega) (by omega) (fun w hw => by rcases Nat.lt_or_ge w i with z | z; (· rw [upN_n _ _ (by omega)]; exact hg1 w z); (· rw [show w = i by omega, upN_s]; exact (by simp [isS, (show o i = true by rw [← hg2 i (by omega)]; exact c_40), c_44]; omega))) (fun w hw => by rw [upN_n _ _ (by omega)]; exact hg2 w (by omega)) _ _ hP hD hS _ (lv_sub hl [0, 2, 3, 4, 5] rfl)
            · refine lv_iconst (v := nI 1) hx hb dX2_say_62 (by decide) ?_
              refine lv_goto (tgt := 67) hx hb dX2_say_63 (by decide) ?_
              refine W_i (y := bI true) rfl ?_
              refine za_st hx hb hK hP hD hS 4 1 rfl rfl (j := i) (v := true) (by omega) (by omega) dX2_say_67 (fun H locs hP hD hS => ?_)
              have hP : va_P (dC, dI) vwCl (sW cI cZ cS cW b0 b1 b2 b3 b4 n m tn sl bg ht rs sn rw wy (upN g i true)) H := hP
              have hD : va_D A (sW cI cZ cS cW b0 b1 b2 b3 b4 n m tn sl bg ht rs sn rw wy (upN g i true)) := hD
              refine lv_iinc (v := nI (i + 1)) (lv' := [(4, .int (nI (i + 1))), (5, .int (nI (havS (wy i) co n))), (0, .ref b0), (1, .int (nI co)), (2, .int (nI many)), (3, .int (bI least))]) hx hb dX2_say_68 hl (k := 1) rfl (nI_add _ _) (by decide) rfl (fun ls hl => ?_)
              refine lv_goto (tgt := 3) hx hb dX2_say_71 (by decide) ?_
              exact ih3 (i + 1) _ (by omega) (by omega) (fun w hw => by rcases Nat.lt_or_ge w i with z | z; (· rw [upN_n _ _ (by omega)]; exact hg1 w z); (· rw [show w = i by omega, upN_s]; exact (by simp [isS, (show o i = true by rw [← hg2 i (by omega)]; exact c_40), c_44, c_59]))) (fun w hw => by rw [upN_n _ _ (by omega)]; exact hg2 w (by omega)) _ _ hP hD hS _ (lv_sub hl [0, 2, 3, 4, 5] rfl)
          · refine lv_iload hx hb dX2_say_47 (lv_at hl 0 rfl) ?_
            refine lv_iload_n hx hb dX2_say_49 rfl (lv_at hl 4 rfl) ?_
            refine icN_lt (tgt := 66) hx hb dX2_say_50 (by decide) (by have := havS_le (wy i) co n; omega) (by omega) (fun c_50 => ?_) (fun c_50 => ?_)
            · refine lv_iconst (v := nI 0) hx hb dX2_say_66 (by decide) ?_
              refine W_i (y := bI false) rfl ?_
              refine za_st hx hb hK hP hD hS 4 1 rfl rfl (j := i) (v := false) (by omega) (by omega) dX2_say_67 (fun H locs hP hD hS => ?_)
              have hP : va_P (dC, dI) vwCl (sW cI cZ cS cW b0 b1 b2 b3 b4 n m tn sl bg ht rs sn rw wy (upN g i false)) H := hP
              have hD : va_D A (sW cI cZ cS cW b0 b1 b2 b3 b4 n m tn sl bg ht rs sn rw wy (upN g i false)) := hD
              refine lv_iinc (v := nI (i + 1)) (lv' := [(4, .int (nI (i + 1))), (5, .int (nI (havS (wy i) co n))), (0, .ref b0), (1, .int (nI co)), (2, .int (nI many)), (3, .int (bI least))]) hx hb dX2_say_68 hl (k := 1) rfl (nI_add _ _) (by decide) rfl (fun ls hl => ?_)
              refine lv_goto (tgt := 3) hx hb dX2_say_71 (by decide) ?_
              exact ih3 (i + 1) _ (by omega) (by omega) (fun w hw => by rcases Nat.lt_or_ge w i with z | z; (· rw [upN_n _ _ (by omega)]; exact hg1 w z); (· rw [show w = i by omega, upN_s]; exact (by simp [isS, (show o i = true by rw [← hg2 i (by omega)]; exact c_40), c_44]; omega))) (fun w hw => by rw [upN_n _ _ (by omega)]; exact hg2 w (by omega)) _ _ hP hD hS _ (lv_sub hl [0, 2, 3, 4, 5] rfl)
            · refine lv_goto (tgt := 62) hx hb dX2_say_53 (by decide) ?_
              refine lv_iconst (v := nI 1) hx hb dX2_say_62 (by decide) ?_
              refine lv_goto (tgt := 67) hx hb dX2_say_63 (by decide) ?_
              refine W_i (y := bI true) rfl ?_
              refine za_st hx hb hK hP hD hS 4 1 rfl rfl (j := i) (v := true) (by omega) (by omega) dX2_say_67 (fun H locs hP hD hS => ?_)
              have hP : va_P (dC, dI) vwCl (sW cI cZ cS cW b0 b1 b2 b3 b4 n m tn sl bg ht rs sn rw wy (upN g i true)) H := hP
              have hD : va_D A (sW cI cZ cS cW b0 b1 b2 b3 b4 n m tn sl bg ht rs sn rw wy (upN g i true)) := hD
              refine lv_iinc (v := nI (i + 1)) (lv' := [(4, .int (nI (i + 1))), (5, .int (nI (havS (wy i) co n))), (0, .ref b0), (1, .int (nI co)), (2, .int (nI many)), (3, .int (bI least))]) hx hb dX2_say_68 hl (k := 1) rfl (nI_add _ _) (by decide) rfl (fun ls hl => ?_)
              refine lv_goto (tgt := 3) hx hb dX2_say_71 (by decide) ?_
              exact ih3 (i + 1) _ (by omega) (by omega) (fun w hw => by rcases Nat.lt_or_ge w i with z | z; (· rw [upN_n _ _ (by omega)]; exact hg1 w z); (· rw [show w = i by omega, upN_s]; exact (by simp [isS, (show o i = true by rw [← hg2 i (by omega)]; exact c_40), c_44, c_50]))) (fun w hw => by rw [upN_n _ _ (by omega)]; exact hg2 w (by omega)) _ _ hP hD hS _ (lv_sub hl [0, 2, 3, 4, 5] rfl)
  exact lp3 (m + 1) 0 o (by omega) (by omega) (fun w hw => absurd hw (by omega)) (fun _ _ => rfl) _ _ hP hD hS _ (lv_sub hl [0, 1, 2, 3, 4] rfl)

set_option maxHeartbeats 4000000 in
set_option maxRecDepth 100000 in
theorem m_X2_borrow (b0 b1 b2 b3 b4 n m tn sl : Nat) (bg : Bool) (ht rs : Nat → Nat) (sn : Nat → Nat → Bool) (rw : Nat → Nat) (wy : Nat → Nat → Nat) (o : Nat → Bool) (a b : Nat) (hn : n ≤ 5) (hm : m ≤ 243) (ha5 : a < n) (hb5 : b < n) (hab : a ≠ b) (sz : Nat) : Gv l yX2_borrow ws_X2_borrow 0 0 0 0 sz (dC, dI) (tyL cI cZ cS cW) [.ref b0, .int (nI a), .int (nI b)] (sW cI cZ cS cW b0 b1 b2 b3 b4 n m tn sl bg ht rs sn rw wy o) (fun u => ∃ wy2 : Nat → Nat → Nat, (∀ w, w < m → wy2 w = swS (wy w) a b) ∧ u = sW cI cZ cS cW b0 b1 b2 b3 b4 n m tn sl true (upN (upN ht a (ht b)) b (ht a)) rs sn rw wy2 o) := by
  refine Gv_of (by decide +kernel) (Nat.le_of_ble_eq_true rfl) ?_
  intro pr ev sx mi ag bl me cd Q ls A S hP hK hD hA hZ hl hin ret
  obtain ⟨hx, hb, hml, hown, hts⟩ := id S
  have hown : sx.vm.findClass RX2 = some mi.cls := hown
  have hS : va_S A sx.heap sx.heap [] := va_S.rf
  have hl : lv_has ls 8 [(0, .ref b0), (1, .int (nI a)), (2, .int (nI b))] := hl
  refine lv_aload_n hx hb dX2_borrow_0 rfl (lv_at hl 0 rfl) ?_
  refine va_get (D := (dC, dI)) (ci := 2) (v := .ref b3) (C := RX2) (T := TX2) (N := 8) hx hb hts inX2 hown hK hP 0 rfl rfl 6 (by decide) (hts _ q_fl_X2_20) (fun _ h9 => h9) rfl dX2_borrow_1 ?_
  refine lv_astore_n (lv' := [(3, .ref b3), (0, .ref b0), (1, .int (nI a)), (2, .int (nI b))]) hx hb dX2_borrow_4 rfl hl (by decide) rfl (fun ls hl => ?_)
  refine lv_aload_n hx hb dX2_borrow_5 rfl (lv_at hl 0 rfl) ?_
  refine va_alen (v := nI m) hx hb hK hP 3 3 rfl rfl rfl dX2_borrow_6 ?_
  refine lv_istore (lv' := [(4, .int (nI m)), (3, .ref b3), (0, .ref b0), (1, .int (nI a)), (2, .int (nI b))]) hx hb dX2_borrow_7 hl (by decide) rfl (fun ls hl => ?_)
  refine lv_iconst (v := nI 0) hx hb dX2_borrow_9 (by decide) ?_
  refine lv_istore (lv' := [(5, .int (nI 0)), (4, .int (nI m)), (3, .ref b3), (0, .ref b0), (1, .int (nI a)), (2, .int (nI b))]) hx hb dX2_borrow_10 hl (by decide) rfl (fun ls hl => ?_)
  have lp12 : ∀ (kf : Nat) (i : Nat) (g : Nat → Nat → Nat), m < i + kf → (i ≤ m) → (∀ w, w < i → g w = swS (wy w) a b) → (∀ w, i ≤ w → g w = wy w) → ∀ (H : Heap) (locs : List Loc), va_P (dC, dI) vwCl (sW cI cZ cS cW b0 b1 b2 b3 b4 n m tn sl bg ht rs sn rw g o) H → va_D A (sW cI cZ cS cW b0 b1 b2 b3 b4 n m tn sl bg ht rs sn rw g o) → va_S A sx.heap H locs → ∀ ls : Array Slot, lv_has ls 8 [(5, .int (nI i)), (4, .int (nI m)), (3, .ref b3), (0, .ref b0), (1, .int (nI a)), (2, .int (nI b))] → W pr l ev (rmG 0 0 0 0) sx mi ag bl me cd H locs 0 0 Q (F0 mi 12 ls []) := by
    intro kf
    induction kf with
    | zero => intro i g hkf hi hg1 hg2; exact absurd hkf (by omega)
    | succ kf ih12 =>
      intro i g hkf hi hg1 hg2 H locs hP hD hS ls hl
      refine lv_iload hx hb dX2_borrow_12 (lv_at hl 0 rfl) ?_
      refine lv_iload hx hb dX2_borrow_14 (lv_at hl 1 rfl) ?_
      refine icN_ge (tgt := 51) hx hb dX2_borrow_16 (by decide) (by omega) (by omega) (fun c_16 => ?_) (fun c_16 => ?_)
      · refine lv_aload_n hx hb dX2_borrow_51 rfl (lv_at hl 3 rfl) ?_
        refine va_get (D := (dC, dI)) (ci := 2) (v := .ref b1) (C := RX2) (T := TX2) (N := 8) hx hb hts inX2 hown hK hP 0 rfl rfl 4 (by decide) (hts _ q_fl_X2_7) (fun _ h9 => h9) rfl dX2_borrow_52 ?_
        refine lv_iload_n hx hb dX2_borrow_55 rfl (lv_at hl 4 rfl) ?_
        refine ia_ld hx hb hK hP 1 0 rfl rfl (j := a) (by omega) (by omega) dX2_borrow_56 ?_
        refine lv_istore_n (lv' := [(3, .int (nI (ht a))), (5, .int (nI i)), (4, .int (nI m)), (0, .ref b0), (1, .int (nI a)), (2, .int (nI b))]) hx hb dX2_borrow_57 rfl hl (by decide) rfl (fun ls hl => ?_)
        refine lv_aload_n hx hb dX2_borrow_58 rfl (lv_at hl 3 rfl) ?_
        refine va_get (D := (dC, dI)) (ci := 2) (v := .ref b1) (C := RX2) (T := TX2) (N := 8) hx hb hts inX2 hown hK hP 0 rfl rfl 4 (by decide) (hts _ q_fl_X2_7) (fun _ h9 => h9) rfl dX2_borrow_59 ?_
        refine lv_iload_n hx hb dX2_borrow_62 rfl (lv_at hl 4 rfl) ?_
        refine lv_aload_n hx hb dX2_borrow_63 rfl (lv_at hl 3 rfl) ?_
        refine va_get (D := (dC, dI)) (ci := 2) (v := .ref b1) (C := RX2) (T := TX2) (N := 8) hx hb hts inX2 hown hK hP 0 rfl rfl 4 (by decide) (hts _ q_fl_X2_7) (fun _ h9 => h9) rfl dX2_borrow_64 ?_
        refine lv_iload_n hx hb dX2_borrow_67 rfl (lv_at hl 5 rfl) ?_
        refine ia_ld hx hb hK hP 1 0 rfl rfl (j := b) (by omega) (by omega) dX2_borrow_68 ?_
        refine ia_st hx hb hK hP hD hS 1 0 rfl rfl (j := a) (v := ht b) (by omega) (by omega) dX2_borrow_69 (fun H locs hP hD hS => ?_)
        have hP : va_P (dC, dI) vwCl (sW cI cZ cS cW b0 b1 b2 b3 b4 n m tn sl bg (upN ht a (ht b)) rs sn rw g o) H := hP
        have hD : va_D A (sW cI cZ cS cW b0 b1 b2 b3 b4 n m tn sl bg (upN ht a (ht b)) rs sn rw g o) := hD
        refine lv_aload_n hx hb dX2_borrow_70 rfl (lv_at hl 3 rfl) ?_
        refine va_get (D := (dC, dI)) (ci := 2) (v := .ref b1) (C := RX2) (T := TX2) (N := 8) hx hb hts inX2 hown hK hP 0 rfl rfl 4 (by decide) (hts _ q_fl_X2_7) (fun _ h9 => h9) rfl dX2_borrow_71 ?_
        refine lv_iload_n hx hb dX2_borrow_74 rfl (lv_at hl 5 rfl) ?_
        refine lv_iload_n hx hb dX2_borrow_75 rfl (lv_at hl 0 rfl) ?_
        refine ia_st hx hb hK hP hD hS 1 0 rfl rfl (j := b) (v := ht a) (by omega) (by omega) dX2_borrow_76 (fun H locs hP hD hS => ?_)
        have hP : va_P (dC, dI) vwCl (sW cI cZ cS cW b0 b1 b2 b3 b4 n m tn sl bg (upN (upN ht a (ht b)) b (ht a)) rs sn rw g o) H := hP
        have hD : va_D A (sW cI cZ cS cW b0 b1 b2 b3 b4 n m tn sl bg (upN (upN ht a (ht b)) b (ht a)) rs sn rw g o) := hD
        refine lv_aload_n hx hb dX2_borrow_77 rfl (lv_at hl 3 rfl) ?_
        refine lv_iconst (v := nI 1) hx hb dX2_borrow_78 (by decide) ?_
        refine W_i (y := bI true) rfl ?_
        refine va_put (D := (dC, dI)) (ci := 2) (v := .int (bI true)) (ty := .boolean) (C := RX2) (T := TX2) (N := 8) hx hb hts inX2 tyX2 tyX2_ok nmX2 hown hK hP hD hS 0 rfl rfl 3 (by decide) (hts _ q_fl_X2_50) (fun _ h9 => h9) rfl (by decide +kernel) rfl rfl (Nat.le_of_ble_eq_true rfl) dX2_borrow_79 (fun H locs hP hD hS => ?_)
        have hP : va_P (dC, dI) vwCl (sW cI cZ cS cW b0 b1 b2 b3 b4 n m tn sl true (upN (upN ht a (ht b)) b (ht a)) rs sn rw g o) H := hP
        have hD : va_D A (sW cI cZ cS cW b0 b1 b2 b3 b4 n m tn sl true (upN (upN ht a (ht b)) b (ht a)) rs sn rw g o) := hD
        refine W.widen (k := 0) (n := 0) (by omega) (by omega) ?_
        exact ret (sW cI cZ cS cW b0 b1 b2 b3 b4 n m tn sl true (upN (upN ht a (ht b)) b (ht a)) rs sn rw g o) _ _ _ _ dX2_borrow_82 ⟨g, fun w hw => hg1 w (by omega), rfl⟩ hP hD hS
      · refine lv_aload_n hx hb dX2_borrow_19 rfl (lv_at hl 2 rfl) ?_
        refine lv_iload hx hb dX2_borrow_20 (lv_at hl 0 rfl) ?_
        refine aa_ld hx hb hK hP 3 3 rfl rfl (j := i) (by omega) (by omega) dX2_borrow_22 ?_
        refine lv_astore (lv' := [(6, .ref (rw i)), (5, .int (nI i)), (4, .int (nI m)), (3, .ref b3), (0, .ref b0), (1, .int (nI a)), (2, .int (nI b))]) hx hb dX2_borrow_23 hl (by decide) rfl (fun ls hl => ?_)
        refine lv_aload hx hb dX2_borrow_25 (lv_at hl 0 rfl) ?_
        refine lv_iload_n hx hb dX2_borrow_27 rfl (lv_at hl 5 rfl) ?_
        refine ia_ld hx hb hK (hP.one (List.mem_append_right _ (List.mem_append_right _ (rB_mem (by omega))))) 0 0 rfl rfl (j := a) (by omega) (by omega) dX2_borrow_28 ?_
        refine lv_istore (lv' := [(7, .int (nI (g i a))), (6, .ref (rw i)), (5, .int (nI i)), (4, .int (nI m)), (3, .ref b3), (0, .ref b0), (1, .int (nI a)), (2, .int (nI b))]) hx hb dX2_borrow_29 hl (by decide) rfl (fun ls hl => ?_)
        refine lv_aload hx hb dX2_borrow_31 (lv_at hl 1 rfl) ?_
        refine lv_iload_n hx hb dX2_borrow_33 rfl (lv_at hl 6 rfl) ?_
        refine lv_aload hx hb dX2_borrow_34 (lv_at hl 1 rfl) ?_
        refine lv_iload_n hx hb dX2_borrow_36 rfl (lv_at hl 7 rfl) ?_
        refine ia_ld hx hb hK (hP.one (List.mem_append_right _ (List.mem_append_right _ (rB_mem (by omega))))) 0 0 rfl rfl (j := b) (by omega) (by omega) dX2_borrow_37 ?_
        refine ri_st (X := [(b0, .inr (2, [.int (nI n), .int (nI tn), .int (nI sl), .int (bI bg), .ref b1, .ref b2, .ref b3, .ref b4])), (b1, .inl (cI, n, .inl (fun k => nI (ht k)))), (b2, eQ cS n rs), (b3, eQ cW m rw), (b4, .inl (cZ, m, .inl (fun k => bI (o k))))]) (T := rB (fun w0 => eZ cZ n (sn w0)) rs n) (wy := g) (n := n) (ad := rw) (m2 := m) hx hb hK hP hD hS 0 rfl (w := i) (j := a) (v := g i b) (by omega) (by omega) (by omega) dX2_borrow_38 (fun H locs hP hD hS => ?_)
        have hP : va_P (dC, dI) vwCl (sW cI cZ cS cW b0 b1 b2 b3 b4 n m tn sl bg ht rs sn rw (upN g i (upN (g i) a (g i b))) o) H := hP
        have hD : va_D A (sW cI cZ cS cW b0 b1 b2 b3 b4 n m tn sl bg ht rs sn rw (upN g i (upN (g i) a (g i b))) o) := hD
        refine lv_aload hx hb dX2_borrow_39 (lv_at hl 1 rfl) ?_
        refine lv_iload_n hx hb dX2_borrow_41 rfl (lv_at hl 7 rfl) ?_
        refine lv_iload hx hb dX2_borrow_42 (lv_at hl 0 rfl) ?_
        refine ri_st (X := [(b0, .inr (2, [.int (nI n), .int (nI tn), .int (nI sl), .int (bI bg), .ref b1, .ref b2, .ref b3, .ref b4])), (b1, .inl (cI, n, .inl (fun k => nI (ht k)))), (b2, eQ cS n rs), (b3, eQ cW m rw), (b4, .inl (cZ, m, .inl (fun k => bI (o k))))]) (T := rB (fun w0 => eZ cZ n (sn w0)) rs n) (wy := (upN g i (upN (g i) a (g i b)))) (n := n) (ad := rw) (m2 := m) hx hb hK hP hD hS 0 rfl (w := i) (j := b) (v := g i a) (by omega) (by omega) (by omega) dX2_borrow_44 (fun H locs hP hD hS => ?_)
        have hP : va_P (dC, dI) vwCl (sW cI cZ cS cW b0 b1 b2 b3 b4 n m tn sl bg ht rs sn rw (upN (upN g i (upN (g i) a (g i b))) i (upN ((upN g i (upN (g i) a (g i b))) i) b (g i a))) o) H := hP
        have hD : va_D A (sW cI cZ cS cW b0 b1 b2 b3 b4 n m tn sl bg ht rs sn rw (upN (upN g i (upN (g i) a (g i b))) i (upN ((upN g i (upN (g i) a (g i b))) i) b (g i a))) o) := hD
        refine lv_iinc (v := nI (i + 1)) (lv' := [(5, .int (nI (i + 1))), (7, .int (nI (g i a))), (6, .ref (rw i)), (4, .int (nI m)), (3, .ref b3), (0, .ref b0), (1, .int (nI a)), (2, .int (nI b))]) hx hb dX2_borrow_45 hl (k := 2) rfl (nI_add _ _) (by decide) rfl (fun ls hl => ?_)
        refine lv_goto (tgt := 12) hx hb dX2_borrow_48 (by decide) ?_
        exact ih12 (i + 1) _ (by omega) (by omega) (fun w hw => by rcases Nat.lt_or_ge w i with z | z; (· rw [upN_n _ _ (by omega), upN_n _ _ (by omega)]; exact hg1 w z); (· rw [show w = i by omega, upN_s, upN_s, hg2 i (by omega)]; exact swS_up hab)) (fun w hw => by rw [upN_n _ _ (by omega), upN_n _ _ (by omega)]; exact hg2 w (by omega)) _ _ hP hD hS _ (lv_sub hl [0, 3, 4, 5, 6, 7] rfl)
  exact lp12 (m + 1) 0 wy (by omega) (by omega) (fun w hw => absurd hw (by omega)) (fun _ _ => rfl) _ _ hP hD hS _ (lv_sub hl [0, 1, 2, 3, 4, 5] rfl)

set_option maxHeartbeats 4000000 in
set_option maxRecDepth 100000 in
theorem m_X2_turn (b0 b1 b2 b3 b4 n m tn sl : Nat) (bg : Bool) (ht rs : Nat → Nat) (sn : Nat → Nat → Bool) (rw : Nat → Nat) (wy : Nat → Nat → Nat) (o : Nat → Bool) (p : Nat) (hn : n ≤ 5) (hm : m ≤ 243) (h0n : 0 < n) (hp9 : p = tn % n) (hp : p < n) (htn : tn < 2 ^ 20) (hht : ∀ k, k < n → ht k < 4) (hwy : ∀ w, w < m → ∀ k, k < n → wy w k < 4) (sz : Nat) : Gi l yX2_turn ws_X2_turn 2 49 1 243 sz (dC, dI) (tyL cI cZ cS cW) [.ref b0] (sW cI cZ cS cW b0 b1 b2 b3 b4 n m tn sl bg ht rs sn rw wy o) (fun r u => r = (if surS n m sn wy o p p ht = true then nI (ht p) else -1) ∧ ∃ (q : Nat) (o2 : Nat → Bool), (∀ w, w < m → o2 w = nxS n m sn wy o ht p (surS n m sn wy o p p ht) w) ∧ u = sW cI cZ cS cW b0 b1 b2 b3 q n m (tn + 1) (if surS n m sn wy o p p ht = true then sl else sl + 1) true ht rs sn rw wy o2) := by
  refine Gi_of (by decide +kernel) (Nat.le_of_ble_eq_true rfl) ?_
  intro pr ev sx mi ag bl me cd Q ls A S hP hK hD hA hZ hl hin ret
  obtain ⟨hx, hb, hml, hown, hts⟩ := id S
  have hown : sx.vm.findClass RX2 = some mi.cls := hown
  have hS : va_S A sx.heap sx.heap [] := va_S.rf
  have hl : lv_has ls 5 [(0, .ref b0)] := hl
  have hP : va_P (dC, dI) vwCl ([(b0, .inr (2, [.int (nI n), .int (nI tn), .int (nI sl), .int (bI bg), .ref b1, .ref b2, .ref b3, .ref b4])), (b1, .inl (cI, n, .inl (fun k => nI (ht k)))), (b2, eQ cS n rs), (b3, eQ cW m rw), (b4, .inl (cZ, m, .inl (fun k => bI (o k))))] ++ (rB (fun w0 => eZ cZ n (sn w0)) rs n ++ (rB (fun w0 => eI cI n (wy w0)) rw m))) sx.heap := hP
  have hD : va_D A ([(b0, .inr (2, [.int (nI n), .int (nI tn), .int (nI sl), .int (bI bg), .ref b1, .ref b2, .ref b3, .ref b4])), (b1, .inl (cI, n, .inl (fun k => nI (ht k)))), (b2, eQ cS n rs), (b3, eQ cW m rw), (b4, .inl (cZ, m, .inl (fun k => bI (o k))))] ++ (rB (fun w0 => eZ cZ n (sn w0)) rs n ++ (rB (fun w0 => eI cI n (wy w0)) rw m))) := hD
  refine lv_aload_n hx hb dX2_turn_0 rfl (lv_at hl 0 rfl) ?_
  refine va_get (D := (dC, dI)) (ci := 2) (v := .int (nI tn)) (C := RX2) (T := TX2) (N := 8) hx hb hts inX2 hown hK hP 0 rfl rfl 1 (by decide) (hts _ q_fl_X2_40) (fun _ h9 => h9) rfl dX2_turn_1 ?_
  refine lv_aload_n hx hb dX2_turn_4 rfl (lv_at hl 0 rfl) ?_
  refine va_get (D := (dC, dI)) (ci := 2) (v := .int (nI n)) (C := RX2) (T := TX2) (N := 8) hx hb hts inX2 hown hK hP 0 rfl rfl 0 (by decide) (hts _ q_fl_X2_27) (fun _ h9 => h9) rfl dX2_turn_5 ?_
  refine lv_irem hx hb dX2_turn_8 (nI_ne0 (by omega) (by omega)) ?_
  refine W_i (y := nI (tn % n)) (pk_rem (by omega) (by omega) (by omega)) ?_
  refine W_i (y := nI p) (by rw [hp9]) ?_
  refine lv_istore_n (lv' := [(1, .int (nI p)), (0, .ref b0)]) hx hb dX2_turn_9 rfl hl (by decide) rfl (fun ls hl => ?_)
  refine lv_aload_n hx hb dX2_turn_10 rfl (lv_at hl 1 rfl) ?_
  refine lv_iload_n hx hb dX2_turn_11 rfl (lv_at hl 0 rfl) ?_
  refine lv_iload_n hx hb dX2_turn_12 rfl (lv_at hl 0 rfl) ?_
  refine lv_aload_n hx hb dX2_turn_13 rfl (lv_at hl 1 rfl) ?_
  refine va_get (D := (dC, dI)) (ci := 2) (v := .ref b1) (C := RX2) (T := TX2) (N := 8) hx hb hts inX2 hown hK hP 0 rfl rfl 4 (by decide) (hts _ q_fl_X2_7) (fun _ h9 => h9) rfl dX2_turn_14 ?_
  refine call_VpS (As := [.int (nI p), .int (nI p), .ref b1]) (rest := []) S (m_X2_isSure b0 b1 b2 b3 b4 n m tn sl bg ht rs sn rw wy o p p b1 ht hn hp hp (by omega) (List.mem_append_left _ (List.mem_cons_of_mem _ List.mem_cons_self)) hht hwy) g_X2_X2_isSure hd_X2_isSure ⟨Nat.le_of_ble_eq_true rfl, Nat.le_of_ble_eq_true rfl⟩ ⟨by show _ ≤ 1; omega, by show _ ≤ 243; omega⟩ hP hD hK hS hZ (List.Sublist.refl _) 0 rfl rfl hl.1 rfl (Nat.le_of_ble_eq_true rfl) dX2_turn_17 (fun r H locs hq hP hS => ?_)
  obtain rfl := hq
  refine lv_istore_n (lv' := [(2, .int (bI (surS n m sn wy o p p ht))), (1, .int (nI p)), (0, .ref b0)]) hx hb dX2_turn_20 rfl hl (by decide) rfl (fun ls hl => ?_)
  refine lv_aload_n hx hb dX2_turn_21 rfl (lv_at hl 2 rfl) ?_
  refine va_get (D := (dC, dI)) (ci := 2) (v := .ref b4) (C := RX2) (T := TX2) (N := 8) hx hb hts inX2 hown hK hP 0 rfl rfl 7 (by decide) (hts _ q_fl_X2_24) (fun _ h9 => h9) rfl dX2_turn_22 ?_
  refine va_alen (v := nI m) hx hb hK hP 4 1 rfl rfl rfl dX2_turn_25 ?_
  refine my_newa (atype := .boolean) (ty := .boolean) (cI := cZ) (a0 := (m, .inl (fun k => bI ((fun _ => false) k)))) (N' := m) hx hb (hts _ q_ac_boolean) rfl hK 1 rfl ([]) ([(b0, .inr (2, [.int (nI n), .int (nI tn), .int (nI sl), .int (bI bg), .ref b1, .ref b2, .ref b3, .ref b4])), (b1, .inl (cI, n, .inl (fun k => nI (ht k)))), (b2, eQ cS n rs), (b3, eQ cW m rw), (b4, .inl (cZ, m, .inl (fun k => bI (o k))))] ++ (rB (fun w0 => eZ cZ n (sn w0)) rs n ++ (rB (fun w0 => eI cI n (wy w0)) rw m))) hP hD hS hA (fun _ => rfl) (nI_pos (by omega)) (nI_clamp (by omega)) (by show _ * 1 ≤ _; omega) (by show _ ≤ 1; omega) (by show _ ≤ 243; omega) dX2_turn_26 (by simp) (fun q26 H hP hD hS => ?_)
  have hP : va_P (dC, dI) vwCl ([(q26, .inl (cZ, m, .inl (fun k => bI ((fun _ => false) k)))), (b0, .inr (2, [.int (nI n), .int (nI tn), .int (nI sl), .int (bI bg), .ref b1, .ref b2, .ref b3, .ref b4])), (b1, .inl (cI, n, .inl (fun k => nI (ht k)))), (b2, eQ cS n rs), (b3, eQ cW m rw), (b4, .inl (cZ, m, .inl (fun k => bI (o k))))] ++ (rB (fun w0 => eZ cZ n (sn w0)) rs n ++ (rB (fun w0 => eI cI n (wy w0)) rw m))) H := hP
  have hD : va_D A ([(q26, .inl (cZ, m, .inl (fun k => bI ((fun _ => false) k)))), (b0, .inr (2, [.int (nI n), .int (nI tn), .int (nI sl), .int (bI bg), .ref b1, .ref b2, .ref b3, .ref b4])), (b1, .inl (cI, n, .inl (fun k => nI (ht k)))), (b2, eQ cS n rs), (b3, eQ cW m rw), (b4, .inl (cZ, m, .inl (fun k => bI (o k))))] ++ (rB (fun w0 => eZ cZ n (sn w0)) rs n ++ (rB (fun w0 => eI cI n (wy w0)) rw m))) := hD
  refine lv_astore_n (lv' := [(3, .ref q26), (2, .int (bI (surS n m sn wy o p p ht))), (1, .int (nI p)), (0, .ref b0)]) hx hb dX2_turn_28 rfl hl (by decide) rfl (fun ls hl => ?_)
  refine lv_iconst (v := nI 0) hx hb dX2_turn_29 (by decide) ?_
  refine lv_istore (lv' := [(4, .int (nI 0)), (3, .ref q26), (2, .int (bI (surS n m sn wy o p p ht))), (1, .int (nI p)), (0, .ref b0)]) hx hb dX2_turn_30 hl (by decide) rfl (fun ls hl => ?_)
  have lp32 : ∀ (kf : Nat) (i : Nat) (g : Nat → Bool), m < i + kf → (i ≤ m) → (∀ w, w < i → g w = nxS n m sn wy o ht p (surS n m sn wy o p p ht) w) → ∀ (H : Heap) (locs : List Loc), va_P (dC, dI) vwCl ([(q26, .inl (cZ, m, .inl (fun k => bI (g k)))), (b0, .inr (2, [.int (nI n), .int (nI tn), .int (nI sl), .int (bI bg), .ref b1, .ref b2, .ref b3, .ref b4])), (b1, .inl (cI, n, .inl (fun k => nI (ht k)))), (b2, eQ cS n rs), (b3, eQ cW m rw), (b4, .inl (cZ, m, .inl (fun k => bI (o k))))] ++ (rB (fun w0 => eZ cZ n (sn w0)) rs n ++ (rB (fun w0 => eI cI n (wy w0)) rw m))) H → va_D A ([(q26, .inl (cZ, m, .inl (fun k => bI (g k)))), (b0, .inr (2, [.int (nI n), .int (nI tn), .int (nI sl), .int (bI bg), .ref b1, .ref b2, .ref b3, .ref b4])), (b1, .inl (cI, n, .inl (fun k => nI (ht k)))), (b2, eQ cS n rs), (b3, eQ cW m rw), (b4, .inl (cZ, m, .inl (fun k => bI (o k))))] ++ (rB (fun w0 => eZ cZ n (sn w0)) rs n ++ (rB (fun w0 => eI cI n (wy w0)) rw m))) → va_S A sx.heap H locs → ∀ ls : Array Slot, lv_has ls 5 [(4, .int (nI i)), (3, .ref q26), (2, .int (bI (surS n m sn wy o p p ht))), (1, .int (nI p)), (0, .ref b0)] → W pr l ev (rmG 2 49 1 243) sx mi ag bl me cd H locs (0 + 1) (0 + m) Q (F0 mi 32 ls []) := by
    intro kf
    induction kf with
    | zero => intro i g hkf hi hg1; exact absurd hkf (by omega)
    | succ kf ih32 =>
      intro i g hkf hi hg1 H locs hP hD hS ls hl
      refine lv_iload hx hb dX2_turn_32 (lv_at hl 0 rfl) ?_
      refine lv_aload_n hx hb dX2_turn_34 rfl (lv_at hl 4 rfl) ?_
      refine va_get (D := (dC, dI)) (ci := 2) (v := .ref b3) (C := RX2) (T := TX2) (N := 8) hx hb hts inX2 hown hK hP 1 rfl rfl 6 (by decide) (hts _ q_fl_X2_20) (fun _ h9 => h9) rfl dX2_turn_35 ?_
      refine va_alen (v := nI m) hx hb hK hP 4 3 rfl rfl rfl dX2_turn_38 ?_
      refine icN_ge (tgt := 106) hx hb dX2_turn_39 (by decide) (by omega) (by omega) (fun c_39 => ?_) (fun c_39 => ?_)
      · refine lv_aload_n hx hb dX2_turn_106 rfl (lv_at hl 4 rfl) ?_
        refine lv_aload_n hx hb dX2_turn_107 rfl (lv_at hl 1 rfl) ?_
        refine va_put (D := (dC, dI)) (ci := 2) (v := .ref q26) (ty := .array .boolean) (C := RX2) (T := TX2) (N := 8) hx hb hts inX2 tyX2 tyX2_ok nmX2 hown hK hP hD hS 1 rfl rfl 7 (by decide) (hts _ q_fl_X2_24) (fun _ h9 => h9) rfl (by decide +kernel) rfl rfl (Nat.le_of_ble_eq_true rfl) dX2_turn_108 (fun H locs hP hD hS => ?_)
        have hP : va_P (dC, dI) vwCl ([(q26, .inl (cZ, m, .inl (fun k => bI (g k)))), (b0, .inr (2, [.int (nI n), .int (nI tn), .int (nI sl), .int (bI bg), .ref b1, .ref b2, .ref b3, .ref q26])), (b1, .inl (cI, n, .inl (fun k => nI (ht k)))), (b2, eQ cS n rs), (b3, eQ cW m rw), (b4, .inl (cZ, m, .inl (fun k => bI (o k))))] ++ (rB (fun w0 => eZ cZ n (sn w0)) rs n ++ (rB (fun w0 => eI cI n (wy w0)) rw m))) H := hP
        have hD : va_D A ([(q26, .inl (cZ, m, .inl (fun k => bI (g k)))), (b0, .inr (2, [.int (nI n), .int (nI tn), .int (nI sl), .int (bI bg), .ref b1, .ref b2, .ref b3, .ref q26])), (b1, .inl (cI, n, .inl (fun k => nI (ht k)))), (b2, eQ cS n rs), (b3, eQ cW m rw), (b4, .inl (cZ, m, .inl (fun k => bI (o k))))] ++ (rB (fun w0 => eZ cZ n (sn w0)) rs n ++ (rB (fun w0 => eI cI n (wy w0)) rw m))) := hD
        refine lv_aload_n hx hb dX2_turn_111 rfl (lv_at hl 4 rfl) ?_
        refine lv_dup hx hb dX2_turn_112 rfl ?_
        refine va_get (D := (dC, dI)) (ci := 2) (v := .int (nI tn)) (C := RX2) (T := TX2) (N := 8) hx hb hts inX2 hown hK hP 1 rfl rfl 1 (by decide) (hts _ q_fl_X2_40) (fun _ h9 => h9) rfl dX2_turn_113 ?_
        refine lv_iconst (v := nI 1) hx hb dX2_turn_116 (by decide) ?_
        refine lv_iadd hx hb dX2_turn_117 ?_
        refine W_i (y := nI (tn + 1)) (nI_add _ _) ?_
        refine va_put (D := (dC, dI)) (ci := 2) (v := .int (nI (tn + 1))) (ty := .int) (C := RX2) (T := TX2) (N := 8) hx hb hts inX2 tyX2 tyX2_ok nmX2 hown hK hP hD hS 1 rfl rfl 1 (by decide) (hts _ q_fl_X2_40) (fun _ h9 => h9) rfl (by decide +kernel) rfl rfl (Nat.le_of_ble_eq_true rfl) dX2_turn_118 (fun H locs hP hD hS => ?_)
        have hP : va_P (dC, dI) vwCl ([(q26, .inl (cZ, m, .inl (fun k => bI (g k)))), (b0, .inr (2, [.int (nI n), .int (nI (tn + 1)), .int (nI sl), .int (bI bg), .ref b1, .ref b2, .ref b3, .ref q26])), (b1, .inl (cI, n, .inl (fun k => nI (ht k)))), (b2, eQ cS n rs), (b3, eQ cW m rw), (b4, .inl (cZ, m, .inl (fun k => bI (o k))))] ++ (rB (fun w0 => eZ cZ n (sn w0)) rs n ++ (rB (fun w0 => eI cI n (wy w0)) rw m))) H := hP
        have hD : va_D A ([(q26, .inl (cZ, m, .inl (fun k => bI (g k)))), (b0, .inr (2, [.int (nI n), .int (nI (tn + 1)), .int (nI sl), .int (bI bg), .ref b1, .ref b2, .ref b3, .ref q26])), (b1, .inl (cI, n, .inl (fun k => nI (ht k)))), (b2, eQ cS n rs), (b3, eQ cW m rw), (b4, .inl (cZ, m, .inl (fun k => bI (o k))))] ++ (rB (fun w0 => eZ cZ n (sn w0)) rs n ++ (rB (fun w0 => eI cI n (wy w0)) rw m))) := hD
        refine lv_aload_n hx hb dX2_turn_121 rfl (lv_at hl 4 rfl) ?_
        refine lv_dup hx hb dX2_turn_122 rfl ?_
        refine va_get (D := (dC, dI)) (ci := 2) (v := .int (nI sl)) (C := RX2) (T := TX2) (N := 8) hx hb hts inX2 hown hK hP 1 rfl rfl 2 (by decide) (hts _ q_fl_X2_47) (fun _ h9 => h9) rfl dX2_turn_123 ?_
        refine lv_iload_n hx hb dX2_turn_126 rfl (lv_at hl 2 rfl) ?_
        refine ifB_eq (tgt := 134) hx hb dX2_turn_127 (by decide) (fun c_127 => ?_) (fun c_127 => ?_)
        · refine lv_iconst (v := nI 1) hx hb dX2_turn_134 (by decide) ?_
          refine lv_iadd hx hb dX2_turn_135 ?_
          refine W_i (y := nI (sl + 1)) (nI_add _ _) ?_
          refine va_put (D := (dC, dI)) (ci := 2) (v := .int (nI (sl + 1))) (ty := .int) (C := RX2) (T := TX2) (N := 8) hx hb hts inX2 tyX2 tyX2_ok nmX2 hown hK hP hD hS 1 rfl rfl 2 (by decide) (hts _ q_fl_X2_47) (fun _ h9 => h9) rfl (by decide +kernel) rfl rfl (Nat.le_of_ble_eq_true rfl) dX2_turn_136 (fun H locs hP hD hS => ?_)
          have hP : va_P (dC, dI) vwCl ([(q26, .inl (cZ, m, .inl (fun k => bI (g k)))), (b0, .inr (2, [.int (nI n), .int (nI (tn + 1)), .int (nI (sl + 1)), .int (bI bg), .ref b1, .ref b2, .ref b3, .ref q26])), (b1, .inl (cI, n, .inl (fun k => nI (ht k)))), (b2, eQ cS n rs), (b3, eQ cW m rw), (b4, .inl (cZ, m, .inl (fun k => bI (o k))))] ++ (rB (fun w0 => eZ cZ n (sn w0)) rs n ++ (rB (fun w0 => eI cI n (wy w0)) rw m))) H := hP
          have hD : va_D A ([(q26, .inl (cZ, m, .inl (fun k => bI (g k)))), (b0, .inr (2, [.int (nI n), .int (nI (tn + 1)), .int (nI (sl + 1)), .int (bI bg), .ref b1, .ref b2, .ref b3, .ref q26])), (b1, .inl (cI, n, .inl (fun k => nI (ht k)))), (b2, eQ cS n rs), (b3, eQ cW m rw), (b4, .inl (cZ, m, .inl (fun k => bI (o k))))] ++ (rB (fun w0 => eZ cZ n (sn w0)) rs n ++ (rB (fun w0 => eI cI n (wy w0)) rw m))) := hD
          refine lv_aload_n hx hb dX2_turn_139 rfl (lv_at hl 4 rfl) ?_
          refine lv_iconst (v := nI 1) hx hb dX2_turn_140 (by decide) ?_
          refine W_i (y := bI true) rfl ?_
          refine va_put (D := (dC, dI)) (ci := 2) (v := .int (bI true)) (ty := .boolean) (C := RX2) (T := TX2) (N := 8) hx hb hts inX2 tyX2 tyX2_ok nmX2 hown hK hP hD hS 1 rfl rfl 3 (by decide) (hts _ q_fl_X2_50) (fun _ h9 => h9) rfl (by decide +kernel) rfl rfl (Nat.le_of_ble_eq_true rfl) dX2_turn_141 (fun H locs hP hD hS => ?_)
          have hP : va_P (dC, dI) vwCl ([(q26, .inl (cZ, m, .inl (fun k => bI (g k)))), (b0, .inr (2, [.int (nI n), .int (nI (tn + 1)), .int (nI (sl + 1)), .int (bI true), .ref b1, .ref b2, .ref b3, .ref q26])), (b1, .inl (cI, n, .inl (fun k => nI (ht k)))), (b2, eQ cS n rs), (b3, eQ cW m rw), (b4, .inl (cZ, m, .inl (fun k => bI (o k))))] ++ (rB (fun w0 => eZ cZ n (sn w0)) rs n ++ (rB (fun w0 => eI cI n (wy w0)) rw m))) H := hP
          have hD : va_D A ([(q26, .inl (cZ, m, .inl (fun k => bI (g k)))), (b0, .inr (2, [.int (nI n), .int (nI (tn + 1)), .int (nI (sl + 1)), .int (bI true), .ref b1, .ref b2, .ref b3, .ref q26])), (b1, .inl (cI, n, .inl (fun k => nI (ht k)))), (b2, eQ cS n rs), (b3, eQ cW m rw), (b4, .inl (cZ, m, .inl (fun k => bI (o k))))] ++ (rB (fun w0 => eZ cZ n (sn w0)) rs n ++ (rB (fun w0 => eI cI n (wy w0)) rw m))) := hD
          refine lv_iload_n hx hb dX2_turn_144 rfl (lv_at hl 2 rfl) ?_
          refine ifB_eq (tgt := 157) hx hb dX2_turn_145 (by decide) (fun c_145 => ?_) (fun c_145 => absurd c_145 (by rw [c_127]; decide))
          refine lv_iconst (v := (-1)) hx hb dX2_turn_157 (by decide) ?_
          have hP := va_P.part (X := [(q26, .inl (cZ, m, .inl (fun k => bI (g k)))), (b0, .inr (2, [.int (nI n), .int (nI (tn + 1)), .int (nI (sl + 1)), .int (bI true), .ref b1, .ref b2, .ref b3, .ref q26])), (b1, .inl (cI, n, .inl (fun k => nI (ht k)))), (b2, eQ cS n rs), (b3, eQ cW m rw), (b4, .inl (cZ, m, .inl (fun k => bI (o k))))]) (cx := [(b0, .inr (2, [.int (nI n), .int (nI (tn + 1)), .int (nI (sl + 1)), .int (bI true), .ref b1, .ref b2, .ref b3, .ref q26])), (b1, .inl (cI, n, .inl (fun k => nI (ht k)))), (b2, eQ cS n rs), (b3, eQ cW m rw), (q26, .inl (cZ, m, .inl (fun k => bI (g k))))]) (pl := rB (fun w0 => eZ cZ n (sn w0)) rs n ++ (rB (fun w0 => eI cI n (wy w0)) rw m)) hP [1, 2, 3, 4, 0] rfl
          have hD := va_D.part (X := [(q26, .inl (cZ, m, .inl (fun k => bI (g k)))), (b0, .inr (2, [.int (nI n), .int (nI (tn + 1)), .int (nI (sl + 1)), .int (bI true), .ref b1, .ref b2, .ref b3, .ref q26])), (b1, .inl (cI, n, .inl (fun k => nI (ht k)))), (b2, eQ cS n rs), (b3, eQ cW m rw), (b4, .inl (cZ, m, .inl (fun k => bI (o k))))]) (cx := [(b0, .inr (2, [.int (nI n), .int (nI (tn + 1)), .int (nI (sl + 1)), .int (bI true), .ref b1, .ref b2, .ref b3, .ref q26])), (b1, .inl (cI, n, .inl (fun k => nI (ht k)))), (b2, eQ cS n rs), (b3, eQ cW m rw), (q26, .inl (cZ, m, .inl (fun k => bI (g k))))]) (pl := rB (fun w0 => eZ cZ n (sn w0)) rs n ++ (rB (fun w0 => eI cI n (wy w0)) rw m)) hD [1, 2, 3, 4, 0] (by decide) rfl
          have hP : va_P (dC, dI) vwCl (sW cI cZ cS cW b0 b1 b2 b3 q26 n m (tn + 1) (sl + 1) true ht rs sn rw wy g) H := hP
          have hD : va_D A (sW cI cZ cS cW b0 b1 b2 b3 q26 n m (tn + 1) (sl + 1) true ht rs sn rw wy g) := hD
          refine W.widen (k := 1) (n := 243) (by omega) (by omega) ?_
          exact ret _ (sW cI cZ cS cW b0 b1 b2 b3 q26 n m (tn + 1) (sl + 1) true ht rs sn rw wy g) _ _ _ _ dX2_turn_158 rfl ⟨by rw [if_neg (by rw [c_127]; decide)], q26, g, fun w hw => hg1 w (by omega), by rw [if_neg (by rw [c_127]; decide)]⟩ hP hD hS
        · refine lv_iconst (v := nI 0) hx hb dX2_turn_130 (by decide) ?_
          refine lv_goto (tgt := 135) hx hb dX2_turn_131 (by decide) ?_
          refine lv_iadd hx hb dX2_turn_135 ?_
          refine W_i (y := nI (sl + 0)) (nI_add _ _) ?_
          refine va_put (D := (dC, dI)) (ci := 2) (v := .int (nI (sl + 0))) (ty := .int) (C := RX2) (T := TX2) (N := 8) hx hb hts inX2 tyX2 tyX2_ok nmX2 hown hK hP hD hS 1 rfl rfl 2 (by decide) (hts _ q_fl_X2_47) (fun _ h9 => h9) rfl (by decide +kernel) rfl rfl (Nat.le_of_ble_eq_true rfl) dX2_turn_136 (fun H locs hP hD hS => ?_)
          have hP : va_P (dC, dI) vwCl ([(q26, .inl (cZ, m, .inl (fun k => bI (g k)))), (b0, .inr (2, [.int (nI n), .int (nI (tn + 1)), .int (nI (sl + 0)), .int (bI bg), .ref b1, .ref b2, .ref b3, .ref q26])), (b1, .inl (cI, n, .inl (fun k => nI (ht k)))), (b2, eQ cS n rs), (b3, eQ cW m rw), (b4, .inl (cZ, m, .inl (fun k => bI (o k))))] ++ (rB (fun w0 => eZ cZ n (sn w0)) rs n ++ (rB (fun w0 => eI cI n (wy w0)) rw m))) H := hP
          have hD : va_D A ([(q26, .inl (cZ, m, .inl (fun k => bI (g k)))), (b0, .inr (2, [.int (nI n), .int (nI (tn + 1)), .int (nI (sl + 0)), .int (bI bg), .ref b1, .ref b2, .ref b3, .ref q26])), (b1, .inl (cI, n, .inl (fun k => nI (ht k)))), (b2, eQ cS n rs), (b3, eQ cW m rw), (b4, .inl (cZ, m, .inl (fun k => bI (o k))))] ++ (rB (fun w0 => eZ cZ n (sn w0)) rs n ++ (rB (fun w0 => eI cI n (wy w0)) rw m))) := hD
          refine lv_aload_n hx hb dX2_turn_139 rfl (lv_at hl 4 rfl) ?_
          refine lv_iconst (v := nI 1) hx hb dX2_turn_140 (by decide) ?_
          refine W_i (y := bI true) rfl ?_
          refine va_put (D := (dC, dI)) (ci := 2) (v := .int (bI true)) (ty := .boolean) (C := RX2) (T := TX2) (N := 8) hx hb hts inX2 tyX2 tyX2_ok nmX2 hown hK hP hD hS 1 rfl rfl 3 (by decide) (hts _ q_fl_X2_50) (fun _ h9 => h9) rfl (by decide +kernel) rfl rfl (Nat.le_of_ble_eq_true rfl) dX2_turn_141 (fun H locs hP hD hS => ?_)
          have hP : va_P (dC, dI) vwCl ([(q26, .inl (cZ, m, .inl (fun k => bI (g k)))), (b0, .inr (2, [.int (nI n), .int (nI (tn + 1)), .int (nI (sl + 0)), .int (bI true), .ref b1, .ref b2, .ref b3, .ref q26])), (b1, .inl (cI, n, .inl (fun k => nI (ht k)))), (b2, eQ cS n rs), (b3, eQ cW m rw), (b4, .inl (cZ, m, .inl (fun k => bI (o k))))] ++ (rB (fun w0 => eZ cZ n (sn w0)) rs n ++ (rB (fun w0 => eI cI n (wy w0)) rw m))) H := hP
          have hD : va_D A ([(q26, .inl (cZ, m, .inl (fun k => bI (g k)))), (b0, .inr (2, [.int (nI n), .int (nI (tn + 1)), .int (nI (sl + 0)), .int (bI true), .ref b1, .ref b2, .ref b3, .ref q26])), (b1, .inl (cI, n, .inl (fun k => nI (ht k)))), (b2, eQ cS n rs), (b3, eQ cW m rw), (b4, .inl (cZ, m, .inl (fun k => bI (o k))))] ++ (rB (fun w0 => eZ cZ n (sn w0)) rs n ++ (rB (fun w0 => eI cI n (wy w0)) rw m))) := hD
          refine lv_iload_n hx hb dX2_turn_144 rfl (lv_at hl 2 rfl) ?_
          refine ifB_eq (tgt := 157) hx hb dX2_turn_145 (by decide) (fun c_145 => absurd c_145 (by rw [c_127]; decide)) (fun c_145 => ?_)
          refine lv_aload_n hx hb dX2_turn_148 rfl (lv_at hl 4 rfl) ?_
          refine va_get (D := (dC, dI)) (ci := 2) (v := .ref b1) (C := RX2) (T := TX2) (N := 8) hx hb hts inX2 hown hK hP 1 rfl rfl 4 (by decide) (hts _ q_fl_X2_7) (fun _ h9 => h9) rfl dX2_turn_149 ?_
          refine lv_iload_n hx hb dX2_turn_152 rfl (lv_at hl 3 rfl) ?_
          refine ia_ld hx hb hK hP 2 0 rfl rfl (j := p) (by omega) (by omega) dX2_turn_153 ?_
          refine lv_goto (tgt := 158) hx hb dX2_turn_154 (by decide) ?_
          have hP := va_P.part (X := [(q26, .inl (cZ, m, .inl (fun k => bI (g k)))), (b0, .inr (2, [.int (nI n), .int (nI (tn + 1)), .int (nI (sl + 0)), .int (bI true), .ref b1, .ref b2, .ref b3, .ref q26])), (b1, .inl (cI, n, .inl (fun k => nI (ht k)))), (b2, eQ cS n rs), (b3, eQ cW m rw), (b4, .inl (cZ, m, .inl (fun k => bI (o k))))]) (cx := [(b0, .inr (2, [.int (nI n), .int (nI (tn + 1)), .int (nI (sl + 0)), .int (bI true), .ref b1, .ref b2, .ref b3, .ref q26])), (b1, .inl (cI, n, .inl (fun k => nI (ht k)))), (b2, eQ cS n rs), (b3, eQ cW m rw), (q26, .inl (cZ, m, .inl (fun k => bI (g k))))]) (pl := rB (fun w0 => eZ cZ n (sn w0)) rs n ++ (rB (fun w0 => eI cI n (wy w0)) rw m)) hP [1, 2, 3, 4, 0] rfl
          have hD := va_D.part (X := [(q26, .inl (cZ, m, .inl (fun k => bI (g k)))), (b0, .inr (2, [.int (nI n), .int (nI (tn + 1)), .int (nI (sl + 0)), .int (bI true), .ref b1, .ref b2, .ref b3, .ref q26])), (b1, .inl (cI, n, .inl (fun k => nI (ht k)))), (b2, eQ cS n rs), (b3, eQ cW m rw), (b4, .inl (cZ, m, .inl (fun k => bI (o k))))]) (cx := [(b0, .inr (2, [.int (nI n), .int (nI (tn + 1)), .int (nI (sl + 0)), .int (bI true), .ref b1, .ref b2, .ref b3, .ref q26])), (b1, .inl (cI, n, .inl (fun k => nI (ht k)))), (b2, eQ cS n rs), (b3, eQ cW m rw), (q26, .inl (cZ, m, .inl (fun k => bI (g k))))]) (pl := rB (fun w0 => eZ cZ n (sn w0)) rs n ++ (rB (fun w0 => eI cI n (wy w0)) rw m)) hD [1, 2, 3, 4, 0] (by decide) rfl
          have hP : va_P (dC, dI) vwCl (sW cI cZ cS cW b0 b1 b2 b3 q26 n m (tn + 1) (sl + 0) true ht rs sn rw wy g) H := hP
          have hD : va_D A (sW cI cZ cS cW b0 b1 b2 b3 q26 n m (tn + 1) (sl + 0) true ht rs sn rw wy g) := hD
          refine W.widen (k := 1) (n := 243) (by omega) (by omega) ?_
          exact ret _ (sW cI cZ cS cW b0 b1 b2 b3 q26 n m (tn + 1) (sl + 0) true ht rs sn rw wy g) _ _ _ _ dX2_turn_158 rfl ⟨by rw [if_pos c_127], q26, g, fun w hw => hg1 w (by omega), by rw [if_pos c_127]; rfl⟩ hP hD hS
      · refine lv_aload_n hx hb dX2_turn_42 rfl (lv_at hl 1 rfl) ?_
        refine lv_iload hx hb dX2_turn_43 (lv_at hl 0 rfl) ?_
        refine lv_aload_n hx hb dX2_turn_45 rfl (lv_at hl 4 rfl) ?_
        refine va_get (D := (dC, dI)) (ci := 2) (v := .ref b4) (C := RX2) (T := TX2) (N := 8) hx hb hts inX2 hown hK hP 1 rfl rfl 7 (by decide) (hts _ q_fl_X2_24) (fun _ h9 => h9) rfl dX2_turn_46 ?_
        refine lv_iload hx hb dX2_turn_49 (lv_at hl 0 rfl) ?_
        refine za_ld hx hb hK hP 5 1 rfl rfl (j := i) (by omega) (by omega) dX2_turn_51 ?_
        refine ifB_eq (tgt := 98) hx hb dX2_turn_52 (by decide) (fun c_52 => ?_) (fun c_52 => ?_)
        · refine lv_iconst (v := nI 0) hx hb dX2_turn_98 (by decide) ?_
          refine W_i (y := bI false) rfl ?_
          refine za_st hx hb hK hP hD hS 0 1 rfl rfl (j := i) (v := false) (by omega) (by omega) dX2_turn_99 (fun H locs hP hD hS => ?_)
          have hP : va_P (dC, dI) vwCl ([(q26, .inl (cZ, m, .inl (fun k => bI ((upN g i false) k)))), (b0, .inr (2, [.int (nI n), .int (nI tn), .int (nI sl), .int (bI bg), .ref b1, .ref b2, .ref b3, .ref b4])), (b1, .inl (cI, n, .inl (fun k => nI (ht k)))), (b2, eQ cS n rs), (b3, eQ cW m rw), (b4, .inl (cZ, m, .inl (fun k => bI (o k))))] ++ (rB (fun w0 => eZ cZ n (sn w0)) rs n ++ (rB (fun w0 => eI cI n (wy w0)) rw m))) H := hP
          have hD : va_D A ([(q26, .inl (cZ, m, .inl (fun k => bI ((upN g i false) k)))), (b0, .inr (2, [.int (nI n), .int (nI tn), .int (nI sl), .int (bI bg), .ref b1, .ref b2, .ref b3, .ref b4])), (b1, .inl (cI, n, .inl (fun k => nI (ht k)))), (b2, eQ cS n rs), (b3, eQ cW m rw), (b4, .inl (cZ, m, .inl (fun k => bI (o k))))] ++ (rB (fun w0 => eZ cZ n (sn w0)) rs n ++ (rB (fun w0 => eI cI n (wy w0)) rw m))) := hD
          refine lv_iinc (v := nI (i + 1)) (lv' := [(4, .int (nI (i + 1))), (3, .ref q26), (2, .int (bI (surS n m sn wy o p p ht))), (1, .int (nI p)), (0, .ref b0)]) hx hb dX2_turn_100 hl (k := 0) rfl (nI_add _ _) (by decide) rfl (fun ls hl => ?_)
          refine lv_goto (tgt := 32) hx hb dX2_turn_103 (by decide) ?_
          exact ih32 (i + 1) _ (by omega) (by omega) (fun w hw => by rcases Nat.lt_or_ge w i with z | z; (· rw [upN_n _ _ (by omega)]; exact hg1 w z); (· rw [show w = i by omega, upN_s]; exact (by simp [nxS, c_52]))) _ _ hP hD hS _ (lv_sub hl [0, 1, 2, 3, 4] rfl)
        · refine lv_aload_n hx hb dX2_turn_55 rfl (lv_at hl 4 rfl) ?_
          refine lv_iload_n hx hb dX2_turn_56 rfl (lv_at hl 3 rfl) ?_
          refine lv_iload_n hx hb dX2_turn_57 rfl (lv_at hl 3 rfl) ?_
          refine lv_aload_n hx hb dX2_turn_58 rfl (lv_at hl 4 rfl) ?_
          refine va_get (D := (dC, dI)) (ci := 2) (v := .ref b3) (C := RX2) (T := TX2) (N := 8) hx hb hts inX2 hown hK hP 1 rfl rfl 6 (by decide) (hts _ q_fl_X2_20) (fun _ h9 => h9) rfl dX2_turn_59 ?_
          refine lv_iload hx hb dX2_turn_62 (lv_at hl 0 rfl) ?_
          refine aa_ld hx hb hK hP 4 3 rfl rfl (j := i) (by omega) (by omega) dX2_turn_64 ?_
          refine call_VpS (As := [.int (nI p), .int (nI p), .ref (rw i)]) (rest := [.int (nI i), .ref q26]) S (m_X2_isSure b0 b1 b2 b3 b4 n m tn sl bg ht rs sn rw wy o p p (rw i) (wy i) hn hp hp (by omega) (List.mem_append_right _ (List.mem_append_right _ (rB_mem (by omega)))) (hwy i (by omega)) hwy) g_X2_X2_isSure hd_X2_isSure ⟨Nat.le_of_ble_eq_true rfl, Nat.le_of_ble_eq_true rfl⟩ ⟨by show _ ≤ 1; omega, by show _ ≤ 243; omega⟩ hP hD hK hS hZ (List.sublist_cons_self _ _) 0 rfl rfl hl.1 rfl (Nat.le_of_ble_eq_true rfl) dX2_turn_65 (fun r H locs hq hP hS => ?_)
          obtain rfl := hq
          refine lv_iload_n hx hb dX2_turn_68 rfl (lv_at hl 2 rfl) ?_
          refine icB_ne (tgt := 98) hx hb dX2_turn_69 (by decide) (fun c_69 => ?_) (fun c_69 => ?_)
          · refine lv_iconst (v := nI 0) hx hb dX2_turn_98 (by decide) ?_
            refine W_i (y := bI false) rfl ?_
            refine za_st hx hb hK hP hD hS 0 1 rfl rfl (j := i) (v := false) (by omega) (by omega) dX2_turn_99 (fun H locs hP hD hS => ?_)
            have hP : va_P (dC, dI) vwCl ([(q26, .inl (cZ, m, .inl (fun k => bI ((upN g i false) k)))), (b0, .inr (2, [.int (nI n), .int (nI tn), .int (nI sl), .int (bI bg), .ref b1, .ref b2, .ref b3, .ref b4])), (b1, .inl (cI, n, .inl (fun k => nI (ht k)))), (b2, eQ cS n rs), (b3, eQ cW m rw), (b4, .inl (cZ, m, .inl (fun k => bI (o k))))] ++ (rB (fun w0 => eZ cZ n (sn w0)) rs n ++ (rB (fun w0 => eI cI n (wy w0)) rw m))) H := hP
            have hD : va_D A ([(q26, .inl (cZ, m, .inl (fun k => bI ((upN g i false) k)))), (b0, .inr (2, [.int (nI n), .int (nI tn), .int (nI sl), .int (bI bg), .ref b1, .ref b2, .ref b3, .ref b4])), (b1, .inl (cI, n, .inl (fun k => nI (ht k)))), (b2, eQ cS n rs), (b3, eQ cW m rw), (b4, .inl (cZ, m, .inl (fun k => bI (o k))))] ++ (rB (fun w0 => eZ cZ n (sn w0)) rs n ++ (rB (fun w0 => eI cI n (wy w0)) rw m))) := hD
            refine lv_iinc (v := nI (i + 1)) (lv' := [(4, .int (nI (i + 1))), (3, .ref q26), (2, .int (bI (surS n m sn wy o p p ht))), (1, .int (nI p)), (0, .ref b0)]) hx hb dX2_turn_100 hl (k := 0) rfl (nI_add _ _) (by decide) rfl (fun ls hl => ?_)
            refine lv_goto (tgt := 32) hx hb dX2_turn_103 (by decide) ?_
            exact ih32 (i + 1) _ (by omega) (by omega) (fun w hw => by rcases Nat.lt_or_ge w i with z | z; (· rw [upN_n _ _ (by omega)]; exact hg1 w z); (· rw [show w = i by omega, upN_s]; exact (by simp [nxS, c_52, c_69]))) _ _ hP hD hS _ (lv_sub hl [0, 1, 2, 3, 4] rfl)
          · refine lv_iload_n hx hb dX2_turn_72 rfl (lv_at hl 2 rfl) ?_
            refine ifB_eq (tgt := 94) hx hb dX2_turn_73 (by decide) (fun c_73 => ?_) (fun c_73 => ?_)
            · refine lv_iconst (v := nI 1) hx hb dX2_turn_94 (by decide) ?_
              refine lv_goto (tgt := 99) hx hb dX2_turn_95 (by decide) ?_
              refine W_i (y := bI true) rfl ?_
              refine za_st hx hb hK hP hD hS 0 1 rfl rfl (j := i) (v := true) (by omega) (by omega) dX2_turn_99 (fun H locs hP hD hS => ?_)
              have hP : va_P (dC, dI) vwCl ([(q26, .inl (cZ, m, .inl (fun k => bI ((upN g i true) k)))), (b0, .inr (2, [.int (nI n), .int (nI tn), .int (nI sl), .int (bI bg), .ref b1, .ref b2, .ref b3, .ref b4])), (b1, .inl (cI, n, .inl (fun k => nI (ht k)))), (b2, eQ cS n rs), (b3, eQ cW m rw), (b4, .inl (cZ, m, .inl (fun k => bI (o k))))] ++ (rB (fun w0 => eZ cZ n (sn w0)) rs n ++ (rB (fun w0 => eI cI n (wy w0)) rw m))) H := hP
              have hD : va_D A ([(q26, .inl (cZ, m, .inl (fun k => bI ((upN g i true) k)))), (b0, .inr (2, [.int (nI n), .int (nI tn), .int (nI sl), .int (bI bg), .ref b1, .ref b2, .ref b3, .ref b4])), (b1, .inl (cI, n, .inl (fun k => nI (ht k)))), (b2, eQ cS n rs), (b3, eQ cW m rw), (b4, .inl (cZ, m, .inl (fun k => bI (o k))))] ++ (rB (fun w0 => eZ cZ n (sn w0)) rs n ++ (rB (fun w0 => eI cI n (wy w0)) rw m))) := hD
              refine lv_iinc (v := nI (i + 1)) (lv' := [(4, .int (nI (i + 1))), (3, .ref q26), (2, .int (bI (surS n m sn wy o p p ht))), (1, .int (nI p)), (0, .ref b0)]) hx hb dX2_turn_100 hl (k := 0) rfl (nI_add _ _) (by decide) rfl (fun ls hl => ?_)
              refine lv_goto (tgt := 32) hx hb dX2_turn_103 (by decide) ?_
              exact ih32 (i + 1) _ (by omega) (by omega) (fun w hw => by rcases Nat.lt_or_ge w i with z | z; (· rw [upN_n _ _ (by omega)]; exact hg1 w z); (· rw [show w = i by omega, upN_s]; exact (by simp [nxS, c_52, c_69, c_73]))) _ _ hP hD hS _ (lv_sub hl [0, 1, 2, 3, 4] rfl)
            · refine lv_aload_n hx hb dX2_turn_76 rfl (lv_at hl 4 rfl) ?_
              refine va_get (D := (dC, dI)) (ci := 2) (v := .ref b3) (C := RX2) (T := TX2) (N := 8) hx hb hts inX2 hown hK hP 1 rfl rfl 6 (by decide) (hts _ q_fl_X2_20) (fun _ h9 => h9) rfl dX2_turn_77 ?_
              refine lv_iload hx hb dX2_turn_80 (lv_at hl 0 rfl) ?_
              refine aa_ld hx hb hK hP 4 3 rfl rfl (j := i) (by omega) (by omega) dX2_turn_82 ?_
              refine lv_iload_n hx hb dX2_turn_83 rfl (lv_at hl 3 rfl) ?_
              refine ia_ld hx hb hK (hP.one (List.mem_append_right _ (List.mem_append_right _ (rB_mem (by omega))))) 0 0 rfl rfl (j := p) (by omega) (by omega) dX2_turn_84 ?_
              refine lv_aload_n hx hb dX2_turn_85 rfl (lv_at hl 4 rfl) ?_
              refine va_get (D := (dC, dI)) (ci := 2) (v := .ref b1) (C := RX2) (T := TX2) (N := 8) hx hb hts inX2 hown hK hP 1 rfl rfl 4 (by decide) (hts _ q_fl_X2_7) (fun _ h9 => h9) rfl dX2_turn_86 ?_
              refine lv_iload_n hx hb dX2_turn_89 rfl (lv_at hl 3 rfl) ?_
              refine ia_ld hx hb hK hP 2 0 rfl rfl (j := p) (by omega) (by omega) dX2_turn_90 ?_
              refine icN_ne (tgt := 98) hx hb dX2_turn_91 (by decide) (by have := hwy i (by omega) p hp; omega) (by have := hht p hp; omega) (fun c_91 => ?_) (fun c_91 => ?_)
              · refine lv_iconst (v := nI 0) hx hb dX2_turn_98 (by decide) ?_
                refine W_i (y := bI false) rfl ?_
                refine za_st hx hb hK hP hD hS 0 1 rfl rfl (j := i) (v := false) (by omega) (by omega) dX2_turn_99 (fun H locs hP hD hS => ?_)
                have hP : va_P (dC, dI) vwCl ([(q26, .inl (cZ, m, .inl (fun k => bI ((upN g i false) k)))), (b0, .inr (2, [.int (nI n), .int (nI tn), .int (nI sl), .int (bI bg), .ref b1, .ref b2, .ref b3, .ref b4])), (b1, .inl (cI, n, .inl (fun k => nI (ht k)))), (b2, eQ cS n rs), (b3, eQ cW m rw), (b4, .inl (cZ, m, .inl (fun k => bI (o k))))] ++ (rB (fun w0 => eZ cZ n (sn w0)) rs n ++ (rB (fun w0 => eI cI n (wy w0)) rw m))) H := hP
                have hD : va_D A ([(q26, .inl (cZ, m, .inl (fun k => bI ((upN g i false) k)))), (b0, .inr (2, [.int (nI n), .int (nI tn), .int (nI sl), .int (bI bg), .ref b1, .ref b2, .ref b3, .ref b4])), (b1, .inl (cI, n, .inl (fun k => nI (ht k)))), (b2, eQ cS n rs), (b3, eQ cW m rw), (b4, .inl (cZ, m, .inl (fun k => bI (o k))))] ++ (rB (fun w0 => eZ cZ n (sn w0)) rs n ++ (rB (fun w0 => eI cI n (wy w0)) rw m))) := hD
                refine lv_iinc (v := nI (i + 1)) (lv' := [(4, .int (nI (i + 1))), (3, .ref q26), (2, .int (bI (surS n m sn wy o p p ht))), (1, .int (nI p)), (0, .ref b0)]) hx hb dX2_turn_100 hl (k := 0) rfl (nI_add _ _) (by decide) rfl (fun ls hl => ?_)
                refine lv_goto (tgt := 32) hx hb dX2_turn_103 (by decide) ?_
                exact ih32 (i + 1) _ (by omega) (by omega) (fun w hw => by rcases Nat.lt_or_ge w i with z | z; (· rw [upN_n _ _ (by omega)]; exact hg1 w z); (· rw [show w = i by omega, upN_s]; exact (by simp [nxS, c_52, c_69, c_73, c_91]))) _ _ hP hD hS _ (lv_sub hl [0, 1, 2, 3, 4] rfl)
              · refine lv_iconst (v := nI 1) hx hb dX2_turn_94 (by decide) ?_
                refine lv_goto (tgt := 99) hx hb dX2_turn_95 (by decide) ?_
                refine W_i (y := bI true) rfl ?_
                refine za_st hx hb hK hP hD hS 0 1 rfl rfl (j := i) (v := true) (by omega) (by omega) dX2_turn_99 (fun H locs hP hD hS => ?_)
                have hP : va_P (dC, dI) vwCl ([(q26, .inl (cZ, m, .inl (fun k => bI ((upN g i true) k)))), (b0, .inr (2, [.int (nI n), .int (nI tn), .int (nI sl), .int (bI bg), .ref b1, .ref b2, .ref b3, .ref b4])), (b1, .inl (cI, n, .inl (fun k => nI (ht k)))), (b2, eQ cS n rs), (b3, eQ cW m rw), (b4, .inl (cZ, m, .inl (fun k => bI (o k))))] ++ (rB (fun w0 => eZ cZ n (sn w0)) rs n ++ (rB (fun w0 => eI cI n (wy w0)) rw m))) H := hP
                have hD : va_D A ([(q26, .inl (cZ, m, .inl (fun k => bI ((upN g i true) k)))), (b0, .inr (2, [.int (nI n), .int (nI tn), .int (nI sl), .int (bI bg), .ref b1, .ref b2, .ref b3, .ref b4])), (b1, .inl (cI, n, .inl (fun k => nI (ht k)))), (b2, eQ cS n rs), (b3, eQ cW m rw), (b4, .inl (cZ, m, .inl (fun k => bI (o k))))] ++ (rB (fun w0 => eZ cZ n (sn w0)) rs n ++ (rB (fun w0 => eI cI n (wy w0)) rw m))) := hD
                refine lv_iinc (v := nI (i + 1)) (lv' := [(4, .int (nI (i + 1))), (3, .ref q26), (2, .int (bI (surS n m sn wy o p p ht))), (1, .int (nI p)), (0, .ref b0)]) hx hb dX2_turn_100 hl (k := 0) rfl (nI_add _ _) (by decide) rfl (fun ls hl => ?_)
                refine lv_goto (tgt := 32) hx hb dX2_turn_103 (by decide) ?_
                exact ih32 (i + 1) _ (by omega) (by omega) (fun w hw => by rcases Nat.lt_or_ge w i with z | z; (· rw [upN_n _ _ (by omega)]; exact hg1 w z); (· rw [show w = i by omega, upN_s]; exact (by simp [nxS, c_52, c_69, c_73, c_91]))) _ _ hP hD hS _ (lv_sub hl [0, 1, 2, 3, 4] rfl)
  exact lp32 (m + 1) 0 (fun _ => false) (by omega) (by omega) (fun w hw => absurd hw (by omega)) _ _ hP hD hS _ (lv_sub hl [0, 1, 2, 3, 4] rfl)

end
end
