-- ===== PART A: goes FIRST, ahead of the names: the tables' words, and 'selects' of the private methods out of them =====
/-- a private method of a class that the tables say can be made, by its rows of tables_1 -/
def lw_okq (q : MethodName × Nat) : Prop := (q.1.cls ≠ "java/lang/invoke/MethodHandle" ∧ q.1.cls ≠ "java/lang/invoke/VarHandle") ∧ Cond.instantiable q.1.cls q.2 ∈ tables_1 ∧ Cond.privateMethod q.1 ∈ tables_1 ∧ Cond.instanceMethod q.1 ∈ tables_1
theorem lw_p0 : lw_okq (⟨"HugTrees", "areKnown", "(II)Z"⟩, 5) := ⟨⟨by decide +kernel, by decide +kernel⟩, List.mem_of_getElem? (i := 12) (by decide +kernel), List.mem_of_getElem? (i := 130) (by decide +kernel), List.mem_of_getElem? (i := 131) (by decide +kernel)⟩
theorem lw_p1 : lw_okq (⟨"HugTrees", "isKnown", "(I)Z"⟩, 5) := ⟨⟨by decide +kernel, by decide +kernel⟩, List.mem_of_getElem? (i := 12) (by decide +kernel), List.mem_of_getElem? (i := 134) (by decide +kernel), List.mem_of_getElem? (i := 135) (by decide +kernel)⟩
theorem lw_p2 : lw_okq (⟨"HugTrees$Table", "shorterBy", "(III)I"⟩, 3) := ⟨⟨by decide +kernel, by decide +kernel⟩, List.mem_of_getElem? (i := 20) (by decide +kernel), List.mem_of_getElem? (i := 154) (by decide +kernel), List.mem_of_getElem? (i := 155) (by decide +kernel)⟩
theorem lw_p3 : lw_okq (⟨"HugTrees", "isNear", "()Z"⟩, 5) := ⟨⟨by decide +kernel, by decide +kernel⟩, List.mem_of_getElem? (i := 12) (by decide +kernel), List.mem_of_getElem? (i := 167) (by decide +kernel), List.mem_of_getElem? (i := 168) (by decide +kernel)⟩
theorem lw_p4 : lw_okq (⟨"HugTrees$Table", "brokenFoursFrom", "(III)I"⟩, 3) := ⟨⟨by decide +kernel, by decide +kernel⟩, List.mem_of_getElem? (i := 20) (by decide +kernel), List.mem_of_getElem? (i := 175) (by decide +kernel), List.mem_of_getElem? (i := 176) (by decide +kernel)⟩
theorem lw_p5 : lw_okq (⟨"HugTrees$Table", "shortenBy", "(II)V"⟩, 3) := ⟨⟨by decide +kernel, by decide +kernel⟩, List.mem_of_getElem? (i := 20) (by decide +kernel), List.mem_of_getElem? (i := 197) (by decide +kernel), List.mem_of_getElem? (i := 198) (by decide +kernel)⟩
theorem lw_p6 : lw_okq (⟨"HugTrees", "isCode", "(I)Z"⟩, 5) := ⟨⟨by decide +kernel, by decide +kernel⟩, List.mem_of_getElem? (i := 12) (by decide +kernel), List.mem_of_getElem? (i := 250) (by decide +kernel), List.mem_of_getElem? (i := 251) (by decide +kernel)⟩
theorem lw_p7 : lw_okq (⟨"HugTrees$SpanningTree", "readFigures", "(I)V"⟩, 7) := ⟨⟨by decide +kernel, by decide +kernel⟩, List.mem_of_getElem? (i := 47) (by decide +kernel), List.mem_of_getElem? (i := 258) (by decide +kernel), List.mem_of_getElem? (i := 259) (by decide +kernel)⟩
theorem lw_p8 : lw_okq (⟨"HugTrees$SpanningTree", "takeLeast", "()I"⟩, 7) := ⟨⟨by decide +kernel, by decide +kernel⟩, List.mem_of_getElem? (i := 47) (by decide +kernel), List.mem_of_getElem? (i := 263) (by decide +kernel), List.mem_of_getElem? (i := 264) (by decide +kernel)⟩
theorem lw_p9 : lw_okq (⟨"HugTrees$SpanningTree", "layWay", "(II)V"⟩, 7) := ⟨⟨by decide +kernel, by decide +kernel⟩, List.mem_of_getElem? (i := 47) (by decide +kernel), List.mem_of_getElem? (i := 280) (by decide +kernel), List.mem_of_getElem? (i := 281) (by decide +kernel)⟩
theorem lw_p10 : lw_okq (⟨"HugTrees$Splits", "allPoints", "()I"⟩, 1) := ⟨⟨by decide +kernel, by decide +kernel⟩, List.mem_of_getElem? (i := 79) (by decide +kernel), List.mem_of_getElem? (i := 336) (by decide +kernel), List.mem_of_getElem? (i := 337) (by decide +kernel)⟩
theorem lw_p11 : lw_okq (⟨"HugTrees$Splits", "leastAcross", "(III)I"⟩, 1) := ⟨⟨by decide +kernel, by decide +kernel⟩, List.mem_of_getElem? (i := 79) (by decide +kernel), List.mem_of_getElem? (i := 347) (by decide +kernel), List.mem_of_getElem? (i := 348) (by decide +kernel)⟩
theorem lw_p12 : lw_okq (⟨"HugTrees$Splits", "across", "(IIII)I"⟩, 1) := ⟨⟨by decide +kernel, by decide +kernel⟩, List.mem_of_getElem? (i := 79) (by decide +kernel), List.mem_of_getElem? (i := 351) (by decide +kernel), List.mem_of_getElem? (i := 352) (by decide +kernel)⟩
theorem lw_p13 : lw_okq (⟨"HugTrees$Lots", "reached", "(II)I"⟩, 1) := ⟨⟨by decide +kernel, by decide +kernel⟩, List.mem_of_getElem? (i := 89) (by decide +kernel), List.mem_of_getElem? (i := 383) (by decide +kernel), List.mem_of_getElem? (i := 384) (by decide +kernel)⟩
theorem lw_p14 : lw_okq (⟨"HugTrees$Lots", "nextDealt", "(III)I"⟩, 1) := ⟨⟨by decide +kernel, by decide +kernel⟩, List.mem_of_getElem? (i := 89) (by decide +kernel), List.mem_of_getElem? (i := 408) (by decide +kernel), List.mem_of_getElem? (i := 409) (by decide +kernel)⟩
theorem lw_p15 : lw_okq (⟨"HugTreesModel", "begin", "()V"⟩, 11) := ⟨⟨by decide +kernel, by decide +kernel⟩, List.mem_of_getElem? (i := 425) (by decide +kernel), List.mem_of_getElem? (i := 431) (by decide +kernel), List.mem_of_getElem? (i := 432) (by decide +kernel)⟩
def lw_privs_1 : List (MethodName × Nat) := [(⟨"HugTrees", "areKnown", "(II)Z"⟩, 5), (⟨"HugTrees", "isKnown", "(I)Z"⟩, 5), (⟨"HugTrees$Table", "shorterBy", "(III)I"⟩, 3), (⟨"HugTrees", "isNear", "()Z"⟩, 5), (⟨"HugTrees$Table", "brokenFoursFrom", "(III)I"⟩, 3), (⟨"HugTrees$Table", "shortenBy", "(II)V"⟩, 3), (⟨"HugTrees", "isCode", "(I)Z"⟩, 5), (⟨"HugTrees$SpanningTree", "readFigures", "(I)V"⟩, 7), (⟨"HugTrees$SpanningTree", "takeLeast", "()I"⟩, 7), (⟨"HugTrees$SpanningTree", "layWay", "(II)V"⟩, 7), (⟨"HugTrees$Splits", "allPoints", "()I"⟩, 1), (⟨"HugTrees$Splits", "leastAcross", "(III)I"⟩, 1), (⟨"HugTrees$Splits", "across", "(IIII)I"⟩, 1), (⟨"HugTrees$Lots", "reached", "(II)I"⟩, 1), (⟨"HugTrees$Lots", "nextDealt", "(III)I"⟩, 1), (⟨"HugTreesModel", "begin", "()V"⟩, 11)]
theorem lw_r1 : ∀ q ∈ lw_privs_1, lw_okq q := List.forall_mem_cons.mpr ⟨lw_p0, List.forall_mem_cons.mpr ⟨lw_p1, List.forall_mem_cons.mpr ⟨lw_p2, List.forall_mem_cons.mpr ⟨lw_p3, List.forall_mem_cons.mpr ⟨lw_p4, List.forall_mem_cons.mpr ⟨lw_p5, List.forall_mem_cons.mpr ⟨lw_p6, List.forall_mem_cons.mpr ⟨lw_p7, List.forall_mem_cons.mpr ⟨lw_p8, List.forall_mem_cons.mpr ⟨lw_p9, List.forall_mem_cons.mpr ⟨lw_p10, List.forall_mem_cons.mpr ⟨lw_p11, List.forall_mem_cons.mpr ⟨lw_p12, List.forall_mem_cons.mpr ⟨lw_p13, List.forall_mem_cons.mpr ⟨lw_p14, List.forall_mem_cons.mpr ⟨lw_p15, fun _ h => absurd h List.not_mem_nil⟩⟩⟩⟩⟩⟩⟩⟩⟩⟩⟩⟩⟩⟩⟩⟩
theorem lw_p16 : lw_okq (⟨"HugTreesModel", "isPoint", "(I)Z"⟩, 11) := ⟨⟨by decide +kernel, by decide +kernel⟩, List.mem_of_getElem? (i := 425) (by decide +kernel), List.mem_of_getElem? (i := 481) (by decide +kernel), List.mem_of_getElem? (i := 482) (by decide +kernel)⟩
theorem lw_p17 : lw_okq (⟨"HugTreesModel", "d", "(II)I"⟩, 11) := ⟨⟨by decide +kernel, by decide +kernel⟩, List.mem_of_getElem? (i := 425) (by decide +kernel), List.mem_of_getElem? (i := 489) (by decide +kernel), List.mem_of_getElem? (i := 490) (by decide +kernel)⟩
theorem lw_p18 : lw_okq (⟨"HugTreesModel", "brokenOf", "(I)I"⟩, 11) := ⟨⟨by decide +kernel, by decide +kernel⟩, List.mem_of_getElem? (i := 425) (by decide +kernel), List.mem_of_getElem? (i := 497) (by decide +kernel), List.mem_of_getElem? (i := 498) (by decide +kernel)⟩
theorem lw_p19 : lw_okq (⟨"HugTreesModel", "areFour", "(IIII)Z"⟩, 11) := ⟨⟨by decide +kernel, by decide +kernel⟩, List.mem_of_getElem? (i := 425) (by decide +kernel), List.mem_of_getElem? (i := 504) (by decide +kernel), List.mem_of_getElem? (i := 505) (by decide +kernel)⟩
theorem lw_p20 : lw_okq (⟨"HugTreesModel", "make", "(Z)V"⟩, 11) := ⟨⟨by decide +kernel, by decide +kernel⟩, List.mem_of_getElem? (i := 425) (by decide +kernel), List.mem_of_getElem? (i := 516) (by decide +kernel), List.mem_of_getElem? (i := 517) (by decide +kernel)⟩
theorem lw_p21 : lw_okq (⟨"HugTreesModel", "become", "()I"⟩, 11) := ⟨⟨by decide +kernel, by decide +kernel⟩, List.mem_of_getElem? (i := 425) (by decide +kernel), List.mem_of_getElem? (i := 520) (by decide +kernel), List.mem_of_getElem? (i := 521) (by decide +kernel)⟩
theorem lw_p22 : lw_okq (⟨"HugTreesModel", "codeMany", "()I"⟩, 11) := ⟨⟨by decide +kernel, by decide +kernel⟩, List.mem_of_getElem? (i := 425) (by decide +kernel), List.mem_of_getElem? (i := 544) (by decide +kernel), List.mem_of_getElem? (i := 545) (by decide +kernel)⟩
theorem lw_p23 : lw_okq (⟨"HugTreesModel", "isCode", "(I)Z"⟩, 11) := ⟨⟨by decide +kernel, by decide +kernel⟩, List.mem_of_getElem? (i := 425) (by decide +kernel), List.mem_of_getElem? (i := 552) (by decide +kernel), List.mem_of_getElem? (i := 553) (by decide +kernel)⟩
theorem lw_p24 : lw_okq (⟨"HugTreesModel", "lay", "(I)V"⟩, 11) := ⟨⟨by decide +kernel, by decide +kernel⟩, List.mem_of_getElem? (i := 425) (by decide +kernel), List.mem_of_getElem? (i := 556) (by decide +kernel), List.mem_of_getElem? (i := 557) (by decide +kernel)⟩
theorem lw_p25 : lw_okq (⟨"HugTreesModel", "leaf", "()I"⟩, 11) := ⟨⟨by decide +kernel, by decide +kernel⟩, List.mem_of_getElem? (i := 425) (by decide +kernel), List.mem_of_getElem? (i := 560) (by decide +kernel), List.mem_of_getElem? (i := 561) (by decide +kernel)⟩
theorem lw_p26 : lw_okq (⟨"HugTreesModel", "join", "(II)V"⟩, 11) := ⟨⟨by decide +kernel, by decide +kernel⟩, List.mem_of_getElem? (i := 425) (by decide +kernel), List.mem_of_getElem? (i := 564) (by decide +kernel), List.mem_of_getElem? (i := 565) (by decide +kernel)⟩
theorem lw_p27 : lw_okq (⟨"HugTreesModel", "go", "(I)V"⟩, 11) := ⟨⟨by decide +kernel, by decide +kernel⟩, List.mem_of_getElem? (i := 425) (by decide +kernel), List.mem_of_getElem? (i := 572) (by decide +kernel), List.mem_of_getElem? (i := 573) (by decide +kernel)⟩
theorem lw_p28 : lw_okq (⟨"HugTreesModel", "stretchNow", "()V"⟩, 11) := ⟨⟨by decide +kernel, by decide +kernel⟩, List.mem_of_getElem? (i := 425) (by decide +kernel), List.mem_of_getElem? (i := 582) (by decide +kernel), List.mem_of_getElem? (i := 583) (by decide +kernel)⟩
theorem lw_p29 : lw_okq (⟨"HugTreesModel", "spreadNow", "()I"⟩, 11) := ⟨⟨by decide +kernel, by decide +kernel⟩, List.mem_of_getElem? (i := 425) (by decide +kernel), List.mem_of_getElem? (i := 590) (by decide +kernel), List.mem_of_getElem? (i := 591) (by decide +kernel)⟩
theorem lw_p30 : lw_okq (⟨"HugTreesModel", "isPart", "(I)Z"⟩, 11) := ⟨⟨by decide +kernel, by decide +kernel⟩, List.mem_of_getElem? (i := 425) (by decide +kernel), List.mem_of_getElem? (i := 606) (by decide +kernel), List.mem_of_getElem? (i := 607) (by decide +kernel)⟩
theorem lw_p31 : lw_okq (⟨"HugTreesModel", "weightOf", "(I)I"⟩, 11) := ⟨⟨by decide +kernel, by decide +kernel⟩, List.mem_of_getElem? (i := 425) (by decide +kernel), List.mem_of_getElem? (i := 610) (by decide +kernel), List.mem_of_getElem? (i := 611) (by decide +kernel)⟩
def lw_privs_2 : List (MethodName × Nat) := [(⟨"HugTreesModel", "isPoint", "(I)Z"⟩, 11), (⟨"HugTreesModel", "d", "(II)I"⟩, 11), (⟨"HugTreesModel", "brokenOf", "(I)I"⟩, 11), (⟨"HugTreesModel", "areFour", "(IIII)Z"⟩, 11), (⟨"HugTreesModel", "make", "(Z)V"⟩, 11), (⟨"HugTreesModel", "become", "()I"⟩, 11), (⟨"HugTreesModel", "codeMany", "()I"⟩, 11), (⟨"HugTreesModel", "isCode", "(I)Z"⟩, 11), (⟨"HugTreesModel", "lay", "(I)V"⟩, 11), (⟨"HugTreesModel", "leaf", "()I"⟩, 11), (⟨"HugTreesModel", "join", "(II)V"⟩, 11), (⟨"HugTreesModel", "go", "(I)V"⟩, 11), (⟨"HugTreesModel", "stretchNow", "()V"⟩, 11), (⟨"HugTreesModel", "spreadNow", "()I"⟩, 11), (⟨"HugTreesModel", "isPart", "(I)Z"⟩, 11), (⟨"HugTreesModel", "weightOf", "(I)I"⟩, 11)]
theorem lw_r2 : ∀ q ∈ lw_privs_2, lw_okq q := List.forall_mem_cons.mpr ⟨lw_p16, List.forall_mem_cons.mpr ⟨lw_p17, List.forall_mem_cons.mpr ⟨lw_p18, List.forall_mem_cons.mpr ⟨lw_p19, List.forall_mem_cons.mpr ⟨lw_p20, List.forall_mem_cons.mpr ⟨lw_p21, List.forall_mem_cons.mpr ⟨lw_p22, List.forall_mem_cons.mpr ⟨lw_p23, List.forall_mem_cons.mpr ⟨lw_p24, List.forall_mem_cons.mpr ⟨lw_p25, List.forall_mem_cons.mpr ⟨lw_p26, List.forall_mem_cons.mpr ⟨lw_p27, List.forall_mem_cons.mpr ⟨lw_p28, List.forall_mem_cons.mpr ⟨lw_p29, List.forall_mem_cons.mpr ⟨lw_p30, List.forall_mem_cons.mpr ⟨lw_p31, fun _ h => absurd h List.not_mem_nil⟩⟩⟩⟩⟩⟩⟩⟩⟩⟩⟩⟩⟩⟩⟩⟩
theorem lw_p32 : lw_okq (⟨"HugTreesModel", "orders", "()I"⟩, 11) := ⟨⟨by decide +kernel, by decide +kernel⟩, List.mem_of_getElem? (i := 425) (by decide +kernel), List.mem_of_getElem? (i := 626) (by decide +kernel), List.mem_of_getElem? (i := 627) (by decide +kernel)⟩
theorem lw_p33 : lw_okq (⟨"HugTreesModel", "draw", "(I)V"⟩, 11) := ⟨⟨by decide +kernel, by decide +kernel⟩, List.mem_of_getElem? (i := 425) (by decide +kernel), List.mem_of_getElem? (i := 630) (by decide +kernel), List.mem_of_getElem? (i := 631) (by decide +kernel)⟩
theorem lw_p34 : lw_okq (⟨"HugTreesModel", "goalOf", "(II)I"⟩, 11) := ⟨⟨by decide +kernel, by decide +kernel⟩, List.mem_of_getElem? (i := 425) (by decide +kernel), List.mem_of_getElem? (i := 634) (by decide +kernel), List.mem_of_getElem? (i := 635) (by decide +kernel)⟩
theorem lw_p35 : lw_okq (⟨"HugTreesModel", "mix", "(J)V"⟩, 11) := ⟨⟨by decide +kernel, by decide +kernel⟩, List.mem_of_getElem? (i := 425) (by decide +kernel), List.mem_of_getElem? (i := 651) (by decide +kernel), List.mem_of_getElem? (i := 652) (by decide +kernel)⟩
def lw_privs_3 : List (MethodName × Nat) := [(⟨"HugTreesModel", "orders", "()I"⟩, 11), (⟨"HugTreesModel", "draw", "(I)V"⟩, 11), (⟨"HugTreesModel", "goalOf", "(II)I"⟩, 11), (⟨"HugTreesModel", "mix", "(J)V"⟩, 11)]
theorem lw_r3 : ∀ q ∈ lw_privs_3, lw_okq q := List.forall_mem_cons.mpr ⟨lw_p32, List.forall_mem_cons.mpr ⟨lw_p33, List.forall_mem_cons.mpr ⟨lw_p34, List.forall_mem_cons.mpr ⟨lw_p35, fun _ h => absurd h List.not_mem_nil⟩⟩⟩⟩
def lw_privs : List (MethodName × Nat) := lw_privs_1 ++ (lw_privs_2 ++ (lw_privs_3))
def lw_tbl : List Cond := k2_sels lw_privs ++ tables_1
theorem lw_privs_ok : ∀ q ∈ lw_privs, lw_okq q := by
  show ∀ q ∈ lw_privs_1 ++ (lw_privs_2 ++ (lw_privs_3)), lw_okq q
  exact List.forall_mem_append.mpr ⟨lw_r1, List.forall_mem_append.mpr ⟨lw_r2, lw_r3⟩⟩
/-! ===== BEGIN words of one list among another's, by their places ===== -/
theorem goodIn_r {big : List Cond} (ws : List Cond) (ps : List Nat) (hp : ws = ps.filterMap (fun i => big[i]?)) (h : ws.all goodWord = true) : GoodIn big ws := by
  intro w hw
  have h1 := List.all_eq_true.mp h w hw
  rw [hp] at hw
  obtain ⟨i, -, hi⟩ := List.mem_filterMap.mp hw
  have hm : w ∈ big := by first | exact List.mem_of_getElem? hi | exact List.getElem?_mem hi
  exact ⟨hm, good_of_word h1⟩
theorem goodIn_app {big a b : List Cond} (ha : GoodIn big a) (hb : GoodIn big b) : GoodIn big (a ++ b) := fun w h => (List.mem_append.mp h).elim (ha w) (hb w)
theorem goodIn_ca {big a b : List Cond} {c : Cond} (ha : GoodIn big (c :: a)) (hb : GoodIn big b) : GoodIn big (c :: (a ++ b)) := fun w h => (List.mem_cons.mp h).elim (fun e => ha w (List.mem_cons.mpr (Or.inl e))) (fun h => (List.mem_append.mp h).elim (fun h => ha w (List.mem_cons.mpr (Or.inr h))) (hb w))
theorem goodIn_sub {big ws : List Cond} (hm : ∀ w ∈ ws, w ∈ big) (h : ws.all goodWord = true) : GoodIn big ws := fun w hw => ⟨hm w hw, good_of_word (List.all_eq_true.mp h w hw)⟩
/-! ===== END ===== -/



/-! ===== BEGIN printed: names, fields, word lists, decode rows ===== -/
def RX0 : String := "HugTrees$Lots"
def TX0 : u_T := fun k => match k with
  | _ => ("HugTrees$Lots", "table", "LHugTrees$Table;", true)
def tyX0 : Nat → FieldType := fun k => match k with
  | _ => .object "HugTrees$Table"
abbrev wsX00 : List Cond := u_ws RX0 TX0 1
theorem nmX0 : ∀ a, a < 1 → ∀ b, b < 1 → a ≠ b → (TX0 a).2.1 ≠ (TX0 b).2.1 := by decide +kernel
theorem tyX0_ok : ∀ k, k < 1 → parseFieldDescriptor (TX0 k).2.2.1 = some (tyX0 k) := by decide +kernel
abbrev cX0_init : ByteArray := prog_2_method_1_code
def yX0_init : MethodName := ⟨RX0, "<init>", "(LHugTrees$Table;)V"⟩
abbrev cX0_howMany : ByteArray := prog_2_method_2_code
def yX0_howMany : MethodName := ⟨RX0, "howMany", "()I"⟩
abbrev cX0_ordersThatPart : ByteArray := prog_2_method_3_code
def yX0_ordersThatPart : MethodName := ⟨RX0, "ordersThatPart", "(III)I"⟩
abbrev cX0_reached : ByteArray := prog_2_method_4_code
def yX0_reached : MethodName := ⟨RX0, "reached", "(II)I"⟩
abbrev cX0_firstWithin : ByteArray := prog_2_method_5_code
def yX0_firstWithin : MethodName := ⟨RX0, "firstWithin", "(III)I"⟩
abbrev cX0_nextDealt : ByteArray := prog_2_method_6_code
def yX0_nextDealt : MethodName := ⟨RX0, "nextDealt", "(III)I"⟩
def RX1 : String := "HugTrees$SpanningTree"
def TX1 : u_T := fun k => match k with
  | 0 => ("HugTrees$SpanningTree", "table", "LHugTrees$Table;", true)
  | 1 => ("HugTrees$SpanningTree", "gone", "[I", true)
  | 2 => ("HugTrees$SpanningTree", "kept", "[I", true)
  | 3 => ("HugTrees$SpanningTree", "hangs", "[I", true)
  | 4 => ("HugTrees$SpanningTree", "ways", "[[I", true)
  | 5 => ("HugTrees$SpanningTree", "above", "I", false)
  | _ => ("HugTrees$SpanningTree", "below", "I", false)
def tyX1 : Nat → FieldType := fun k => match k with
  | 0 => .object "HugTrees$Table"
  | 1 => .array .int
  | 2 => .array .int
  | 3 => .array .int
  | 4 => .array (.array .int)
  | 5 => .int
  | _ => .int
abbrev wsX10 : List Cond := u_ws RX1 TX1 7
theorem nmX1 : ∀ a, a < 7 → ∀ b, b < 7 → a ≠ b → (TX1 a).2.1 ≠ (TX1 b).2.1 := by decide +kernel
theorem tyX1_ok : ∀ k, k < 7 → parseFieldDescriptor (TX1 k).2.2.1 = some (tyX1 k) := by decide +kernel
abbrev cX1_init : ByteArray := prog_3_method_1_code
def yX1_init : MethodName := ⟨RX1, "<init>", "(LHugTrees$Table;)V"⟩
abbrev cX1_howMany : ByteArray := prog_3_method_2_code
def yX1_howMany : MethodName := ⟨RX1, "howMany", "()I"⟩
abbrev cX1_read : ByteArray := prog_3_method_3_code
def yX1_read : MethodName := ⟨RX1, "read", "(I)V"⟩
abbrev cX1_readFigures : ByteArray := prog_3_method_4_code
def yX1_readFigures : MethodName := ⟨RX1, "readFigures", "(I)V"⟩
abbrev cX1_takeLeast : ByteArray := prog_3_method_5_code
def yX1_takeLeast : MethodName := ⟨RX1, "takeLeast", "()I"⟩
abbrev cX1_joins : ByteArray := prog_3_method_6_code
def yX1_joins : MethodName := ⟨RX1, "joins", "(II)Z"⟩
abbrev cX1_lay : ByteArray := prog_3_method_7_code
def yX1_lay : MethodName := ⟨RX1, "lay", "(I)V"⟩
abbrev cX1_layWay : ByteArray := prog_3_method_8_code
def yX1_layWay : MethodName := ⟨RX1, "layWay", "(II)V"⟩
abbrev cX1_findStretch : ByteArray := prog_3_method_9_code
def yX1_findStretch : MethodName := ⟨RX1, "findStretch", "()V"⟩
abbrev cX1_leastByStretch : ByteArray := prog_3_method_10_code
def yX1_leastByStretch : MethodName := ⟨RX1, "leastByStretch", "()I"⟩
abbrev cX1_leastBySpread : ByteArray := prog_3_method_11_code
def yX1_leastBySpread : MethodName := ⟨RX1, "leastBySpread", "()I"⟩
def RX2 : String := "HugTrees$Splits"
def TX2 : u_T := fun k => match k with
  | _ => ("HugTrees$Splits", "table", "LHugTrees$Table;", true)
def tyX2 : Nat → FieldType := fun k => match k with
  | _ => .object "HugTrees$Table"
abbrev wsX20 : List Cond := u_ws RX2 TX2 1
theorem nmX2 : ∀ a, a < 1 → ∀ b, b < 1 → a ≠ b → (TX2 a).2.1 ≠ (TX2 b).2.1 := by decide +kernel
theorem tyX2_ok : ∀ k, k < 1 → parseFieldDescriptor (TX2 k).2.2.1 = some (tyX2 k) := by decide +kernel
abbrev cX2_init : ByteArray := prog_4_method_1_code
def yX2_init : MethodName := ⟨RX2, "<init>", "(LHugTrees$Table;)V"⟩
abbrev cX2_allPoints : ByteArray := prog_4_method_2_code
def yX2_allPoints : MethodName := ⟨RX2, "allPoints", "()I"⟩
abbrev cX2_isIn : ByteArray := prog_4_method_3_code
def yX2_isIn : MethodName := ⟨RX2, "isIn", "(II)Z"⟩
abbrev cX2_isPart : ByteArray := prog_4_method_4_code
def yX2_isPart : MethodName := ⟨RX2, "isPart", "(I)Z"⟩
abbrev cX2_weigh : ByteArray := prog_4_method_5_code
def yX2_weigh : MethodName := ⟨RX2, "weigh", "(I)I"⟩
abbrev cX2_leastAcross : ByteArray := prog_4_method_6_code
def yX2_leastAcross : MethodName := ⟨RX2, "leastAcross", "(III)I"⟩
abbrev cX2_across : ByteArray := prog_4_method_7_code
def yX2_across : MethodName := ⟨RX2, "across", "(IIII)I"⟩
abbrev cX2_howManyWeigh : ByteArray := prog_4_method_8_code
def yX2_howManyWeigh : MethodName := ⟨RX2, "howManyWeigh", "()I"⟩
abbrev cX2_leftOf : ByteArray := prog_4_method_9_code
def yX2_leftOf : MethodName := ⟨RX2, "leftOf", "(II)I"⟩
def RX3 : String := "HugTrees$Table"
def TX3 : u_T := fun k => match k with
  | 0 => ("HugTrees$Table", "d", "[[I", true)
  | 1 => ("HugTrees$Table", "made", "[[I", true)
  | _ => ("HugTrees$Table", "n", "I", false)
def tyX3 : Nat → FieldType := fun k => match k with
  | 0 => .array (.array .int)
  | 1 => .array (.array .int)
  | _ => .int
abbrev wsX30 : List Cond := u_ws RX3 TX3 3
theorem nmX3 : ∀ a, a < 3 → ∀ b, b < 3 → a ≠ b → (TX3 a).2.1 ≠ (TX3 b).2.1 := by decide +kernel
theorem tyX3_ok : ∀ k, k < 3 → parseFieldDescriptor (TX3 k).2.2.1 = some (tyX3 k) := by decide +kernel
abbrev cX3_init : ByteArray := prog_5_method_1_code
def yX3_init : MethodName := ⟨RX3, "<init>", "()V"⟩
abbrev cX3_begin : ByteArray := prog_5_method_2_code
def yX3_begin : MethodName := ⟨RX3, "begin", "(I)V"⟩
abbrev cX3_put : ByteArray := prog_5_method_3_code
def yX3_put : MethodName := ⟨RX3, "put", "(III)V"⟩
abbrev cX3_together : ByteArray := prog_5_method_4_code
def yX3_together : MethodName := ⟨RX3, "together", "(III)I"⟩
abbrev cX3_brokenThrees : ByteArray := prog_5_method_5_code
def yX3_brokenThrees : MethodName := ⟨RX3, "brokenThrees", "(I)I"⟩
abbrev cX3_shorterBy : ByteArray := prog_5_method_6_code
def yX3_shorterBy : MethodName := ⟨RX3, "shorterBy", "(III)I"⟩
abbrev cX3_brokenFours : ByteArray := prog_5_method_7_code
def yX3_brokenFours : MethodName := ⟨RX3, "brokenFours", "()I"⟩
abbrev cX3_brokenFoursFrom : ByteArray := prog_5_method_8_code
def yX3_brokenFoursFrom : MethodName := ⟨RX3, "brokenFoursFrom", "(III)I"⟩
abbrev cX3_twoGreatestAlike : ByteArray := prog_5_method_9_code
def yX3_twoGreatestAlike : MethodName := ⟨RX3, "twoGreatestAlike", "(III)Z"⟩
abbrev cX3_closed : ByteArray := prog_5_method_10_code
def yX3_closed : MethodName := ⟨RX3, "closed", "(I)[[I"⟩
abbrev cX3_shortenBy : ByteArray := prog_5_method_11_code
def yX3_shortenBy : MethodName := ⟨RX3, "shortenBy", "(II)V"⟩
abbrev cX3_become : ByteArray := prog_5_method_12_code
def yX3_become : MethodName := ⟨RX3, "become", "([[I)I"⟩
abbrev cX3_greatestAbove : ByteArray := prog_5_method_13_code
def yX3_greatestAbove : MethodName := ⟨RX3, "greatestAbove", "([[I)I"⟩
abbrev cX3_groupsWithin : ByteArray := prog_5_method_14_code
def yX3_groupsWithin : MethodName := ⟨RX3, "groupsWithin", "(I)I"⟩
abbrev cX3_sumOf : ByteArray := prog_5_method_15_code
def yX3_sumOf : MethodName := ⟨RX3, "sumOf", "([[I)I"⟩
abbrev cX3_greatestOf : ByteArray := prog_5_method_16_code
def yX3_greatestOf : MethodName := ⟨RX3, "greatestOf", "([[I)I"⟩
def RX4 : String := "HugTrees"
def TX4 : u_T := fun k => match k with
  | 0 => ("HugTrees", "table", "LHugTrees$Table;", true)
  | 1 => ("HugTrees", "tree", "LHugTrees$SpanningTree;", true)
  | 2 => ("HugTrees", "splits", "LHugTrees$Splits;", true)
  | 3 => ("HugTrees", "lots", "LHugTrees$Lots;", true)
  | _ => ("HugTrees", "searches", "I", false)
def tyX4 : Nat → FieldType := fun k => match k with
  | 0 => .object "HugTrees$Table"
  | 1 => .object "HugTrees$SpanningTree"
  | 2 => .object "HugTrees$Splits"
  | 3 => .object "HugTrees$Lots"
  | _ => .int
abbrev wsX40 : List Cond := u_ws RX4 TX4 5
theorem nmX4 : ∀ a, a < 5 → ∀ b, b < 5 → a ≠ b → (TX4 a).2.1 ≠ (TX4 b).2.1 := by decide +kernel
theorem tyX4_ok : ∀ k, k < 5 → parseFieldDescriptor (TX4 k).2.2.1 = some (tyX4 k) := by decide +kernel
abbrev cX4_init : ByteArray := prog_1_method_1_code
def yX4_init : MethodName := ⟨RX4, "<init>", "()V"⟩
abbrev cX4_points : ByteArray := prog_1_method_2_code
def yX4_points : MethodName := ⟨RX4, "points", "(I)I"⟩
abbrev cX4_set : ByteArray := prog_1_method_3_code
def yX4_set : MethodName := ⟨RX4, "set", "(III)I"⟩
abbrev cX4_get : ByteArray := prog_1_method_4_code
def yX4_get : MethodName := ⟨RX4, "get", "(II)I"⟩
abbrev cX4_is : ByteArray := prog_1_method_5_code
def yX4_is : MethodName := ⟨RX4, "is", "(I)I"⟩
abbrev cX4_broken : ByteArray := prog_1_method_6_code
def yX4_broken : MethodName := ⟨RX4, "broken", "(I)I"⟩
abbrev cX4_mend : ByteArray := prog_1_method_7_code
def yX4_mend : MethodName := ⟨RX4, "mend", "()I"⟩
abbrev cX4_low : ByteArray := prog_1_method_8_code
def yX4_low : MethodName := ⟨RX4, "low", "(II)I"⟩
abbrev cX4_gap : ByteArray := prog_1_method_9_code
def yX4_gap : MethodName := ⟨RX4, "gap", "()I"⟩
abbrev cX4_groups : ByteArray := prog_1_method_10_code
def yX4_groups : MethodName := ⟨RX4, "groups", "(I)I"⟩
abbrev cX4_lower : ByteArray := prog_1_method_11_code
def yX4_lower : MethodName := ⟨RX4, "lower", "()I"⟩
abbrev cX4_codes : ByteArray := prog_1_method_12_code
def yX4_codes : MethodName := ⟨RX4, "codes", "()I"⟩
abbrev cX4_joined : ByteArray := prog_1_method_13_code
def yX4_joined : MethodName := ⟨RX4, "joined", "(III)I"⟩
abbrev cX4_way : ByteArray := prog_1_method_14_code
def yX4_way : MethodName := ⟨RX4, "way", "(III)I"⟩
abbrev cX4_stretch : ByteArray := prog_1_method_15_code
def yX4_stretch : MethodName := ⟨RX4, "stretch", "(II)J"⟩
abbrev cX4_spread : ByteArray := prog_1_method_16_code
def yX4_spread : MethodName := ⟨RX4, "spread", "(I)I"⟩
abbrev cX4_best : ByteArray := prog_1_method_17_code
def yX4_best : MethodName := ⟨RX4, "best", "(I)I"⟩
abbrev cX4_grow : ByteArray := prog_1_method_18_code
def yX4_grow : MethodName := ⟨RX4, "grow", "(I)I"⟩
abbrev cX4_weight : ByteArray := prog_1_method_19_code
def yX4_weight : MethodName := ⟨RX4, "weight", "(I)I"⟩
abbrev cX4_parts : ByteArray := prog_1_method_20_code
def yX4_parts : MethodName := ⟨RX4, "parts", "()I"⟩
abbrev cX4_rest : ByteArray := prog_1_method_21_code
def yX4_rest : MethodName := ⟨RX4, "rest", "(II)I"⟩
abbrev cX4_drawn : ByteArray := prog_1_method_22_code
def yX4_drawn : MethodName := ⟨RX4, "drawn", "(III)I"⟩
abbrev cX4_goes : ByteArray := prog_1_method_23_code
def yX4_goes : MethodName := ⟨RX4, "goes", "(III)I"⟩
abbrev cX4_count : ByteArray := prog_1_method_24_code
def yX4_count : MethodName := ⟨RX4, "count", "(I)I"⟩
abbrev cX4_digest : ByteArray := prog_1_method_25_code
def yX4_digest : MethodName := ⟨RX4, "digest", "()J"⟩
abbrev cX4_taken : ByteArray := prog_1_method_26_code
def yX4_taken : MethodName := ⟨RX4, "taken", "(JJ)J"⟩
abbrev cX4_asAnswer : ByteArray := prog_1_method_27_code
def yX4_asAnswer : MethodName := ⟨RX4, "asAnswer", "(Z)I"⟩
abbrev cX4_isKnown : ByteArray := prog_1_method_28_code
def yX4_isKnown : MethodName := ⟨RX4, "isKnown", "(I)Z"⟩
abbrev cX4_areKnown : ByteArray := prog_1_method_29_code
def yX4_areKnown : MethodName := ⟨RX4, "areKnown", "(II)Z"⟩
abbrev cX4_isCode : ByteArray := prog_1_method_30_code
def yX4_isCode : MethodName := ⟨RX4, "isCode", "(I)Z"⟩
abbrev cX4_isReach : ByteArray := prog_1_method_31_code
def yX4_isReach : MethodName := ⟨RX4, "isReach", "(I)Z"⟩
abbrev cX4_isNear : ByteArray := prog_1_method_32_code
def yX4_isNear : MethodName := ⟨RX4, "isNear", "()Z"⟩
abbrev cX4_greatestDivisor : ByteArray := prog_1_method_33_code
def yX4_greatestDivisor : MethodName := ⟨RX4, "greatestDivisor", "(II)I"⟩
def RX5 : String := "HugTreesModel"
def TX5 : u_T := fun k => match k with
  | 0 => ("HugTreesModel", "n", "I", false)
  | 1 => ("HugTreesModel", "table", "[I", true)
  | 2 => ("HugTreesModel", "bests", "I", false)
  | 3 => ("HugTreesModel", "made", "[I", true)
  | 4 => ("HugTreesModel", "isJoined", "[Z", true)
  | 5 => ("HugTreesModel", "joins", "[I", true)
  | 6 => ("HugTreesModel", "ways", "[I", true)
  | 7 => ("HugTreesModel", "above", "J", false)
  | 8 => ("HugTreesModel", "below", "J", false)
  | 9 => ("HugTreesModel", "order", "[I", true)
  | _ => ("HugTreesModel", "h", "J", false)
def tyX5 : Nat → FieldType := fun k => match k with
  | 0 => .int
  | 1 => .array .int
  | 2 => .int
  | 3 => .array .int
  | 4 => .array .boolean
  | 5 => .array .int
  | 6 => .array .int
  | 7 => .long
  | 8 => .long
  | 9 => .array .int
  | _ => .long
abbrev wsX50 : List Cond := u_ws RX5 TX5 11
theorem nmX5 : ∀ a, a < 11 → ∀ b, b < 11 → a ≠ b → (TX5 a).2.1 ≠ (TX5 b).2.1 := by decide +kernel
theorem tyX5_ok : ∀ k, k < 11 → parseFieldDescriptor (TX5 k).2.2.1 = some (tyX5 k) := by decide +kernel
abbrev cX5_init : ByteArray := prog_7_method_1_code
def yX5_init : MethodName := ⟨RX5, "<init>", "()V"⟩
abbrev cX5_in : ByteArray := prog_7_method_3_code
def yX5_in : MethodName := ⟨RX5, "in", "(III)Z"⟩
abbrev cX5_isPoint : ByteArray := prog_7_method_4_code
def yX5_isPoint : MethodName := ⟨RX5, "isPoint", "(I)Z"⟩
abbrev cX5_begin : ByteArray := prog_7_method_5_code
def yX5_begin : MethodName := ⟨RX5, "begin", "()V"⟩
abbrev cX5_greater : ByteArray := prog_7_method_6_code
def yX5_greater : MethodName := ⟨RX5, "greater", "(II)I"⟩
abbrev cX5_points : ByteArray := prog_7_method_7_code
def yX5_points : MethodName := ⟨RX5, "points", "(I)I"⟩
abbrev cX5_set : ByteArray := prog_7_method_8_code
def yX5_set : MethodName := ⟨RX5, "set", "(III)I"⟩
abbrev cX5_d : ByteArray := prog_7_method_9_code
def yX5_d : MethodName := ⟨RX5, "d", "(II)I"⟩
abbrev cX5_get : ByteArray := prog_7_method_10_code
def yX5_get : MethodName := ⟨RX5, "get", "(II)I"⟩
abbrev cX5_areFour : ByteArray := prog_7_method_11_code
def yX5_areFour : MethodName := ⟨RX5, "areFour", "(IIII)Z"⟩
abbrev cX5_brokenOf : ByteArray := prog_7_method_12_code
def yX5_brokenOf : MethodName := ⟨RX5, "brokenOf", "(I)I"⟩
abbrev cX5_is : ByteArray := prog_7_method_13_code
def yX5_is : MethodName := ⟨RX5, "is", "(I)I"⟩
abbrev cX5_broken : ByteArray := prog_7_method_14_code
def yX5_broken : MethodName := ⟨RX5, "broken", "(I)I"⟩
abbrev cX5_become : ByteArray := prog_7_method_15_code
def yX5_become : MethodName := ⟨RX5, "become", "()I"⟩
abbrev cX5_make : ByteArray := prog_7_method_16_code
def yX5_make : MethodName := ⟨RX5, "make", "(Z)V"⟩
abbrev cX5_mend : ByteArray := prog_7_method_17_code
def yX5_mend : MethodName := ⟨RX5, "mend", "()I"⟩
abbrev cX5_low : ByteArray := prog_7_method_18_code
def yX5_low : MethodName := ⟨RX5, "low", "(II)I"⟩
abbrev cX5_gap : ByteArray := prog_7_method_19_code
def yX5_gap : MethodName := ⟨RX5, "gap", "()I"⟩
abbrev cX5_groups : ByteArray := prog_7_method_20_code
def yX5_groups : MethodName := ⟨RX5, "groups", "(I)I"⟩
abbrev cX5_lower : ByteArray := prog_7_method_21_code
def yX5_lower : MethodName := ⟨RX5, "lower", "()I"⟩
abbrev cX5_codeMany : ByteArray := prog_7_method_22_code
def yX5_codeMany : MethodName := ⟨RX5, "codeMany", "()I"⟩
abbrev cX5_codes : ByteArray := prog_7_method_23_code
def yX5_codes : MethodName := ⟨RX5, "codes", "()I"⟩
abbrev cX5_isCode : ByteArray := prog_7_method_24_code
def yX5_isCode : MethodName := ⟨RX5, "isCode", "(I)Z"⟩
abbrev cX5_join : ByteArray := prog_7_method_25_code
def yX5_join : MethodName := ⟨RX5, "join", "(II)V"⟩
abbrev cX5_leaf : ByteArray := prog_7_method_26_code
def yX5_leaf : MethodName := ⟨RX5, "leaf", "()I"⟩
abbrev cX5_lay : ByteArray := prog_7_method_27_code
def yX5_lay : MethodName := ⟨RX5, "lay", "(I)V"⟩
abbrev cX5_go : ByteArray := prog_7_method_28_code
def yX5_go : MethodName := ⟨RX5, "go", "(I)V"⟩
abbrev cX5_joined : ByteArray := prog_7_method_29_code
def yX5_joined : MethodName := ⟨RX5, "joined", "(III)I"⟩
abbrev cX5_way : ByteArray := prog_7_method_30_code
def yX5_way : MethodName := ⟨RX5, "way", "(III)I"⟩
abbrev cX5_stretchNow : ByteArray := prog_7_method_31_code
def yX5_stretchNow : MethodName := ⟨RX5, "stretchNow", "()V"⟩
abbrev cX5_spreadNow : ByteArray := prog_7_method_32_code
def yX5_spreadNow : MethodName := ⟨RX5, "spreadNow", "()I"⟩
abbrev cX5_stretch : ByteArray := prog_7_method_33_code
def yX5_stretch : MethodName := ⟨RX5, "stretch", "(II)J"⟩
abbrev cX5_spread : ByteArray := prog_7_method_34_code
def yX5_spread : MethodName := ⟨RX5, "spread", "(I)I"⟩
abbrev cX5_best : ByteArray := prog_7_method_35_code
def yX5_best : MethodName := ⟨RX5, "best", "(I)I"⟩
abbrev cX5_grow : ByteArray := prog_7_method_36_code
def yX5_grow : MethodName := ⟨RX5, "grow", "(I)I"⟩
abbrev cX5_isPart : ByteArray := prog_7_method_37_code
def yX5_isPart : MethodName := ⟨RX5, "isPart", "(I)Z"⟩
abbrev cX5_weightOf : ByteArray := prog_7_method_38_code
def yX5_weightOf : MethodName := ⟨RX5, "weightOf", "(I)I"⟩
abbrev cX5_weight : ByteArray := prog_7_method_39_code
def yX5_weight : MethodName := ⟨RX5, "weight", "(I)I"⟩
abbrev cX5_parts : ByteArray := prog_7_method_40_code
def yX5_parts : MethodName := ⟨RX5, "parts", "()I"⟩
abbrev cX5_rest : ByteArray := prog_7_method_41_code
def yX5_rest : MethodName := ⟨RX5, "rest", "(II)I"⟩
abbrev cX5_orders : ByteArray := prog_7_method_42_code
def yX5_orders : MethodName := ⟨RX5, "orders", "()I"⟩
abbrev cX5_draw : ByteArray := prog_7_method_43_code
def yX5_draw : MethodName := ⟨RX5, "draw", "(I)V"⟩
abbrev cX5_goalOf : ByteArray := prog_7_method_44_code
def yX5_goalOf : MethodName := ⟨RX5, "goalOf", "(II)I"⟩
abbrev cX5_drawn : ByteArray := prog_7_method_45_code
def yX5_drawn : MethodName := ⟨RX5, "drawn", "(III)I"⟩
abbrev cX5_goes : ByteArray := prog_7_method_46_code
def yX5_goes : MethodName := ⟨RX5, "goes", "(III)I"⟩
abbrev cX5_count : ByteArray := prog_7_method_47_code
def yX5_count : MethodName := ⟨RX5, "count", "(I)I"⟩
abbrev cX5_mix : ByteArray := prog_7_method_48_code
def yX5_mix : MethodName := ⟨RX5, "mix", "(J)V"⟩
abbrev cX5_digest : ByteArray := prog_7_method_49_code
def yX5_digest : MethodName := ⟨RX5, "digest", "()J"⟩
def RJ6 : String := "java/lang/Integer"
def TJ6 : u_T := fun k => match k with
  | _ => ("", "", "", false)
def tyJ6 : Nat → FieldType := fun k => match k with
  | _ => .int
abbrev wsJ60 : List Cond := u_ws RJ6 TJ6 0
theorem nmJ6 : ∀ a, a < 0 → ∀ b, b < 0 → a ≠ b → (TJ6 a).2.1 ≠ (TJ6 b).2.1 := by decide +kernel
theorem tyJ6_ok : ∀ k, k < 0 → parseFieldDescriptor (TJ6 k).2.2.1 = some (tyJ6 k) := by decide +kernel
abbrev cJ6_bitCount_0f7a4 : ByteArray := prog_8_method_49_code
def yJ6_bitCount_0f7a4 : MethodName := ⟨RJ6, "bitCount", "(I)I"⟩
def RJ9 : String := "java/lang/Math"
def TJ9 : u_T := fun k => match k with
  | _ => ("", "", "", false)
def tyJ9 : Nat → FieldType := fun k => match k with
  | _ => .int
abbrev wsJ90 : List Cond := u_ws RJ9 TJ9 0
theorem nmJ9 : ∀ a, a < 0 → ∀ b, b < 0 → a ≠ b → (TJ9 a).2.1 ≠ (TJ9 b).2.1 := by decide +kernel
theorem tyJ9_ok : ∀ k, k < 0 → parseFieldDescriptor (TJ9 k).2.2.1 = some (tyJ9 k) := by decide +kernel
abbrev cJ9_max_7cf53 : ByteArray := prog_9_method_65_code
def yJ9_max_7cf53 : MethodName := ⟨RJ9, "max", "(II)I"⟩
abbrev cJ9_min_7cf53 : ByteArray := prog_9_method_69_code
def yJ9_min_7cf53 : MethodName := ⟨RJ9, "min", "(II)I"⟩
def RJ10 : String := "java/lang/System"
def TJ10 : u_T := fun k => match k with
  | _ => ("", "", "", false)
def tyJ10 : Nat → FieldType := fun k => match k with
  | _ => .int
abbrev wsJ100 : List Cond := u_ws RJ10 TJ10 0
theorem nmJ10 : ∀ a, a < 0 → ∀ b, b < 0 → a ≠ b → (TJ10 a).2.1 ≠ (TJ10 b).2.1 := by decide +kernel
theorem tyJ10_ok : ∀ k, k < 0 → parseFieldDescriptor (TJ10 k).2.2.1 = some (tyJ10 k) := by decide +kernel
def RJ7 : String := "java/util/Arrays"
def TJ7 : u_T := fun k => match k with
  | _ => ("", "", "", false)
def tyJ7 : Nat → FieldType := fun k => match k with
  | _ => .int
abbrev wsJ70 : List Cond := u_ws RJ7 TJ7 0
theorem nmJ7 : ∀ a, a < 0 → ∀ b, b < 0 → a ≠ b → (TJ7 a).2.1 ≠ (TJ7 b).2.1 := by decide +kernel
theorem tyJ7_ok : ∀ k, k < 0 → parseFieldDescriptor (TJ7 k).2.2.1 = some (tyJ7 k) := by decide +kernel
abbrev cJ7_fill_53178 : ByteArray := prog_11_method_103_code
def yJ7_fill_53178 : MethodName := ⟨RJ7, "fill", "([II)V"⟩
def RL : String := "HugTreesLaw"
abbrev cL_law : ByteArray := code
def yL_law : MethodName := ⟨RL, "law", "([I)Z"⟩
def wsL_law_r1 : List Cond := [Cond.classLink RL 7 RX4, Cond.instantiable RX4 5, Cond.initialized RX4, Cond.classLink RL 10 RX5, Cond.instantiable RX5 11, Cond.initialized RX5, Cond.methodLink RL 9 yX4_init, Cond.instanceMethod yX4_init, Cond.code yX4_init cX4_init 1 none, Cond.methodLink RX4 3 objectInit, Cond.instanceMethod objectInit, Cond.code objectInit ⟨#[0xb1]⟩ 1 none, Cond.classLink RX4 9 RX3, Cond.instantiable RX3 3, Cond.initialized RX3, Cond.fieldLink RX4 12 "HugTrees" "table" "LHugTrees$Table;", Cond.classLink RX4 16 RX1, Cond.instantiable RX1 7, Cond.initialized RX1, Cond.fieldLink RX4 21 "HugTrees" "tree" "LHugTrees$SpanningTree;", Cond.classLink RX4 25 RX2, Cond.instantiable RX2 1, Cond.initialized RX2, Cond.fieldLink RX4 28 "HugTrees" "splits" "LHugTrees$Splits;"]
def wsL_law_r2 : List Cond := [Cond.classLink RX4 32 RX0, Cond.instantiable RX0 1, Cond.initialized RX0, Cond.fieldLink RX4 35 "HugTrees" "lots" "LHugTrees$Lots;", Cond.fieldLink RX4 39 "HugTrees" "searches" "I", Cond.instanceMethod yX3_init, Cond.code yX3_init cX3_init 1 none, Cond.methodLink RX3 3 objectInit, Cond.classLink RX3 9 "[[I", Cond.arrayClass .int, Cond.fieldLink RX3 11 "HugTrees$Table" "d" "[[I", Cond.fieldLink RX3 16 "HugTrees$Table" "made" "[[I", Cond.methodLink RX4 18 yX1_init, Cond.instanceMethod yX1_init, Cond.code yX1_init cX1_init 2 none, Cond.methodLink RX1 3 objectInit, Cond.fieldLink RX1 9 "HugTrees$SpanningTree" "gone" "[I", Cond.fieldLink RX1 15 "HugTrees$SpanningTree" "kept" "[I", Cond.fieldLink RX1 18 "HugTrees$SpanningTree" "hangs" "[I", Cond.classLink RX1 21 "[[I", Cond.fieldLink RX1 23 "HugTrees$SpanningTree" "ways" "[[I", Cond.fieldLink RX1 26 "HugTrees$SpanningTree" "above" "I", Cond.fieldLink RX1 30 "HugTrees$SpanningTree" "below" "I", Cond.fieldLink RX1 33 "HugTrees$SpanningTree" "table" "LHugTrees$Table;"]
def wsL_law_r3 : List Cond := [Cond.methodLink RX4 27 yX2_init, Cond.instanceMethod yX2_init, Cond.code yX2_init cX2_init 2 none, Cond.methodLink RX2 3 objectInit, Cond.fieldLink RX2 9 "HugTrees$Splits" "table" "LHugTrees$Table;", Cond.methodLink RX4 34 yX0_init, Cond.instanceMethod yX0_init, Cond.code yX0_init cX0_init 2 none, Cond.methodLink RX0 1 objectInit, Cond.fieldLink RX0 7 "HugTrees$Lots" "table" "LHugTrees$Table;", Cond.methodLink RX4 43 yX3_begin, Cond.instanceMethod yX3_begin, Cond.selects RX3 yX3_begin yX3_begin, Cond.code yX3_begin cX3_begin 3 none, Cond.fieldLink RX3 19 "HugTrees$Table" "n" "I", Cond.methodLink RX3 23 yJ7_fill_53178, Cond.static yJ7_fill_53178, Cond.initialized RJ7, Cond.code yJ7_fill_53178 cJ7_fill_53178 4 none, Cond.methodLink RL 12 yX5_init, Cond.instanceMethod yX5_init, Cond.code yX5_init cX5_init 1 none, Cond.methodLink RX5 1 objectInit, Cond.fieldLink RX5 7 "HugTreesModel" "n" "I"]
def wsL_law_r4 : List Cond := [Cond.fieldLink RX5 13 "HugTreesModel" "table" "[I", Cond.fieldLink RX5 17 "HugTreesModel" "made" "[I", Cond.arrayClass .boolean, Cond.fieldLink RX5 20 "HugTreesModel" "isJoined" "[Z", Cond.fieldLink RX5 24 "HugTreesModel" "joins" "[I", Cond.fieldLink RX5 27 "HugTreesModel" "ways" "[I", Cond.fieldLink RX5 30 "HugTreesModel" "order" "[I", Cond.methodLink RX5 33 yX5_begin, Cond.instanceMethod yX5_begin, Cond.selects RX5 yX5_begin yX5_begin, Cond.code yX5_begin cX5_begin 3 none, Cond.methodLink RL 13 yX4_points, Cond.instanceMethod yX4_points, Cond.selects RX4 yX4_points yX4_points, Cond.code yX4_points cX4_points 2 (some .int), Cond.methodLink RL 17 yX5_points, Cond.instanceMethod yX5_points, Cond.selects RX5 yX5_points yX5_points, Cond.code yX5_points cX5_points 2 (some .int), Cond.methodLink RX5 36 yX5_in, Cond.static yX5_in, Cond.code yX5_in cX5_in 3 (some .boolean), Cond.methodLink RL 18 yX4_set, Cond.instanceMethod yX4_set]
def wsL_law_r5 : List Cond := [Cond.selects RX4 yX4_set yX4_set, Cond.code yX4_set cX4_set 5 (some .int), Cond.methodLink RX4 47 yX4_areKnown, Cond.instanceMethod yX4_areKnown, Cond.selects RX4 yX4_areKnown yX4_areKnown, Cond.code yX4_areKnown cX4_areKnown 3 (some .boolean), Cond.methodLink RX4 154 yX4_isKnown, Cond.instanceMethod yX4_isKnown, Cond.selects RX4 yX4_isKnown yX4_isKnown, Cond.code yX4_isKnown cX4_isKnown 2 (some .boolean), Cond.methodLink RX4 55 yX3_put, Cond.instanceMethod yX3_put, Cond.selects RX3 yX3_put yX3_put, Cond.code yX3_put cX3_put 4 none, Cond.methodLink RL 22 yX5_set, Cond.instanceMethod yX5_set, Cond.selects RX5 yX5_set yX5_set, Cond.code yX5_set cX5_set 5 (some .int), Cond.methodLink RX5 40 yX5_isPoint, Cond.instanceMethod yX5_isPoint, Cond.selects RX5 yX5_isPoint yX5_isPoint, Cond.code yX5_isPoint cX5_isPoint 2 (some .boolean), Cond.methodLink RL 23 yX4_get, Cond.instanceMethod yX4_get]
def wsL_law_r6 : List Cond := [Cond.selects RX4 yX4_get yX4_get, Cond.code yX4_get cX4_get 3 (some .int), Cond.methodLink RL 27 yX5_get, Cond.instanceMethod yX5_get, Cond.selects RX5 yX5_get yX5_get, Cond.code yX5_get cX5_get 3 (some .int), Cond.methodLink RX5 44 yX5_d, Cond.instanceMethod yX5_d, Cond.selects RX5 yX5_d yX5_d, Cond.code yX5_d cX5_d 3 (some .int), Cond.methodLink RL 28 yX4_is, Cond.instanceMethod yX4_is, Cond.selects RX4 yX4_is yX4_is, Cond.code yX4_is cX4_is 2 (some .int), Cond.methodLink RX4 59 yX3_brokenThrees, Cond.instanceMethod yX3_brokenThrees, Cond.selects RX3 yX3_brokenThrees yX3_brokenThrees, Cond.code yX3_brokenThrees cX3_brokenThrees 5 (some .int), Cond.methodLink RX3 35 yX3_shorterBy, Cond.instanceMethod yX3_shorterBy, Cond.selects RX3 yX3_shorterBy yX3_shorterBy, Cond.code yX3_shorterBy cX3_shorterBy 6 (some .int), Cond.methodLink RX3 39 yX3_together, Cond.static yX3_together]
def wsL_law_r7 : List Cond := [Cond.code yX3_together cX3_together 3 (some .int), Cond.methodLink RX3 29 Lib.Math.max.name, Cond.static Lib.Math.max.name, Cond.initialized "java/lang/Math", Cond.code Lib.Math.max.name Lib.Math.max.code 2 (some .int), Cond.methodLink RX4 63 yX4_asAnswer, Cond.static yX4_asAnswer, Cond.code yX4_asAnswer cX4_asAnswer 1 (some .int), Cond.methodLink RX4 67 yX4_isNear, Cond.instanceMethod yX4_isNear, Cond.selects RX4 yX4_isNear yX4_isNear, Cond.code yX4_isNear cX4_isNear 1 (some .boolean), Cond.methodLink RX4 71 yX3_brokenFours, Cond.instanceMethod yX3_brokenFours, Cond.selects RX3 yX3_brokenFours yX3_brokenFours, Cond.code yX3_brokenFours cX3_brokenFours 5 (some .int), Cond.methodLink RX3 42 yX3_brokenFoursFrom, Cond.instanceMethod yX3_brokenFoursFrom, Cond.selects RX3 yX3_brokenFoursFrom yX3_brokenFoursFrom, Cond.code yX3_brokenFoursFrom cX3_brokenFoursFrom 6 (some .int), Cond.methodLink RX3 45 yX3_twoGreatestAlike, Cond.static yX3_twoGreatestAlike, Cond.code yX3_twoGreatestAlike cX3_twoGreatestAlike 4 (some .boolean), Cond.methodLink RL 31 yX5_is]
def wsL_law_r8 : List Cond := [Cond.instanceMethod yX5_is, Cond.selects RX5 yX5_is yX5_is, Cond.code yX5_is cX5_is 2 (some .int), Cond.methodLink RX5 55 yX5_brokenOf, Cond.instanceMethod yX5_brokenOf, Cond.selects RX5 yX5_brokenOf yX5_brokenOf, Cond.code yX5_brokenOf cX5_brokenOf 7 (some .int), Cond.methodLink RX5 48 yX5_greater, Cond.static yX5_greater, Cond.code yX5_greater cX5_greater 2 (some .int), Cond.methodLink RX5 51 yX5_areFour, Cond.instanceMethod yX5_areFour, Cond.selects RX5 yX5_areFour yX5_areFour, Cond.code yX5_areFour cX5_areFour 9 (some .boolean), Cond.methodLink RL 32 yX4_broken, Cond.instanceMethod yX4_broken, Cond.selects RX4 yX4_broken yX4_broken, Cond.code yX4_broken cX4_broken 2 (some .int), Cond.methodLink RL 35 yX5_broken, Cond.instanceMethod yX5_broken, Cond.selects RX5 yX5_broken yX5_broken, Cond.code yX5_broken cX5_broken 2 (some .int), Cond.methodLink RL 36 yX4_mend, Cond.instanceMethod yX4_mend]
def wsL_law_r9 : List Cond := [Cond.selects RX4 yX4_mend yX4_mend, Cond.code yX4_mend cX4_mend 1 (some .int), Cond.methodLink RX4 75 yX3_closed, Cond.instanceMethod yX3_closed, Cond.selects RX3 yX3_closed yX3_closed, Cond.code yX3_closed cX3_closed 3 (some (.array (.array .int))), Cond.methodLink RX3 49 arraycopyName, Cond.native arraycopyName, Cond.static arraycopyName, Cond.initialized "java/lang/System", Cond.methodLink RX3 55 yX3_shortenBy, Cond.instanceMethod yX3_shortenBy, Cond.selects RX3 yX3_shortenBy yX3_shortenBy, Cond.code yX3_shortenBy cX3_shortenBy 5 none, Cond.methodLink RX3 59 Lib.Math.min.name, Cond.static Lib.Math.min.name, Cond.code Lib.Math.min.name Lib.Math.min.code 2 (some .int), Cond.methodLink RX4 79 yX3_become, Cond.instanceMethod yX3_become, Cond.selects RX3 yX3_become yX3_become, Cond.code yX3_become cX3_become 5 (some .int), Cond.methodLink RX3 62 yX3_put, Cond.methodLink RL 40 yX5_mend, Cond.instanceMethod yX5_mend]
def wsL_law_r10 : List Cond := [Cond.selects RX5 yX5_mend yX5_mend, Cond.code yX5_mend cX5_mend 1 (some .int), Cond.methodLink RX5 59 yX5_make, Cond.instanceMethod yX5_make, Cond.selects RX5 yX5_make yX5_make, Cond.code yX5_make cX5_make 6 none, Cond.methodLink RX5 63 yX5_become, Cond.instanceMethod yX5_become, Cond.selects RX5 yX5_become yX5_become, Cond.code yX5_become cX5_become 4 (some .int), Cond.methodLink RL 41 yX4_low, Cond.instanceMethod yX4_low, Cond.selects RX4 yX4_low yX4_low, Cond.code yX4_low cX4_low 3 (some .int), Cond.methodLink RL 44 yX5_low, Cond.instanceMethod yX5_low, Cond.selects RX5 yX5_low yX5_low, Cond.code yX5_low cX5_low 3 (some .int), Cond.methodLink RL 45 yX4_gap, Cond.instanceMethod yX4_gap, Cond.selects RX4 yX4_gap yX4_gap, Cond.code yX4_gap cX4_gap 1 (some .int), Cond.methodLink RX4 83 yX3_greatestAbove, Cond.instanceMethod yX3_greatestAbove]
def wsL_law_r11 : List Cond := [Cond.selects RX3 yX3_greatestAbove yX3_greatestAbove, Cond.code yX3_greatestAbove cX3_greatestAbove 5 (some .int), Cond.methodLink RL 48 yX5_gap, Cond.instanceMethod yX5_gap, Cond.selects RX5 yX5_gap yX5_gap, Cond.code yX5_gap cX5_gap 4 (some .int), Cond.methodLink RL 49 yX4_groups, Cond.instanceMethod yX4_groups, Cond.selects RX4 yX4_groups yX4_groups, Cond.code yX4_groups cX4_groups 2 (some .int), Cond.methodLink RX4 86 yX4_isReach, Cond.static yX4_isReach, Cond.code yX4_isReach cX4_isReach 1 (some .boolean), Cond.methodLink RX4 90 yX3_groupsWithin, Cond.instanceMethod yX3_groupsWithin, Cond.selects RX3 yX3_groupsWithin yX3_groupsWithin, Cond.code yX3_groupsWithin cX3_groupsWithin 7 (some .int), Cond.methodLink RX3 66 yX3_closed, Cond.methodLink RL 52 yX5_groups, Cond.instanceMethod yX5_groups, Cond.selects RX5 yX5_groups yX5_groups, Cond.code yX5_groups cX5_groups 6 (some .int), Cond.methodLink RL 53 yX4_lower, Cond.instanceMethod yX4_lower]
def wsL_law_r12 : List Cond := [Cond.selects RX4 yX4_lower yX4_lower, Cond.code yX4_lower cX4_lower 1 (some .int), Cond.methodLink RL 56 yX5_lower, Cond.instanceMethod yX5_lower, Cond.selects RX5 yX5_lower yX5_lower, Cond.code yX5_lower cX5_lower 1 (some .int), Cond.methodLink RL 57 yX4_codes, Cond.instanceMethod yX4_codes, Cond.selects RX4 yX4_codes yX4_codes, Cond.code yX4_codes cX4_codes 1 (some .int), Cond.methodLink RX4 93 yX1_howMany, Cond.instanceMethod yX1_howMany, Cond.selects RX1 yX1_howMany yX1_howMany, Cond.code yX1_howMany cX1_howMany 3 (some .int), Cond.methodLink RL 60 yX5_codes, Cond.instanceMethod yX5_codes, Cond.selects RX5 yX5_codes yX5_codes, Cond.code yX5_codes cX5_codes 1 (some .int), Cond.methodLink RX5 67 yX5_codeMany, Cond.instanceMethod yX5_codeMany, Cond.selects RX5 yX5_codeMany yX5_codeMany, Cond.code yX5_codeMany cX5_codeMany 3 (some .int), Cond.methodLink RL 61 yX4_joined, Cond.instanceMethod yX4_joined]
def wsL_law_r13 : List Cond := [Cond.selects RX4 yX4_joined yX4_joined, Cond.code yX4_joined cX4_joined 4 (some .int), Cond.methodLink RX4 96 yX4_isCode, Cond.instanceMethod yX4_isCode, Cond.selects RX4 yX4_isCode yX4_isCode, Cond.code yX4_isCode cX4_isCode 2 (some .boolean), Cond.methodLink RX4 99 yX1_read, Cond.instanceMethod yX1_read, Cond.selects RX1 yX1_read yX1_read, Cond.code yX1_read cX1_read 4 none, Cond.methodLink RX1 42 yX1_readFigures, Cond.instanceMethod yX1_readFigures, Cond.selects RX1 yX1_readFigures yX1_readFigures, Cond.code yX1_readFigures cX1_readFigures 5 none, Cond.methodLink RX1 50 yJ7_fill_53178, Cond.methodLink RX1 46 yX1_takeLeast, Cond.instanceMethod yX1_takeLeast, Cond.selects RX1 yX1_takeLeast yX1_takeLeast, Cond.code yX1_takeLeast cX1_takeLeast 2 (some .int), Cond.methodLink RX4 102 yX1_joins, Cond.instanceMethod yX1_joins, Cond.selects RX1 yX1_joins yX1_joins, Cond.code yX1_joins cX1_joins 5 (some .boolean), Cond.methodLink RL 64 yX5_joined]
def wsL_law_r14 : List Cond := [Cond.instanceMethod yX5_joined, Cond.selects RX5 yX5_joined yX5_joined, Cond.code yX5_joined cX5_joined 4 (some .int), Cond.methodLink RX5 82 yX5_isCode, Cond.instanceMethod yX5_isCode, Cond.selects RX5 yX5_isCode yX5_isCode, Cond.code yX5_isCode cX5_isCode 2 (some .boolean), Cond.methodLink RX5 77 yX5_lay, Cond.instanceMethod yX5_lay, Cond.selects RX5 yX5_lay yX5_lay, Cond.code yX5_lay cX5_lay 6 none, Cond.methodLink RX5 70 yX5_leaf, Cond.instanceMethod yX5_leaf, Cond.selects RX5 yX5_leaf yX5_leaf, Cond.code yX5_leaf cX5_leaf 2 (some .int), Cond.methodLink RX5 73 yX5_join, Cond.instanceMethod yX5_join, Cond.selects RX5 yX5_join yX5_join, Cond.code yX5_join cX5_join 3 none, Cond.methodLink RL 65 yX4_way, Cond.instanceMethod yX4_way, Cond.selects RX4 yX4_way yX4_way, Cond.code yX4_way cX4_way 4 (some .int), Cond.methodLink RX4 105 yX1_lay]
def wsL_law_r15 : List Cond := [Cond.instanceMethod yX1_lay, Cond.selects RX1 yX1_lay yX1_lay, Cond.code yX1_lay cX1_lay 5 none, Cond.methodLink RX1 56 yX1_read, Cond.methodLink RX1 59 yX1_layWay, Cond.instanceMethod yX1_layWay, Cond.selects RX1 yX1_layWay yX1_layWay, Cond.code yX1_layWay cX1_layWay 5 none, Cond.methodLink RL 68 yX5_way, Cond.instanceMethod yX5_way, Cond.selects RX5 yX5_way yX5_way, Cond.code yX5_way cX5_way 4 (some .int), Cond.methodLink RX5 85 yX5_go, Cond.instanceMethod yX5_go, Cond.selects RX5 yX5_go yX5_go, Cond.code yX5_go cX5_go 6 none, Cond.constant RX5 81 (1000000), Cond.methodLink RL 69 yX4_stretch, Cond.instanceMethod yX4_stretch, Cond.selects RX4 yX4_stretch yX4_stretch, Cond.code yX4_stretch cX4_stretch 5 (some .long), Cond.constantLong RX4 111 (-102), Cond.methodLink RX4 113 yX1_findStretch, Cond.instanceMethod yX1_findStretch]
def wsL_law_r16 : List Cond := [Cond.selects RX1 yX1_findStretch yX1_findStretch, Cond.code yX1_findStretch cX1_findStretch 3 none, Cond.methodLink RX4 122 yX4_greatestDivisor, Cond.static yX4_greatestDivisor, Cond.code yX4_greatestDivisor cX4_greatestDivisor 6 (some .int), Cond.methodLink RL 73 yX5_stretch, Cond.instanceMethod yX5_stretch, Cond.selects RX5 yX5_stretch yX5_stretch, Cond.code yX5_stretch cX5_stretch 9 (some .long), Cond.constantLong RX5 95 (-102), Cond.fieldLink RX5 88 "HugTreesModel" "above" "J", Cond.fieldLink RX5 92 "HugTreesModel" "below" "J", Cond.methodLink RX5 97 yX5_stretchNow, Cond.instanceMethod yX5_stretchNow, Cond.selects RX5 yX5_stretchNow yX5_stretchNow, Cond.code yX5_stretchNow cX5_stretchNow 3 none, Cond.methodLink RL 74 yX4_spread, Cond.instanceMethod yX4_spread, Cond.selects RX4 yX4_spread yX4_spread, Cond.code yX4_spread cX4_spread 2 (some .int), Cond.methodLink RX4 126 yX3_sumOf, Cond.instanceMethod yX3_sumOf, Cond.selects RX3 yX3_sumOf yX3_sumOf, Cond.code yX3_sumOf cX3_sumOf 5 (some .int)]
def wsL_law_r17 : List Cond := [Cond.methodLink RL 77 yX5_spread, Cond.instanceMethod yX5_spread, Cond.selects RX5 yX5_spread yX5_spread, Cond.code yX5_spread cX5_spread 2 (some .int), Cond.methodLink RX5 100 yX5_spreadNow, Cond.instanceMethod yX5_spreadNow, Cond.selects RX5 yX5_spreadNow yX5_spreadNow, Cond.code yX5_spreadNow cX5_spreadNow 4 (some .int), Cond.methodLink RL 78 yX4_best, Cond.instanceMethod yX4_best, Cond.selects RX4 yX4_best yX4_best, Cond.code yX4_best cX4_best 2 (some .int), Cond.methodLink RX4 129 yX1_leastByStretch, Cond.instanceMethod yX1_leastByStretch, Cond.selects RX1 yX1_leastByStretch yX1_leastByStretch, Cond.code yX1_leastByStretch cX1_leastByStretch 6 (some .int), Cond.methodLink RX1 66 yX1_howMany, Cond.methodLink RX1 69 yX1_lay, Cond.methodLink RX1 72 yX1_findStretch, Cond.methodLink RX4 132 yX1_leastBySpread, Cond.instanceMethod yX1_leastBySpread, Cond.selects RX1 yX1_leastBySpread yX1_leastBySpread, Cond.code yX1_leastBySpread cX1_leastBySpread 6 (some .int), Cond.methodLink RX1 75 yX3_sumOf]
def wsL_law_r18 : List Cond := [Cond.methodLink RL 81 yX5_best, Cond.instanceMethod yX5_best, Cond.selects RX5 yX5_best yX5_best, Cond.code yX5_best cX5_best 12 (some .int), Cond.fieldLink RX5 103 "HugTreesModel" "bests" "I", Cond.methodLink RL 82 yX4_grow, Cond.instanceMethod yX4_grow, Cond.selects RX4 yX4_grow yX4_grow, Cond.code yX4_grow cX4_grow 2 (some .int), Cond.methodLink RX4 135 yX3_greatestOf, Cond.instanceMethod yX3_greatestOf, Cond.selects RX3 yX3_greatestOf yX3_greatestOf, Cond.code yX3_greatestOf cX3_greatestOf 5 (some .int), Cond.methodLink RL 85 yX5_grow, Cond.instanceMethod yX5_grow, Cond.selects RX5 yX5_grow yX5_grow, Cond.code yX5_grow cX5_grow 5 (some .int), Cond.methodLink RL 86 yX4_weight, Cond.instanceMethod yX4_weight, Cond.selects RX4 yX4_weight yX4_weight, Cond.code yX4_weight cX4_weight 2 (some .int), Cond.methodLink RX4 138 yX2_isPart, Cond.instanceMethod yX2_isPart, Cond.selects RX2 yX2_isPart yX2_isPart]
def wsL_law_r19 : List Cond := [Cond.code yX2_isPart cX2_isPart 2 (some .boolean), Cond.methodLink RX2 21 yX2_allPoints, Cond.instanceMethod yX2_allPoints, Cond.selects RX2 yX2_allPoints yX2_allPoints, Cond.code yX2_allPoints cX2_allPoints 1 (some .int), Cond.methodLink RX2 25 yX2_isIn, Cond.static yX2_isIn, Cond.code yX2_isIn cX2_isIn 2 (some .boolean), Cond.methodLink RX4 141 yX2_weigh, Cond.instanceMethod yX2_weigh, Cond.selects RX2 yX2_weigh yX2_weigh, Cond.code yX2_weigh cX2_weigh 5 (some .int), Cond.methodLink RX2 33 Lib.Math.min.name, Cond.methodLink RX2 29 yX2_leastAcross, Cond.instanceMethod yX2_leastAcross, Cond.selects RX2 yX2_leastAcross yX2_leastAcross, Cond.code yX2_leastAcross cX2_leastAcross 7 (some .int), Cond.methodLink RX2 39 yX2_across, Cond.instanceMethod yX2_across, Cond.selects RX2 yX2_across yX2_across, Cond.code yX2_across cX2_across 9 (some .int), Cond.methodLink RX2 47 Lib.Math.max.name, Cond.methodLink RL 89 yX5_weight, Cond.instanceMethod yX5_weight]
def wsL_law_r20 : List Cond := [Cond.selects RX5 yX5_weight yX5_weight, Cond.code yX5_weight cX5_weight 2 (some .int), Cond.methodLink RX5 106 yX5_isPart, Cond.instanceMethod yX5_isPart, Cond.selects RX5 yX5_isPart yX5_isPart, Cond.code yX5_isPart cX5_isPart 2 (some .boolean), Cond.methodLink RX5 109 yX5_weightOf, Cond.instanceMethod yX5_weightOf, Cond.selects RX5 yX5_weightOf yX5_weightOf, Cond.code yX5_weightOf cX5_weightOf 10 (some .int), Cond.methodLink RL 90 yX4_parts, Cond.instanceMethod yX4_parts, Cond.selects RX4 yX4_parts yX4_parts, Cond.code yX4_parts cX4_parts 1 (some .int), Cond.methodLink RX4 144 yX2_howManyWeigh, Cond.instanceMethod yX2_howManyWeigh, Cond.selects RX2 yX2_howManyWeigh yX2_howManyWeigh, Cond.code yX2_howManyWeigh cX2_howManyWeigh 3 (some .int), Cond.methodLink RX2 50 yX2_weigh, Cond.methodLink RL 93 yX5_parts, Cond.instanceMethod yX5_parts, Cond.selects RX5 yX5_parts yX5_parts, Cond.code yX5_parts cX5_parts 3 (some .int), Cond.methodLink RL 94 yX4_rest]
def wsL_law_r21 : List Cond := [Cond.instanceMethod yX4_rest, Cond.selects RX4 yX4_rest yX4_rest, Cond.code yX4_rest cX4_rest 3 (some .int), Cond.methodLink RX4 147 yX2_leftOf, Cond.instanceMethod yX2_leftOf, Cond.selects RX2 yX2_leftOf yX2_leftOf, Cond.code yX2_leftOf cX2_leftOf 5 (some .int), Cond.methodLink RL 97 yX5_rest, Cond.instanceMethod yX5_rest, Cond.selects RX5 yX5_rest yX5_rest, Cond.code yX5_rest cX5_rest 5 (some .int), Cond.methodLink RL 98 yX4_drawn, Cond.instanceMethod yX4_drawn, Cond.selects RX4 yX4_drawn yX4_drawn, Cond.code yX4_drawn cX4_drawn 4 (some .int), Cond.methodLink RX4 150 yX0_ordersThatPart, Cond.instanceMethod yX0_ordersThatPart, Cond.selects RX0 yX0_ordersThatPart yX0_ordersThatPart, Cond.code yX0_ordersThatPart cX0_ordersThatPart 6 (some .int), Cond.methodLink RX0 25 yX0_reached, Cond.instanceMethod yX0_reached, Cond.selects RX0 yX0_reached yX0_reached, Cond.code yX0_reached cX0_reached 5 (some .int), Cond.methodLink RX0 29 yJ6_bitCount_0f7a4]
def wsL_law_r22 : List Cond := [Cond.static yJ6_bitCount_0f7a4, Cond.initialized RJ6, Cond.code yJ6_bitCount_0f7a4 cJ6_bitCount_0f7a4 1 (some .int), Cond.constant RJ6 265 (1431655765), Cond.constant RJ6 266 (858993459), Cond.constant RJ6 267 (252645135), Cond.methodLink RX0 35 yX0_howMany, Cond.instanceMethod yX0_howMany, Cond.selects RX0 yX0_howMany yX0_howMany, Cond.code yX0_howMany cX0_howMany 1 (some .int), Cond.methodLink RL 101 yX5_drawn, Cond.instanceMethod yX5_drawn, Cond.selects RX5 yX5_drawn yX5_drawn, Cond.code yX5_drawn cX5_drawn 6 (some .int), Cond.methodLink RX5 112 yX5_orders, Cond.instanceMethod yX5_orders, Cond.selects RX5 yX5_orders yX5_orders, Cond.code yX5_orders cX5_orders 3 (some .int), Cond.methodLink RX5 115 yX5_draw, Cond.instanceMethod yX5_draw, Cond.selects RX5 yX5_draw yX5_draw, Cond.code yX5_draw cX5_draw 8 none, Cond.methodLink RX5 118 yX5_goalOf, Cond.instanceMethod yX5_goalOf]
def wsL_law_r23 : List Cond := [Cond.selects RX5 yX5_goalOf yX5_goalOf, Cond.code yX5_goalOf cX5_goalOf 4 (some .int), Cond.methodLink RL 102 yX4_goes, Cond.instanceMethod yX4_goes, Cond.selects RX4 yX4_goes yX4_goes, Cond.code yX4_goes cX4_goes 4 (some .int), Cond.methodLink RX4 157 yX0_howMany, Cond.methodLink RX4 158 yX0_firstWithin, Cond.instanceMethod yX0_firstWithin, Cond.selects RX0 yX0_firstWithin yX0_firstWithin, Cond.code yX0_firstWithin cX0_firstWithin 9 (some .int), Cond.methodLink RX0 43 yX0_nextDealt, Cond.instanceMethod yX0_nextDealt, Cond.selects RX0 yX0_nextDealt yX0_nextDealt, Cond.code yX0_nextDealt cX0_nextDealt 6 (some .int), Cond.methodLink RL 105 yX5_goes, Cond.instanceMethod yX5_goes, Cond.selects RX5 yX5_goes yX5_goes, Cond.code yX5_goes cX5_goes 4 (some .int), Cond.methodLink RL 106 yX4_count, Cond.instanceMethod yX4_count, Cond.selects RX4 yX4_count yX4_count, Cond.code yX4_count cX4_count 2 (some .int), Cond.methodLink RL 109 yX5_count]
def wsL_law_r24 : List Cond := [Cond.instanceMethod yX5_count, Cond.selects RX5 yX5_count yX5_count, Cond.code yX5_count cX5_count 6 (some .int), Cond.methodLink RL 110 yX4_digest, Cond.instanceMethod yX4_digest, Cond.selects RX4 yX4_digest yX4_digest, Cond.code yX4_digest cX4_digest 6 (some .long), Cond.constantLong RX4 164 (197), Cond.methodLink RX4 166 yX4_taken, Cond.static yX4_taken, Cond.code yX4_taken cX4_taken 4 (some .long), Cond.constantLong RX4 170 (31), Cond.methodLink RL 114 yX5_digest, Cond.instanceMethod yX5_digest, Cond.selects RX5 yX5_digest yX5_digest, Cond.code yX5_digest cX5_digest 3 (some .long), Cond.constantLong RX5 126 (197), Cond.fieldLink RX5 123 "HugTreesModel" "h" "J", Cond.methodLink RX5 128 yX5_mix, Cond.instanceMethod yX5_mix, Cond.selects RX5 yX5_mix yX5_mix, Cond.code yX5_mix cX5_mix 3 none, Cond.constantLong RX5 121 (31)]
def wsL_law : List Cond := (wsL_law_r1 ++ (wsL_law_r2 ++ (wsL_law_r3 ++ (wsL_law_r4 ++ (wsL_law_r5 ++ (wsL_law_r6 ++ (wsL_law_r7 ++ (wsL_law_r8 ++ (wsL_law_r9 ++ (wsL_law_r10 ++ (wsL_law_r11 ++ (wsL_law_r12 ++ (wsL_law_r13 ++ (wsL_law_r14 ++ (wsL_law_r15 ++ (wsL_law_r16 ++ (wsL_law_r17 ++ (wsL_law_r18 ++ (wsL_law_r19 ++ (wsL_law_r20 ++ (wsL_law_r21 ++ (wsL_law_r22 ++ (wsL_law_r23 ++ wsL_law_r24))))))))))))))))))))))) ++ wsX40 ++ wsX50 ++ wsX30 ++ wsX10 ++ wsX20 ++ wsX00 ++ ([] : List Cond)
theorem inlX0 : ∀ w ∈ wsX00, w ∈ wsL_law := fun _ h => List.mem_append_left _ (List.mem_append_right _ h)
theorem inlX1 : ∀ w ∈ wsX10, w ∈ wsL_law := fun _ h => List.mem_append_left _ (List.mem_append_left _ (List.mem_append_left _ (List.mem_append_right _ h)))
theorem inlX2 : ∀ w ∈ wsX20, w ∈ wsL_law := fun _ h => List.mem_append_left _ (List.mem_append_left _ (List.mem_append_right _ h))
theorem inlX3 : ∀ w ∈ wsX30, w ∈ wsL_law := fun _ h => List.mem_append_left _ (List.mem_append_left _ (List.mem_append_left _ (List.mem_append_left _ (List.mem_append_right _ h))))
theorem inlX4 : ∀ w ∈ wsX40, w ∈ wsL_law := fun _ h => List.mem_append_left _ (List.mem_append_left _ (List.mem_append_left _ (List.mem_append_left _ (List.mem_append_left _ (List.mem_append_left _ (List.mem_append_right _ h))))))
theorem inlX5 : ∀ w ∈ wsX50, w ∈ wsL_law := fun _ h => List.mem_append_left _ (List.mem_append_left _ (List.mem_append_left _ (List.mem_append_left _ (List.mem_append_left _ (List.mem_append_right _ h)))))
abbrev vwCl : List vw_C := [(RX0, TX0, 1), (RX1, TX1, 7), (RX2, TX2, 1), (RX3, TX3, 3), (RX4, TX4, 5), (RX5, TX5, 11)]
/-! THE CLAIM OUT OF ONE WALK OF THE LAW'S BODY. Your part is whole_start (and what it stands on); all else here is the same for every law, but numbers. -/
def R_law : String := "HugTreesLaw"
def lw_P (b : Addr) (xs : List Int32) (args : Array Value) (s : State) : Prop := args = #[.ref b] ∧ s.IntsAt b xs ∧ xs.length ≤ 2048 ∧ (Jvm.Cond.and given_1 narrow_1).before args s = true
def lw_Q (_ : Array Value) (s : State) (o : Outcome) (t : State) : Prop := o = .returned (some (.int 1)) ∧ Framed s o t [] 600000 7302250
def lw_Z (below : List Frame) (a : Array Value) (s : State) : State → Prop := fun t => ∃ o, t.status = .running ∧ Ended t below o ∧ lw_Q a s o t
/-- the law's own end, with 1 on the stack, nothing written that was there before, its room as the claim has it -/
theorem lw_ret {p : Program} {l : Launch} {e : Env} {s : State} {m : MethodId} {below : List Frame} {meth : Method} {c : Code} {b : Nat} (hx : p.tables.exec = Jvm.exec) (hb : c.code = code) (hr : meth.sig.returnType = ret) (hlocks : meth.locks = false) {pc : Nat} {H : Heap} {ls : Array Slot} (hdg : decode code pc = .ok (.ireturn, 1)) : W p l e room_1 s m #[Value.ref b] below meth c H [] 600000 7302250 (lw_Z below #[Value.ref b] s) (F0 m pc ls [.int 1]) := by
  intro T hT X
  obtain ⟨fs, hret, hrun, hended, hW, hframe⟩ := X.leave (v := some (.int 1)) (hlocks := hlocks) (fun h => by rw [hr] at h; cases h)
  have hmeth' : T.vm.method? m = some meth := X.method'
  refine ⟨T.setFrames fs, ?_, .returned (some (.int 1)), hrun, hended, rfl, ⟨_, rfl⟩, hW, hframe⟩
  jvm_step X.here [X.here.top, hx, hb, hdg, hmeth', hr, ret, narrow_b1]
  (try refine ⟨rfl, ?_⟩); (try refine ⟨rfl, ?_⟩)
  first | (intro acts; rw [hret _ acts rfl rfl rfl]) | rw [hret _ _ rfl rfl rfl]
  exact Steps.refl _
/-- what holds at the law's entry: the machine, the code, the tables' words (any of lw_tbl by 'hts w (by decide +kernel)'), the script of L ints xs at the cell b, what the Statement gives of the start (any of its parts by flat_of_before) -/
def lw_At (p : Program) (s : State) (m : MethodId) (meth : Method) (c : Code) (b L : Nat) (xs : Nat → Int32) : Prop :=
  p.tables.exec = Jvm.exec ∧ c.code = code ∧ meth.sig.returnType = ret ∧ c.maxLocals = 4 ∧ s.vm.findClass R_law = some m.cls ∧ (∀ w ∈ lw_tbl, w.before #[Value.ref b] s = true) ∧ va_X b L xs s s.heap ∧ b < s.heap.size ∧ meth.locks = false ∧ (Jvm.Cond.and given_1 narrow_1).before #[Value.ref b] s = true
