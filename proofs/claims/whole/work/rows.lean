section
-- ===== PART A: goes FIRST, ahead of the names: the tables' words, and 'selects' of the private methods out of them =====
/-- a private method of a class that the tables say can be made, by its rows of tables_1 -/
def lw_okq (q : MethodName × Nat) : Prop := (q.1.cls ≠ "java/lang/invoke/MethodHandle" ∧ q.1.cls ≠ "java/lang/invoke/VarHandle") ∧ Cond.instantiable q.1.cls q.2 ∈ tables_1 ∧ Cond.privateMethod q.1 ∈ tables_1 ∧ Cond.instanceMethod q.1 ∈ tables_1
theorem lw_p0 : lw_okq (⟨"HugTrees", "areKnown", "(II)Z"⟩, 5) := ⟨⟨by decide +kernel, by decide +kernel⟩, List.mem_of_getElem? (i := 12) (by decide +kernel), List.mem_of_getElem? (i := 130) (by decide +kernel), List.mem_of_getElem? (i := 131) (by decide +kernel)⟩
theorem lw_p1 : lw_okq (⟨"HugTrees", "isKnown", "(I)Z"⟩, 5) := ⟨⟨by decide +kernel, by decide +kernel⟩, List.mem_of_getElem? (i := 12) (by decide +kernel), List.mem_of_getElem? (i := 134) (by decide +kernel), List.mem_of_getElem? (i := 135) (by decide +kernel)⟩
theorem lw_p2 : lw_okq (⟨"HugTrees$Table", "shorterBy", "(III)I"⟩, 3) := ⟨⟨by decide +kernel, by decide +kernel⟩, List.mem_of_getElem? (i := 20) (by decide +kernel), List.mem_of_getElem? (i := 154) (by decide +kernel), List.mem_of_getElem? (i := 155) (by decide +kernel)⟩
theorem lw_p3 : lw_okq (⟨"HugTrees", "isNear", "()Z"⟩, 5) := ⟨⟨by decide +kernel, by decide +kernel⟩, List.mem_of_getElem? (i := 12) (by decide +kernel), List.mem_of_getElem? (i := 167) (by decide +kernel), List.mem_of_getElem? (i := 168) (by decide +kernel)⟩
theorem lw_p4 : lw_okq (⟨"HugTrees$Table", "brokenFoursFrom", "(III)I"⟩, 3) := ⟨⟨by decide +kernel, by decide +kernel⟩, List.mem_of_getElem? (i := 20) (by decide +kernel), List.mem_of_getElem? (i := 175) (by decide +kernel), List.mem_of_getElem? (i := 176) (by decide +kernel)⟩
theorem lw_p5 : lw_okq (⟨"HugTrees$Table", "shortenBy", "(II)V"⟩, 3) := ⟨⟨by decide +kernel, by decide +kernel⟩, List.mem_of_getElem? (i := 20) (by decide +kernel), List.mem_of_getElem? (i := 197) (by decide +kernel), List.mem_of_getElem? (i := 198) (by decide +kernel)⟩
theorem lw_p6 : lw_okq (⟨"HugTrees", "isCode", "(I)Z"⟩, 5) := ⟨⟨by decide +kernel, by decide +kernel⟩, List.mem_of_getElem? (i := 12) (by decide +kernel), List.mem_of_getElem? (i := 250) (by decide +kernel), List.mem_of_getElem? (i := 251) (by decide +kernel)⟩
theorem lw_p7 : lw_okq (⟨"HugTrees$SpanningTree", "readFigures", "(I)V"⟩, 7) := ⟨⟨by decide +kernel, by decide +kernel⟩, List.mem_of_getElem? (i := 47) (by decide +kernel), List.mem_of_getElem? (i := 258) (by decide +kernel), List.mem_of_getElem? (i := 259) (by decide +kernel)⟩
theorem lw_p8 : lw_okq (⟨"HugTrees$SpanningTree", "takeLeast", "()I"⟩, 7) := ⟨⟨by decide +kernel, by decide +kernel⟩, List.mem_of_getElem? (i := 47) (by decide +kernel), List.mem_of_getElem? (i := 263) (by decide +kernel), List.mem_of_getElem? (i := 264) (by decide +kernel)⟩
theorem lw_p9 : lw_okq (⟨"HugTrees$SpanningTree", "layWay", "(II)V"⟩, 7) := ⟨⟨by decide +kernel, by decide +kernel⟩, List.mem_of_getElem? (i := 47) (by decide +kernel), List.mem_of_getElem? (i := 280) (by decide +kernel), List.mem_of_getElem? (i := 281) (by decide +kernel)⟩
theorem lw_p10 : lw_okq (⟨"HugTrees$Splits", "allPoints", "()I"⟩, 1) := ⟨⟨by decide +kernel, by decide +kernel⟩, List.mem_of_getElem? (i := 79) (by decide +kernel), List.mem_of_getElem? (i := 336) (by decide +kernel), List.mem_of_getElem? (i := 337) (by decide +kernel)⟩
theorem lw_p11 : lw_okq (⟨"HugTrees$Splits", "leastAcross", "(III)I"⟩, 1) := ⟨⟨by decide +kernel, by decide +kernel⟩, List.mem_of_getElem? (i := 79) (by decide +kernel), List.mem_of_getElem? (i := 347) (by decide +kernel), List.mem_of_getElem? (i := 348) (by decide +kernel)⟩
theorem lw_p12 : lw_okq (⟨"HugTrees$Splits", "across", "(IIII)I"⟩, 1) := ⟨⟨by decide +kernel, by decide +kernel⟩, List.mem_of_getElem? (i := 79) (by decide +kernel), List.mem_of_getElem? (i := 351) (by decide +kernel), List.mem_of_getElem? (i := 352) (by decide +kernel)⟩
theorem lw_p13 : lw_okq (⟨"HugTrees$Lots", "reached", "(II)I"⟩, 1) := ⟨⟨by decide +kernel, by decide +kernel⟩, List.mem_of_getElem? (i := 89) (by decide +kernel), List.mem_of_getElem? (i := 383) (by decide +kernel), List.mem_of_getElem? (i := 384) (by decide +kernel)⟩
theorem lw_p14 : lw_okq (⟨"HugTrees$Lots", "undealtAt", "(II)I"⟩, 1) := ⟨⟨by decide +kernel, by decide +kernel⟩, List.mem_of_getElem? (i := 89) (by decide +kernel), List.mem_of_getElem? (i := 408) (by decide +kernel), List.mem_of_getElem? (i := 409) (by decide +kernel)⟩
theorem lw_p15 : lw_okq (⟨"HugTreesModel", "begin", "()V"⟩, 11) := ⟨⟨by decide +kernel, by decide +kernel⟩, List.mem_of_getElem? (i := 425) (by decide +kernel), List.mem_of_getElem? (i := 431) (by decide +kernel), List.mem_of_getElem? (i := 432) (by decide +kernel)⟩
def lw_privs_1 : List (MethodName × Nat) := [(⟨"HugTrees", "areKnown", "(II)Z"⟩, 5), (⟨"HugTrees", "isKnown", "(I)Z"⟩, 5), (⟨"HugTrees$Table", "shorterBy", "(III)I"⟩, 3), (⟨"HugTrees", "isNear", "()Z"⟩, 5), (⟨"HugTrees$Table", "brokenFoursFrom", "(III)I"⟩, 3), (⟨"HugTrees$Table", "shortenBy", "(II)V"⟩, 3), (⟨"HugTrees", "isCode", "(I)Z"⟩, 5), (⟨"HugTrees$SpanningTree", "readFigures", "(I)V"⟩, 7), (⟨"HugTrees$SpanningTree", "takeLeast", "()I"⟩, 7), (⟨"HugTrees$SpanningTree", "layWay", "(II)V"⟩, 7), (⟨"HugTrees$Splits", "allPoints", "()I"⟩, 1), (⟨"HugTrees$Splits", "leastAcross", "(III)I"⟩, 1), (⟨"HugTrees$Splits", "across", "(IIII)I"⟩, 1), (⟨"HugTrees$Lots", "reached", "(II)I"⟩, 1), (⟨"HugTrees$Lots", "undealtAt", "(II)I"⟩, 1), (⟨"HugTreesModel", "begin", "()V"⟩, 11)]
theorem lw_r1 : ∀ q ∈ lw_privs_1, lw_okq q := List.forall_mem_cons.mpr ⟨lw_p0, List.forall_mem_cons.mpr ⟨lw_p1, List.forall_mem_cons.mpr ⟨lw_p2, List.forall_mem_cons.mpr ⟨lw_p3, List.forall_mem_cons.mpr ⟨lw_p4, List.forall_mem_cons.mpr ⟨lw_p5, List.forall_mem_cons.mpr ⟨lw_p6, List.forall_mem_cons.mpr ⟨lw_p7, List.forall_mem_cons.mpr ⟨lw_p8, List.forall_mem_cons.mpr ⟨lw_p9, List.forall_mem_cons.mpr ⟨lw_p10, List.forall_mem_cons.mpr ⟨lw_p11, List.forall_mem_cons.mpr ⟨lw_p12, List.forall_mem_cons.mpr ⟨lw_p13, List.forall_mem_cons.mpr ⟨lw_p14, List.forall_mem_cons.mpr ⟨lw_p15, fun _ h => absurd h List.not_mem_nil⟩⟩⟩⟩⟩⟩⟩⟩⟩⟩⟩⟩⟩⟩⟩⟩
theorem lw_p16 : lw_okq (⟨"HugTreesModel", "isPoint", "(I)Z"⟩, 11) := ⟨⟨by decide +kernel, by decide +kernel⟩, List.mem_of_getElem? (i := 425) (by decide +kernel), List.mem_of_getElem? (i := 481) (by decide +kernel), List.mem_of_getElem? (i := 482) (by decide +kernel)⟩
theorem lw_p17 : lw_okq (⟨"HugTreesModel", "d", "(II)I"⟩, 11) := ⟨⟨by decide +kernel, by decide +kernel⟩, List.mem_of_getElem? (i := 425) (by decide +kernel), List.mem_of_getElem? (i := 489) (by decide +kernel), List.mem_of_getElem? (i := 490) (by decide +kernel)⟩
theorem lw_p18 : lw_okq (⟨"HugTreesModel", "brokenOf", "(I)I"⟩, 11) := ⟨⟨by decide +kernel, by decide +kernel⟩, List.mem_of_getElem? (i := 425) (by decide +kernel), List.mem_of_getElem? (i := 497) (by decide +kernel), List.mem_of_getElem? (i := 498) (by decide +kernel)⟩
theorem lw_p19 : lw_okq (⟨"HugTreesModel", "areFour", "(IIII)Z"⟩, 11) := ⟨⟨by decide +kernel, by decide +kernel⟩, List.mem_of_getElem? (i := 425) (by decide +kernel), List.mem_of_getElem? (i := 504) (by decide +kernel), List.mem_of_getElem? (i := 505) (by decide +kernel)⟩
theorem lw_p20 : lw_okq (⟨"HugTreesModel", "make", "(Z)V"⟩, 11) := ⟨⟨by decide +kernel, by decide +kernel⟩, List.mem_of_getElem? (i := 425) (by decide +kernel), List.mem_of_getElem? (i := 516) (by decide +kernel), List.mem_of_getElem? (i := 517) (by decide +kernel)⟩
theorem lw_p21 : lw_okq (⟨"HugTreesModel", "become", "()I"⟩, 11) := ⟨⟨by decide +kernel, by decide +kernel⟩, List.mem_of_getElem? (i := 425) (by decide +kernel), List.mem_of_getElem? (i := 520) (by decide +kernel), List.mem_of_getElem? (i := 521) (by decide +kernel)⟩
theorem lw_p22 : lw_okq (⟨"HugTreesModel", "codeMany", "()I"⟩, 11) := ⟨⟨by decide +kernel, by decide +kernel⟩, List.mem_of_getElem? (i := 425) (by decide +kernel), List.mem_of_getElem? (i := 544) (by decide +kernel), List.mem_of_getElem? (i := 545) (by decide +kernel)⟩
theorem lw_p23 : lw_okq (⟨"HugTreesModel", "isCode", "(I)Z"⟩, 11) := ⟨⟨by decide +kernel, by decide +kernel⟩, List.mem_of_getElem? (i := 425) (by decide +kernel), List.mem_of_getElem? (i := 552) (by decide +kernel), List.mem_of_getElem? (i := 553) (by decide +kernel)⟩
theorem lw_p24 : lw_okq (⟨"HugTreesModel", "lay", "(I)V"⟩, 11) := ⟨⟨by decide +kernel, by decide +kernel⟩, List.mem_of_getElem? (i := 425) (by decide +kernel), List.mem_of_getElem? (i := 556) (by decide +kernel), List.mem_of_getElem? (i := 557) (by decide +kernel)⟩
theorem lw_p25 : lw_okq (⟨"HugTreesModel", "leaf", "()I"⟩, 11) := ⟨⟨by decide +kernel, by decide +kernel⟩, List.mem_of_getElem? (i := 425) (by decide +kernel), List.mem_of_getElem? (i := 560) (by decide +kernel), List.mem_of_getElem? (i := 561) (by decide +kernel)⟩
theorem lw_p26 : lw_okq (⟨"HugTreesModel", "join", "(II)V"⟩, 11) := ⟨⟨by decide +kernel, by decide +kernel⟩, List.mem_of_getElem? (i := 425) (by decide +kernel), List.mem_of_getElem? (i := 564) (by decide +kernel), List.mem_of_getElem? (i := 565) (by decide +kernel)⟩
theorem lw_p27 : lw_okq (⟨"HugTreesModel", "go", "(I)V"⟩, 11) := ⟨⟨by decide +kernel, by decide +kernel⟩, List.mem_of_getElem? (i := 425) (by decide +kernel), List.mem_of_getElem? (i := 572) (by decide +kernel), List.mem_of_getElem? (i := 573) (by decide +kernel)⟩
theorem lw_p28 : lw_okq (⟨"HugTreesModel", "stretchNow", "()V"⟩, 11) := ⟨⟨by decide +kernel, by decide +kernel⟩, List.mem_of_getElem? (i := 425) (by decide +kernel), List.mem_of_getElem? (i := 582) (by decide +kernel), List.mem_of_getElem? (i := 583) (by decide +kernel)⟩
theorem lw_p29 : lw_okq (⟨"HugTreesModel", "spreadNow", "()I"⟩, 11) := ⟨⟨by decide +kernel, by decide +kernel⟩, List.mem_of_getElem? (i := 425) (by decide +kernel), List.mem_of_getElem? (i := 590) (by decide +kernel), List.mem_of_getElem? (i := 591) (by decide +kernel)⟩
theorem lw_p30 : lw_okq (⟨"HugTreesModel", "isPart", "(I)Z"⟩, 11) := ⟨⟨by decide +kernel, by decide +kernel⟩, List.mem_of_getElem? (i := 425) (by decide +kernel), List.mem_of_getElem? (i := 606) (by decide +kernel), List.mem_of_getElem? (i := 607) (by decide +kernel)⟩
theorem lw_p31 : lw_okq (⟨"HugTreesModel", "weightOf", "(I)I"⟩, 11) := ⟨⟨by decide +kernel, by decide +kernel⟩, List.mem_of_getElem? (i := 425) (by decide +kernel), List.mem_of_getElem? (i := 610) (by decide +kernel), List.mem_of_getElem? (i := 611) (by decide +kernel)⟩
def lw_privs_2 : List (MethodName × Nat) := [(⟨"HugTreesModel", "isPoint", "(I)Z"⟩, 11), (⟨"HugTreesModel", "d", "(II)I"⟩, 11), (⟨"HugTreesModel", "brokenOf", "(I)I"⟩, 11), (⟨"HugTreesModel", "areFour", "(IIII)Z"⟩, 11), (⟨"HugTreesModel", "make", "(Z)V"⟩, 11), (⟨"HugTreesModel", "become", "()I"⟩, 11), (⟨"HugTreesModel", "codeMany", "()I"⟩, 11), (⟨"HugTreesModel", "isCode", "(I)Z"⟩, 11), (⟨"HugTreesModel", "lay", "(I)V"⟩, 11), (⟨"HugTreesModel", "leaf", "()I"⟩, 11), (⟨"HugTreesModel", "join", "(II)V"⟩, 11), (⟨"HugTreesModel", "go", "(I)V"⟩, 11), (⟨"HugTreesModel", "stretchNow", "()V"⟩, 11), (⟨"HugTreesModel", "spreadNow", "()I"⟩, 11), (⟨"HugTreesModel", "isPart", "(I)Z"⟩, 11), (⟨"HugTreesModel", "weightOf", "(I)I"⟩, 11)]
theorem lw_r2 : ∀ q ∈ lw_privs_2, lw_okq q := List.forall_mem_cons.mpr ⟨lw_p16, List.forall_mem_cons.mpr ⟨lw_p17, List.forall_mem_cons.mpr ⟨lw_p18, List.forall_mem_cons.mpr ⟨lw_p19, List.forall_mem_cons.mpr ⟨lw_p20, List.forall_mem_cons.mpr ⟨lw_p21, List.forall_mem_cons.mpr ⟨lw_p22, List.forall_mem_cons.mpr ⟨lw_p23, List.forall_mem_cons.mpr ⟨lw_p24, List.forall_mem_cons.mpr ⟨lw_p25, List.forall_mem_cons.mpr ⟨lw_p26, List.forall_mem_cons.mpr ⟨lw_p27, List.forall_mem_cons.mpr ⟨lw_p28, List.forall_mem_cons.mpr ⟨lw_p29, List.forall_mem_cons.mpr ⟨lw_p30, List.forall_mem_cons.mpr ⟨lw_p31, fun _ h => absurd h List.not_mem_nil⟩⟩⟩⟩⟩⟩⟩⟩⟩⟩⟩⟩⟩⟩⟩⟩
theorem lw_p32 : lw_okq (⟨"HugTreesModel", "orders", "()I"⟩, 11) := ⟨⟨by decide +kernel, by decide +kernel⟩, List.mem_of_getElem? (i := 425) (by decide +kernel), List.mem_of_getElem? (i := 626) (by decide +kernel), List.mem_of_getElem? (i := 627) (by decide +kernel)⟩
theorem lw_p33 : lw_okq (⟨"HugTreesModel", "draw", "(I)V"⟩, 11) := ⟨⟨by decide +kernel, by decide +kernel⟩, List.mem_of_getElem? (i := 425) (by decide +kernel), List.mem_of_getElem? (i := 630) (by decide +kernel), List.mem_of_getElem? (i := 631) (by decide +kernel)⟩
theorem lw_p34 : lw_okq (⟨"HugTreesModel", "goalOf", "(II)I"⟩, 11) := ⟨⟨by decide +kernel, by decide +kernel⟩, List.mem_of_getElem? (i := 425) (by decide +kernel), List.mem_of_getElem? (i := 634) (by decide +kernel), List.mem_of_getElem? (i := 635) (by decide +kernel)⟩
theorem lw_p35 : lw_okq (⟨"HugTreesModel", "mix", "(J)V"⟩, 11) := ⟨⟨by decide +kernel, by decide +kernel⟩, List.mem_of_getElem? (i := 425) (by decide +kernel), List.mem_of_getElem? (i := 651) (by decide +kernel), List.mem_of_getElem? (i := 652) (by decide +kernel)⟩
def lw_privs_3 : List (MethodName × Nat) := [(⟨"HugTreesModel", "orders", "()I"⟩, 11), (⟨"HugTreesModel", "draw", "(I)V"⟩, 11), (⟨"HugTreesModel", "goalOf", "(II)I"⟩, 11), (⟨"HugTreesModel", "mix", "(J)V"⟩, 11)]
theorem lw_r3 : ∀ q ∈ lw_privs_3, lw_okq q := List.forall_mem_cons.mpr ⟨lw_p32, List.forall_mem_cons.mpr ⟨lw_p33, List.forall_mem_cons.mpr ⟨lw_p34, List.forall_mem_cons.mpr ⟨lw_p35, fun _ h => absurd h List.not_mem_nil⟩⟩⟩⟩
def lw_privs : List (MethodName × Nat) := lw_privs_1 ++ (lw_privs_2 ++ (lw_privs_3))
def lw_tbl : List Cond := k2_sels lw_privs ++ tables_1
theorem lw_privs_ok : ∀ q ∈ lw_privs, lw_okq q := by
  show ∀ q ∈ lw_privs_1 ++ (lw_privs_2 ++ (lw_privs_3)), lw_okq q
  exact List.forall_mem_append.mpr ⟨lw_r1, List.forall_mem_append.mpr ⟨lw_r2, lw_r3⟩⟩
/-! ===== BEGIN words of one list among another's, by their places ===== -/
theorem goodIn_r {big : List Cond} (ws : List Cond) (ps : List Nat) (hp : ws = ps.filterMap (fun i => big[i]?)) (h : ws.all goodWord = true) : GoodIn big ws := by
  intro w hw
  have h1 := List.all_eq_true.mp h w hw
  rw [hp] at hw
  obtain ⟨i, -, hi⟩ := List.mem_filterMap.mp hw
  have hm : w ∈ big := by first | exact List.mem_of_getElem? hi | exact List.getElem?_mem hi
  exact ⟨hm, good_of_word h1⟩
theorem goodIn_app {big a b : List Cond} (ha : GoodIn big a) (hb : GoodIn big b) : GoodIn big (a ++ b) := fun w h => (List.mem_append.mp h).elim (ha w) (hb w)
theorem goodIn_ca {big a b : List Cond} {c : Cond} (ha : GoodIn big (c :: a)) (hb : GoodIn big b) : GoodIn big (c :: (a ++ b)) := fun w h => (List.mem_cons.mp h).elim (fun e => ha w (List.mem_cons.mpr (Or.inl e))) (fun h => (List.mem_append.mp h).elim (fun h => ha w (List.mem_cons.mpr (Or.inr h))) (hb w))
theorem goodIn_sub {big ws : List Cond} (hm : ∀ w ∈ ws, w ∈ big) (h : ws.all goodWord = true) : GoodIn big ws := fun w hw => ⟨hm w hw, good_of_word (List.all_eq_true.mp h w hw)⟩
/-! ===== END ===== -/



/-! ===== BEGIN printed: names, fields, word lists, decode rows ===== -/
def RX0 : String := "HugTrees$Lots"
def TX0 : u_T := fun k => match k with
  | _ => ("HugTrees$Lots", "table", "LHugTrees$Table;", true)
def tyX0 : Nat → FieldType := fun k => match k with
  | _ => .object "HugTrees$Table"
abbrev wsX00 : List Cond := u_ws RX0 TX0 1
theorem nmX0 : ∀ a, a < 1 → ∀ b, b < 1 → a ≠ b → (TX0 a).2.1 ≠ (TX0 b).2.1 := by decide +kernel
theorem tyX0_ok : ∀ k, k < 1 → parseFieldDescriptor (TX0 k).2.2.1 = some (tyX0 k) := by decide +kernel
abbrev cX0_init : ByteArray := prog_2_method_1_code
def yX0_init : MethodName := ⟨RX0, "<init>", "(LHugTrees$Table;)V"⟩
abbrev cX0_howMany : ByteArray := prog_2_method_2_code
def yX0_howMany : MethodName := ⟨RX0, "howMany", "()I"⟩
abbrev cX0_ordersThatPart : ByteArray := prog_2_method_3_code
def yX0_ordersThatPart : MethodName := ⟨RX0, "ordersThatPart", "(III)I"⟩
abbrev cX0_reached : ByteArray := prog_2_method_4_code
def yX0_reached : MethodName := ⟨RX0, "reached", "(II)I"⟩
abbrev cX0_firstWithin : ByteArray := prog_2_method_5_code
def yX0_firstWithin : MethodName := ⟨RX0, "firstWithin", "(III)I"⟩
abbrev cX0_undealtAt : ByteArray := prog_2_method_6_code
def yX0_undealtAt : MethodName := ⟨RX0, "undealtAt", "(II)I"⟩
def RX1 : String := "HugTrees$SpanningTree"
def TX1 : u_T := fun k => match k with
  | 0 => ("HugTrees$SpanningTree", "table", "LHugTrees$Table;", true)
  | 1 => ("HugTrees$SpanningTree", "gone", "[I", true)
  | 2 => ("HugTrees$SpanningTree", "kept", "[I", true)
  | 3 => ("HugTrees$SpanningTree", "hangs", "[I", true)
  | 4 => ("HugTrees$SpanningTree", "ways", "[[I", true)
  | 5 => ("HugTrees$SpanningTree", "above", "I", false)
  | _ => ("HugTrees$SpanningTree", "below", "I", false)
def tyX1 : Nat → FieldType := fun k => match k with
  | 0 => .object "HugTrees$Table"
  | 1 => .array .int
  | 2 => .array .int
  | 3 => .array .int
  | 4 => .array (.array .int)
  | 5 => .int
  | _ => .int
abbrev wsX10 : List Cond := u_ws RX1 TX1 7
theorem nmX1 : ∀ a, a < 7 → ∀ b, b < 7 → a ≠ b → (TX1 a).2.1 ≠ (TX1 b).2.1 := by decide +kernel
theorem tyX1_ok : ∀ k, k < 7 → parseFieldDescriptor (TX1 k).2.2.1 = some (tyX1 k) := by decide +kernel
abbrev cX1_init : ByteArray := prog_3_method_1_code
def yX1_init : MethodName := ⟨RX1, "<init>", "(LHugTrees$Table;)V"⟩
abbrev cX1_howMany : ByteArray := prog_3_method_2_code
def yX1_howMany : MethodName := ⟨RX1, "howMany", "()I"⟩
abbrev cX1_read : ByteArray := prog_3_method_3_code
def yX1_read : MethodName := ⟨RX1, "read", "(I)V"⟩
abbrev cX1_readFigures : ByteArray := prog_3_method_4_code
def yX1_readFigures : MethodName := ⟨RX1, "readFigures", "(I)V"⟩
abbrev cX1_takeLeast : ByteArray := prog_3_method_5_code
def yX1_takeLeast : MethodName := ⟨RX1, "takeLeast", "()I"⟩
abbrev cX1_joins : ByteArray := prog_3_method_6_code
def yX1_joins : MethodName := ⟨RX1, "joins", "(II)Z"⟩
abbrev cX1_lay : ByteArray := prog_3_method_7_code
def yX1_lay : MethodName := ⟨RX1, "lay", "(I)V"⟩
abbrev cX1_layWay : ByteArray := prog_3_method_8_code
def yX1_layWay : MethodName := ⟨RX1, "layWay", "(II)V"⟩
abbrev cX1_findStretch : ByteArray := prog_3_method_9_code
def yX1_findStretch : MethodName := ⟨RX1, "findStretch", "()V"⟩
abbrev cX1_leastByStretch : ByteArray := prog_3_method_10_code
def yX1_leastByStretch : MethodName := ⟨RX1, "leastByStretch", "()I"⟩
abbrev cX1_leastBySpread : ByteArray := prog_3_method_11_code
def yX1_leastBySpread : MethodName := ⟨RX1, "leastBySpread", "()I"⟩
def RX2 : String := "HugTrees$Splits"
def TX2 : u_T := fun k => match k with
  | _ => ("HugTrees$Splits", "table", "LHugTrees$Table;", true)
def tyX2 : Nat → FieldType := fun k => match k with
  | _ => .object "HugTrees$Table"
abbrev wsX20 : List Cond := u_ws RX2 TX2 1
theorem nmX2 : ∀ a, a < 1 → ∀ b, b < 1 → a ≠ b → (TX2 a).2.1 ≠ (TX2 b).2.1 := by decide +kernel
theorem tyX2_ok : ∀ k, k < 1 → parseFieldDescriptor (TX2 k).2.2.1 = some (tyX2 k) := by decide +kernel
abbrev cX2_init : ByteArray := prog_4_method_1_code
def yX2_init : MethodName := ⟨RX2, "<init>", "(LHugTrees$Table;)V"⟩
abbrev cX2_allPoints : ByteArray := prog_4_method_2_code
def yX2_allPoints : MethodName := ⟨RX2, "allPoints", "()I"⟩
abbrev cX2_isIn : ByteArray := prog_4_method_3_code
def yX2_isIn : MethodName := ⟨RX2, "isIn", "(II)Z"⟩
abbrev cX2_isPart : ByteArray := prog_4_method_4_code
def yX2_isPart : MethodName := ⟨RX2, "isPart", "(I)Z"⟩
abbrev cX2_weigh : ByteArray := prog_4_method_5_code
def yX2_weigh : MethodName := ⟨RX2, "weigh", "(I)I"⟩
abbrev cX2_leastAcross : ByteArray := prog_4_method_6_code
def yX2_leastAcross : MethodName := ⟨RX2, "leastAcross", "(III)I"⟩
abbrev cX2_across : ByteArray := prog_4_method_7_code
def yX2_across : MethodName := ⟨RX2, "across", "(IIII)I"⟩
abbrev cX2_howManyWeigh : ByteArray := prog_4_method_8_code
def yX2_howManyWeigh : MethodName := ⟨RX2, "howManyWeigh", "()I"⟩
abbrev cX2_leftOf : ByteArray := prog_4_method_9_code
def yX2_leftOf : MethodName := ⟨RX2, "leftOf", "(II)I"⟩
def RX3 : String := "HugTrees$Table"
def TX3 : u_T := fun k => match k with
  | 0 => ("HugTrees$Table", "d", "[[I", true)
  | 1 => ("HugTrees$Table", "made", "[[I", true)
  | _ => ("HugTrees$Table", "n", "I", false)
def tyX3 : Nat → FieldType := fun k => match k with
  | 0 => .array (.array .int)
  | 1 => .array (.array .int)
  | _ => .int
abbrev wsX30 : List Cond := u_ws RX3 TX3 3
theorem nmX3 : ∀ a, a < 3 → ∀ b, b < 3 → a ≠ b → (TX3 a).2.1 ≠ (TX3 b).2.1 := by decide +kernel
theorem tyX3_ok : ∀ k, k < 3 → parseFieldDescriptor (TX3 k).2.2.1 = some (tyX3 k) := by decide +kernel
abbrev cX3_init : ByteArray := prog_5_method_1_code
def yX3_init : MethodName := ⟨RX3, "<init>", "()V"⟩
abbrev cX3_begin : ByteArray := prog_5_method_2_code
def yX3_begin : MethodName := ⟨RX3, "begin", "(I)V"⟩
abbrev cX3_put : ByteArray := prog_5_method_3_code
def yX3_put : MethodName := ⟨RX3, "put", "(III)V"⟩
abbrev cX3_together : ByteArray := prog_5_method_4_code
def yX3_together : MethodName := ⟨RX3, "together", "(III)I"⟩
abbrev cX3_brokenThrees : ByteArray := prog_5_method_5_code
def yX3_brokenThrees : MethodName := ⟨RX3, "brokenThrees", "(I)I"⟩
abbrev cX3_shorterBy : ByteArray := prog_5_method_6_code
def yX3_shorterBy : MethodName := ⟨RX3, "shorterBy", "(III)I"⟩
abbrev cX3_brokenFours : ByteArray := prog_5_method_7_code
def yX3_brokenFours : MethodName := ⟨RX3, "brokenFours", "()I"⟩
abbrev cX3_brokenFoursFrom : ByteArray := prog_5_method_8_code
def yX3_brokenFoursFrom : MethodName := ⟨RX3, "brokenFoursFrom", "(III)I"⟩
abbrev cX3_twoGreatestAlike : ByteArray := prog_5_method_9_code
def yX3_twoGreatestAlike : MethodName := ⟨RX3, "twoGreatestAlike", "(III)Z"⟩
abbrev cX3_closed : ByteArray := prog_5_method_10_code
def yX3_closed : MethodName := ⟨RX3, "closed", "(I)[[I"⟩
abbrev cX3_shortenBy : ByteArray := prog_5_method_11_code
def yX3_shortenBy : MethodName := ⟨RX3, "shortenBy", "(II)V"⟩
abbrev cX3_become : ByteArray := prog_5_method_12_code
def yX3_become : MethodName := ⟨RX3, "become", "([[I)I"⟩
abbrev cX3_greatestAbove : ByteArray := prog_5_method_13_code
def yX3_greatestAbove : MethodName := ⟨RX3, "greatestAbove", "([[I)I"⟩
abbrev cX3_groupsWithin : ByteArray := prog_5_method_14_code
def yX3_groupsWithin : MethodName := ⟨RX3, "groupsWithin", "(I)I"⟩
abbrev cX3_sumOf : ByteArray := prog_5_method_15_code
def yX3_sumOf : MethodName := ⟨RX3, "sumOf", "([[I)I"⟩
abbrev cX3_greatestOf : ByteArray := prog_5_method_16_code
def yX3_greatestOf : MethodName := ⟨RX3, "greatestOf", "([[I)I"⟩
def RX4 : String := "HugTrees"
def TX4 : u_T := fun k => match k with
  | 0 => ("HugTrees", "table", "LHugTrees$Table;", true)
  | 1 => ("HugTrees", "tree", "LHugTrees$SpanningTree;", true)
  | 2 => ("HugTrees", "splits", "LHugTrees$Splits;", true)
  | 3 => ("HugTrees", "lots", "LHugTrees$Lots;", true)
  | _ => ("HugTrees", "searches", "I", false)
def tyX4 : Nat → FieldType := fun k => match k with
  | 0 => .object "HugTrees$Table"
  | 1 => .object "HugTrees$SpanningTree"
  | 2 => .object "HugTrees$Splits"
  | 3 => .object "HugTrees$Lots"
  | _ => .int
abbrev wsX40 : List Cond := u_ws RX4 TX4 5
theorem nmX4 : ∀ a, a < 5 → ∀ b, b < 5 → a ≠ b → (TX4 a).2.1 ≠ (TX4 b).2.1 := by decide +kernel
theorem tyX4_ok : ∀ k, k < 5 → parseFieldDescriptor (TX4 k).2.2.1 = some (tyX4 k) := by decide +kernel
abbrev cX4_init : ByteArray := prog_1_method_1_code
def yX4_init : MethodName := ⟨RX4, "<init>", "()V"⟩
abbrev cX4_points : ByteArray := prog_1_method_2_code
def yX4_points : MethodName := ⟨RX4, "points", "(I)I"⟩
abbrev cX4_set : ByteArray := prog_1_method_3_code
def yX4_set : MethodName := ⟨RX4, "set", "(III)I"⟩
abbrev cX4_get : ByteArray := prog_1_method_4_code
def yX4_get : MethodName := ⟨RX4, "get", "(II)I"⟩
abbrev cX4_is : ByteArray := prog_1_method_5_code
def yX4_is : MethodName := ⟨RX4, "is", "(I)I"⟩
abbrev cX4_broken : ByteArray := prog_1_method_6_code
def yX4_broken : MethodName := ⟨RX4, "broken", "(I)I"⟩
abbrev cX4_mend : ByteArray := prog_1_method_7_code
def yX4_mend : MethodName := ⟨RX4, "mend", "()I"⟩
abbrev cX4_low : ByteArray := prog_1_method_8_code
def yX4_low : MethodName := ⟨RX4, "low", "(II)I"⟩
abbrev cX4_gap : ByteArray := prog_1_method_9_code
def yX4_gap : MethodName := ⟨RX4, "gap", "()I"⟩
abbrev cX4_groups : ByteArray := prog_1_method_10_code
def yX4_groups : MethodName := ⟨RX4, "groups", "(I)I"⟩
abbrev cX4_lower : ByteArray := prog_1_method_11_code
def yX4_lower : MethodName := ⟨RX4, "lower", "()I"⟩
abbrev cX4_codes : ByteArray := prog_1_method_12_code
def yX4_codes : MethodName := ⟨RX4, "codes", "()I"⟩
abbrev cX4_joined : ByteArray := prog_1_method_13_code
def yX4_joined : MethodName := ⟨RX4, "joined", "(III)I"⟩
abbrev cX4_way : ByteArray := prog_1_method_14_code
def yX4_way : MethodName := ⟨RX4, "way", "(III)I"⟩
abbrev cX4_stretch : ByteArray := prog_1_method_15_code
def yX4_stretch : MethodName := ⟨RX4, "stretch", "(II)J"⟩
abbrev cX4_spread : ByteArray := prog_1_method_16_code
def yX4_spread : MethodName := ⟨RX4, "spread", "(I)I"⟩
abbrev cX4_best : ByteArray := prog_1_method_17_code
def yX4_best : MethodName := ⟨RX4, "best", "(I)I"⟩
abbrev cX4_grow : ByteArray := prog_1_method_18_code
def yX4_grow : MethodName := ⟨RX4, "grow", "(I)I"⟩
abbrev cX4_weight : ByteArray := prog_1_method_19_code
def yX4_weight : MethodName := ⟨RX4, "weight", "(I)I"⟩
abbrev cX4_parts : ByteArray := prog_1_method_20_code
def yX4_parts : MethodName := ⟨RX4, "parts", "()I"⟩
abbrev cX4_rest : ByteArray := prog_1_method_21_code
def yX4_rest : MethodName := ⟨RX4, "rest", "(II)I"⟩
abbrev cX4_drawn : ByteArray := prog_1_method_22_code
def yX4_drawn : MethodName := ⟨RX4, "drawn", "(III)I"⟩
abbrev cX4_goes : ByteArray := prog_1_method_23_code
def yX4_goes : MethodName := ⟨RX4, "goes", "(III)I"⟩
abbrev cX4_count : ByteArray := prog_1_method_24_code
def yX4_count : MethodName := ⟨RX4, "count", "(I)I"⟩
abbrev cX4_digest : ByteArray := prog_1_method_25_code
def yX4_digest : MethodName := ⟨RX4, "digest", "()J"⟩
abbrev cX4_taken : ByteArray := prog_1_method_26_code
def yX4_taken : MethodName := ⟨RX4, "taken", "(JJ)J"⟩
abbrev cX4_asAnswer : ByteArray := prog_1_method_27_code
def yX4_asAnswer : MethodName := ⟨RX4, "asAnswer", "(Z)I"⟩
abbrev cX4_isKnown : ByteArray := prog_1_method_28_code
def yX4_isKnown : MethodName := ⟨RX4, "isKnown", "(I)Z"⟩
abbrev cX4_areKnown : ByteArray := prog_1_method_29_code
def yX4_areKnown : MethodName := ⟨RX4, "areKnown", "(II)Z"⟩
abbrev cX4_isCode : ByteArray := prog_1_method_30_code
def yX4_isCode : MethodName := ⟨RX4, "isCode", "(I)Z"⟩
abbrev cX4_isReach : ByteArray := prog_1_method_31_code
def yX4_isReach : MethodName := ⟨RX4, "isReach", "(I)Z"⟩
abbrev cX4_isNear : ByteArray := prog_1_method_32_code
def yX4_isNear : MethodName := ⟨RX4, "isNear", "()Z"⟩
abbrev cX4_greatestDivisor : ByteArray := prog_1_method_33_code
def yX4_greatestDivisor : MethodName := ⟨RX4, "greatestDivisor", "(II)I"⟩
def RX5 : String := "HugTreesModel"
def TX5 : u_T := fun k => match k with
  | 0 => ("HugTreesModel", "n", "I", false)
  | 1 => ("HugTreesModel", "table", "[I", true)
  | 2 => ("HugTreesModel", "bests", "I", false)
  | 3 => ("HugTreesModel", "made", "[I", true)
  | 4 => ("HugTreesModel", "isJoined", "[Z", true)
  | 5 => ("HugTreesModel", "joins", "[I", true)
  | 6 => ("HugTreesModel", "ways", "[I", true)
  | 7 => ("HugTreesModel", "above", "J", false)
  | 8 => ("HugTreesModel", "below", "J", false)
  | 9 => ("HugTreesModel", "order", "[I", true)
  | _ => ("HugTreesModel", "h", "J", false)
def tyX5 : Nat → FieldType := fun k => match k with
  | 0 => .int
  | 1 => .array .int
  | 2 => .int
  | 3 => .array .int
  | 4 => .array .boolean
  | 5 => .array .int
  | 6 => .array .int
  | 7 => .long
  | 8 => .long
  | 9 => .array .int
  | _ => .long
abbrev wsX50 : List Cond := u_ws RX5 TX5 11
theorem nmX5 : ∀ a, a < 11 → ∀ b, b < 11 → a ≠ b → (TX5 a).2.1 ≠ (TX5 b).2.1 := by decide +kernel
theorem tyX5_ok : ∀ k, k < 11 → parseFieldDescriptor (TX5 k).2.2.1 = some (tyX5 k) := by decide +kernel
abbrev cX5_init : ByteArray := prog_7_method_1_code
def yX5_init : MethodName := ⟨RX5, "<init>", "()V"⟩
abbrev cX5_in : ByteArray := prog_7_method_3_code
def yX5_in : MethodName := ⟨RX5, "in", "(III)Z"⟩
abbrev cX5_isPoint : ByteArray := prog_7_method_4_code
def yX5_isPoint : MethodName := ⟨RX5, "isPoint", "(I)Z"⟩
abbrev cX5_begin : ByteArray := prog_7_method_5_code
def yX5_begin : MethodName := ⟨RX5, "begin", "()V"⟩
abbrev cX5_greater : ByteArray := prog_7_method_6_code
def yX5_greater : MethodName := ⟨RX5, "greater", "(II)I"⟩
abbrev cX5_points : ByteArray := prog_7_method_7_code
def yX5_points : MethodName := ⟨RX5, "points", "(I)I"⟩
abbrev cX5_set : ByteArray := prog_7_method_8_code
def yX5_set : MethodName := ⟨RX5, "set", "(III)I"⟩
abbrev cX5_d : ByteArray := prog_7_method_9_code
def yX5_d : MethodName := ⟨RX5, "d", "(II)I"⟩
abbrev cX5_get : ByteArray := prog_7_method_10_code
def yX5_get : MethodName := ⟨RX5, "get", "(II)I"⟩
abbrev cX5_areFour : ByteArray := prog_7_method_11_code
def yX5_areFour : MethodName := ⟨RX5, "areFour", "(IIII)Z"⟩
abbrev cX5_brokenOf : ByteArray := prog_7_method_12_code
def yX5_brokenOf : MethodName := ⟨RX5, "brokenOf", "(I)I"⟩
abbrev cX5_is : ByteArray := prog_7_method_13_code
def yX5_is : MethodName := ⟨RX5, "is", "(I)I"⟩
abbrev cX5_broken : ByteArray := prog_7_method_14_code
def yX5_broken : MethodName := ⟨RX5, "broken", "(I)I"⟩
abbrev cX5_become : ByteArray := prog_7_method_15_code
def yX5_become : MethodName := ⟨RX5, "become", "()I"⟩
abbrev cX5_make : ByteArray := prog_7_method_16_code
def yX5_make : MethodName := ⟨RX5, "make", "(Z)V"⟩
abbrev cX5_mend : ByteArray := prog_7_method_17_code
def yX5_mend : MethodName := ⟨RX5, "mend", "()I"⟩
abbrev cX5_low : ByteArray := prog_7_method_18_code
def yX5_low : MethodName := ⟨RX5, "low", "(II)I"⟩
abbrev cX5_gap : ByteArray := prog_7_method_19_code
def yX5_gap : MethodName := ⟨RX5, "gap", "()I"⟩
abbrev cX5_groups : ByteArray := prog_7_method_20_code
def yX5_groups : MethodName := ⟨RX5, "groups", "(I)I"⟩
abbrev cX5_lower : ByteArray := prog_7_method_21_code
def yX5_lower : MethodName := ⟨RX5, "lower", "()I"⟩
abbrev cX5_codeMany : ByteArray := prog_7_method_22_code
def yX5_codeMany : MethodName := ⟨RX5, "codeMany", "()I"⟩
abbrev cX5_codes : ByteArray := prog_7_method_23_code
def yX5_codes : MethodName := ⟨RX5, "codes", "()I"⟩
abbrev cX5_isCode : ByteArray := prog_7_method_24_code
def yX5_isCode : MethodName := ⟨RX5, "isCode", "(I)Z"⟩
abbrev cX5_join : ByteArray := prog_7_method_25_code
def yX5_join : MethodName := ⟨RX5, "join", "(II)V"⟩
abbrev cX5_leaf : ByteArray := prog_7_method_26_code
def yX5_leaf : MethodName := ⟨RX5, "leaf", "()I"⟩
abbrev cX5_lay : ByteArray := prog_7_method_27_code
def yX5_lay : MethodName := ⟨RX5, "lay", "(I)V"⟩
abbrev cX5_go : ByteArray := prog_7_method_28_code
def yX5_go : MethodName := ⟨RX5, "go", "(I)V"⟩
abbrev cX5_joined : ByteArray := prog_7_method_29_code
def yX5_joined : MethodName := ⟨RX5, "joined", "(III)I"⟩
abbrev cX5_way : ByteArray := prog_7_method_30_code
def yX5_way : MethodName := ⟨RX5, "way", "(III)I"⟩
abbrev cX5_stretchNow : ByteArray := prog_7_method_31_code
def yX5_stretchNow : MethodName := ⟨RX5, "stretchNow", "()V"⟩
abbrev cX5_spreadNow : ByteArray := prog_7_method_32_code
def yX5_spreadNow : MethodName := ⟨RX5, "spreadNow", "()I"⟩
abbrev cX5_stretch : ByteArray := prog_7_method_33_code
def yX5_stretch : MethodName := ⟨RX5, "stretch", "(II)J"⟩
abbrev cX5_spread : ByteArray := prog_7_method_34_code
def yX5_spread : MethodName := ⟨RX5, "spread", "(I)I"⟩
abbrev cX5_best : ByteArray := prog_7_method_35_code
def yX5_best : MethodName := ⟨RX5, "best", "(I)I"⟩
abbrev cX5_grow : ByteArray := prog_7_method_36_code
def yX5_grow : MethodName := ⟨RX5, "grow", "(I)I"⟩
abbrev cX5_isPart : ByteArray := prog_7_method_37_code
def yX5_isPart : MethodName := ⟨RX5, "isPart", "(I)Z"⟩
abbrev cX5_weightOf : ByteArray := prog_7_method_38_code
def yX5_weightOf : MethodName := ⟨RX5, "weightOf", "(I)I"⟩
abbrev cX5_weight : ByteArray := prog_7_method_39_code
def yX5_weight : MethodName := ⟨RX5, "weight", "(I)I"⟩
abbrev cX5_parts : ByteArray := prog_7_method_40_code
def yX5_parts : MethodName := ⟨RX5, "parts", "()I"⟩
abbrev cX5_rest : ByteArray := prog_7_method_41_code
def yX5_rest : MethodName := ⟨RX5, "rest", "(II)I"⟩
abbrev cX5_orders : ByteArray := prog_7_method_42_code
def yX5_orders : MethodName := ⟨RX5, "orders", "()I"⟩
abbrev cX5_draw : ByteArray := prog_7_method_43_code
def yX5_draw : MethodName := ⟨RX5, "draw", "(I)V"⟩
abbrev cX5_goalOf : ByteArray := prog_7_method_44_code
def yX5_goalOf : MethodName := ⟨RX5, "goalOf", "(II)I"⟩
abbrev cX5_drawn : ByteArray := prog_7_method_45_code
def yX5_drawn : MethodName := ⟨RX5, "drawn", "(III)I"⟩
abbrev cX5_goes : ByteArray := prog_7_method_46_code
def yX5_goes : MethodName := ⟨RX5, "goes", "(III)I"⟩
abbrev cX5_count : ByteArray := prog_7_method_47_code
def yX5_count : MethodName := ⟨RX5, "count", "(I)I"⟩
abbrev cX5_mix : ByteArray := prog_7_method_48_code
def yX5_mix : MethodName := ⟨RX5, "mix", "(J)V"⟩
abbrev cX5_digest : ByteArray := prog_7_method_49_code
def yX5_digest : MethodName := ⟨RX5, "digest", "()J"⟩
def RJ6 : String := "java/lang/Integer"
def TJ6 : u_T := fun k => match k with
  | _ => ("", "", "", false)
def tyJ6 : Nat → FieldType := fun k => match k with
  | _ => .int
abbrev wsJ60 : List Cond := u_ws RJ6 TJ6 0
theorem nmJ6 : ∀ a, a < 0 → ∀ b, b < 0 → a ≠ b → (TJ6 a).2.1 ≠ (TJ6 b).2.1 := by decide +kernel
theorem tyJ6_ok : ∀ k, k < 0 → parseFieldDescriptor (TJ6 k).2.2.1 = some (tyJ6 k) := by decide +kernel
abbrev cJ6_bitCount_0f7a4 : ByteArray := prog_8_method_49_code
def yJ6_bitCount_0f7a4 : MethodName := ⟨RJ6, "bitCount", "(I)I"⟩
def RJ9 : String := "java/lang/Math"
def TJ9 : u_T := fun k => match k with
  | _ => ("", "", "", false)
def tyJ9 : Nat → FieldType := fun k => match k with
  | _ => .int
abbrev wsJ90 : List Cond := u_ws RJ9 TJ9 0
theorem nmJ9 : ∀ a, a < 0 → ∀ b, b < 0 → a ≠ b → (TJ9 a).2.1 ≠ (TJ9 b).2.1 := by decide +kernel
theorem tyJ9_ok : ∀ k, k < 0 → parseFieldDescriptor (TJ9 k).2.2.1 = some (tyJ9 k) := by decide +kernel
abbrev cJ9_max_7cf53 : ByteArray := prog_9_method_65_code
def yJ9_max_7cf53 : MethodName := ⟨RJ9, "max", "(II)I"⟩
abbrev cJ9_min_7cf53 : ByteArray := prog_9_method_69_code
def yJ9_min_7cf53 : MethodName := ⟨RJ9, "min", "(II)I"⟩
def RJ10 : String := "java/lang/System"
def TJ10 : u_T := fun k => match k with
  | _ => ("", "", "", false)
def tyJ10 : Nat → FieldType := fun k => match k with
  | _ => .int
abbrev wsJ100 : List Cond := u_ws RJ10 TJ10 0
theorem nmJ10 : ∀ a, a < 0 → ∀ b, b < 0 → a ≠ b → (TJ10 a).2.1 ≠ (TJ10 b).2.1 := by decide +kernel
theorem tyJ10_ok : ∀ k, k < 0 → parseFieldDescriptor (TJ10 k).2.2.1 = some (tyJ10 k) := by decide +kernel
def RJ7 : String := "java/util/Arrays"
def TJ7 : u_T := fun k => match k with
  | _ => ("", "", "", false)
def tyJ7 : Nat → FieldType := fun k => match k with
  | _ => .int
abbrev wsJ70 : List Cond := u_ws RJ7 TJ7 0
theorem nmJ7 : ∀ a, a < 0 → ∀ b, b < 0 → a ≠ b → (TJ7 a).2.1 ≠ (TJ7 b).2.1 := by decide +kernel
theorem tyJ7_ok : ∀ k, k < 0 → parseFieldDescriptor (TJ7 k).2.2.1 = some (tyJ7 k) := by decide +kernel
abbrev cJ7_fill_53178 : ByteArray := prog_11_method_103_code
def yJ7_fill_53178 : MethodName := ⟨RJ7, "fill", "([II)V"⟩
def RL : String := "HugTreesLaw"
abbrev cL_law : ByteArray := code
def yL_law : MethodName := ⟨RL, "law", "([I)Z"⟩
def wsL_law_r1 : List Cond := [Cond.classLink RL 7 RX4, Cond.instantiable RX4 5, Cond.initialized RX4, Cond.classLink RL 10 RX5, Cond.instantiable RX5 11, Cond.initialized RX5, Cond.methodLink RL 9 yX4_init, Cond.instanceMethod yX4_init, Cond.code yX4_init cX4_init 1 none, Cond.methodLink RX4 3 objectInit, Cond.instanceMethod objectInit, Cond.code objectInit ⟨#[0xb1]⟩ 1 none, Cond.classLink RX4 9 RX3, Cond.instantiable RX3 3, Cond.initialized RX3, Cond.fieldLink RX4 12 "HugTrees" "table" "LHugTrees$Table;", Cond.classLink RX4 16 RX1, Cond.instantiable RX1 7, Cond.initialized RX1, Cond.fieldLink RX4 21 "HugTrees" "tree" "LHugTrees$SpanningTree;", Cond.classLink RX4 25 RX2, Cond.instantiable RX2 1, Cond.initialized RX2, Cond.fieldLink RX4 28 "HugTrees" "splits" "LHugTrees$Splits;"]
def wsL_law_r2 : List Cond := [Cond.classLink RX4 32 RX0, Cond.instantiable RX0 1, Cond.initialized RX0, Cond.fieldLink RX4 35 "HugTrees" "lots" "LHugTrees$Lots;", Cond.fieldLink RX4 39 "HugTrees" "searches" "I", Cond.instanceMethod yX3_init, Cond.code yX3_init cX3_init 1 none, Cond.methodLink RX3 3 objectInit, Cond.classLink RX3 9 "[[I", Cond.arrayClass .int, Cond.fieldLink RX3 11 "HugTrees$Table" "d" "[[I", Cond.fieldLink RX3 16 "HugTrees$Table" "made" "[[I", Cond.methodLink RX4 18 yX1_init, Cond.instanceMethod yX1_init, Cond.code yX1_init cX1_init 2 none, Cond.methodLink RX1 3 objectInit, Cond.fieldLink RX1 9 "HugTrees$SpanningTree" "gone" "[I", Cond.fieldLink RX1 15 "HugTrees$SpanningTree" "kept" "[I", Cond.fieldLink RX1 18 "HugTrees$SpanningTree" "hangs" "[I", Cond.classLink RX1 21 "[[I", Cond.fieldLink RX1 23 "HugTrees$SpanningTree" "ways" "[[I", Cond.fieldLink RX1 26 "HugTrees$SpanningTree" "above" "I", Cond.fieldLink RX1 30 "HugTrees$SpanningTree" "below" "I", Cond.fieldLink RX1 33 "HugTrees$SpanningTree" "table" "LHugTrees$Table;"]
def wsL_law_r3 : List Cond := [Cond.methodLink RX4 27 yX2_init, Cond.instanceMethod yX2_init, Cond.code yX2_init cX2_init 2 none, Cond.methodLink RX2 3 objectInit, Cond.fieldLink RX2 9 "HugTrees$Splits" "table" "LHugTrees$Table;", Cond.methodLink RX4 34 yX0_init, Cond.instanceMethod yX0_init, Cond.code yX0_init cX0_init 2 none, Cond.methodLink RX0 1 objectInit, Cond.fieldLink RX0 7 "HugTrees$Lots" "table" "LHugTrees$Table;", Cond.methodLink RX4 43 yX3_begin, Cond.instanceMethod yX3_begin, Cond.selects RX3 yX3_begin yX3_begin, Cond.code yX3_begin cX3_begin 3 none, Cond.fieldLink RX3 19 "HugTrees$Table" "n" "I", Cond.methodLink RX3 23 yJ7_fill_53178, Cond.static yJ7_fill_53178, Cond.initialized RJ7, Cond.code yJ7_fill_53178 cJ7_fill_53178 4 none, Cond.methodLink RL 12 yX5_init, Cond.instanceMethod yX5_init, Cond.code yX5_init cX5_init 1 none, Cond.methodLink RX5 1 objectInit, Cond.fieldLink RX5 7 "HugTreesModel" "n" "I"]
def wsL_law_r4 : List Cond := [Cond.fieldLink RX5 13 "HugTreesModel" "table" "[I", Cond.fieldLink RX5 17 "HugTreesModel" "made" "[I", Cond.arrayClass .boolean, Cond.fieldLink RX5 20 "HugTreesModel" "isJoined" "[Z", Cond.fieldLink RX5 24 "HugTreesModel" "joins" "[I", Cond.fieldLink RX5 27 "HugTreesModel" "ways" "[I", Cond.fieldLink RX5 30 "HugTreesModel" "order" "[I", Cond.methodLink RX5 33 yX5_begin, Cond.instanceMethod yX5_begin, Cond.selects RX5 yX5_begin yX5_begin, Cond.code yX5_begin cX5_begin 3 none, Cond.methodLink RL 13 yX4_points, Cond.instanceMethod yX4_points, Cond.selects RX4 yX4_points yX4_points, Cond.code yX4_points cX4_points 2 (some .int), Cond.methodLink RL 17 yX5_points, Cond.instanceMethod yX5_points, Cond.selects RX5 yX5_points yX5_points, Cond.code yX5_points cX5_points 2 (some .int), Cond.methodLink RX5 36 yX5_in, Cond.static yX5_in, Cond.code yX5_in cX5_in 3 (some .boolean), Cond.methodLink RL 18 yX4_set, Cond.instanceMethod yX4_set]
def wsL_law_r5 : List Cond := [Cond.selects RX4 yX4_set yX4_set, Cond.code yX4_set cX4_set 5 (some .int), Cond.methodLink RX4 47 yX4_areKnown, Cond.instanceMethod yX4_areKnown, Cond.selects RX4 yX4_areKnown yX4_areKnown, Cond.code yX4_areKnown cX4_areKnown 3 (some .boolean), Cond.methodLink RX4 154 yX4_isKnown, Cond.instanceMethod yX4_isKnown, Cond.selects RX4 yX4_isKnown yX4_isKnown, Cond.code yX4_isKnown cX4_isKnown 2 (some .boolean), Cond.methodLink RX4 55 yX3_put, Cond.instanceMethod yX3_put, Cond.selects RX3 yX3_put yX3_put, Cond.code yX3_put cX3_put 4 none, Cond.methodLink RL 22 yX5_set, Cond.instanceMethod yX5_set, Cond.selects RX5 yX5_set yX5_set, Cond.code yX5_set cX5_set 5 (some .int), Cond.methodLink RX5 40 yX5_isPoint, Cond.instanceMethod yX5_isPoint, Cond.selects RX5 yX5_isPoint yX5_isPoint, Cond.code yX5_isPoint cX5_isPoint 2 (some .boolean), Cond.methodLink RL 23 yX4_get, Cond.instanceMethod yX4_get]
def wsL_law_r6 : List Cond := [Cond.selects RX4 yX4_get yX4_get, Cond.code yX4_get cX4_get 3 (some .int), Cond.methodLink RL 27 yX5_get, Cond.instanceMethod yX5_get, Cond.selects RX5 yX5_get yX5_get, Cond.code yX5_get cX5_get 3 (some .int), Cond.methodLink RX5 44 yX5_d, Cond.instanceMethod yX5_d, Cond.selects RX5 yX5_d yX5_d, Cond.code yX5_d cX5_d 3 (some .int), Cond.methodLink RL 28 yX4_is, Cond.instanceMethod yX4_is, Cond.selects RX4 yX4_is yX4_is, Cond.code yX4_is cX4_is 2 (some .int), Cond.methodLink RX4 59 yX3_brokenThrees, Cond.instanceMethod yX3_brokenThrees, Cond.selects RX3 yX3_brokenThrees yX3_brokenThrees, Cond.code yX3_brokenThrees cX3_brokenThrees 5 (some .int), Cond.methodLink RX3 35 yX3_shorterBy, Cond.instanceMethod yX3_shorterBy, Cond.selects RX3 yX3_shorterBy yX3_shorterBy, Cond.code yX3_shorterBy cX3_shorterBy 6 (some .int), Cond.methodLink RX3 39 yX3_together, Cond.static yX3_together]
def wsL_law_r7 : List Cond := [Cond.code yX3_together cX3_together 3 (some .int), Cond.methodLink RX3 29 Lib.Math.max.name, Cond.static Lib.Math.max.name, Cond.initialized "java/lang/Math", Cond.code Lib.Math.max.name Lib.Math.max.code 2 (some .int), Cond.methodLink RX4 63 yX4_asAnswer, Cond.static yX4_asAnswer, Cond.code yX4_asAnswer cX4_asAnswer 1 (some .int), Cond.methodLink RX4 67 yX4_isNear, Cond.instanceMethod yX4_isNear, Cond.selects RX4 yX4_isNear yX4_isNear, Cond.code yX4_isNear cX4_isNear 1 (some .boolean), Cond.methodLink RX4 71 yX3_brokenFours, Cond.instanceMethod yX3_brokenFours, Cond.selects RX3 yX3_brokenFours yX3_brokenFours, Cond.code yX3_brokenFours cX3_brokenFours 5 (some .int), Cond.methodLink RX3 42 yX3_brokenFoursFrom, Cond.instanceMethod yX3_brokenFoursFrom, Cond.selects RX3 yX3_brokenFoursFrom yX3_brokenFoursFrom, Cond.code yX3_brokenFoursFrom cX3_brokenFoursFrom 6 (some .int), Cond.methodLink RX3 45 yX3_twoGreatestAlike, Cond.static yX3_twoGreatestAlike, Cond.code yX3_twoGreatestAlike cX3_twoGreatestAlike 4 (some .boolean), Cond.methodLink RL 31 yX5_is]
def wsL_law_r8 : List Cond := [Cond.instanceMethod yX5_is, Cond.selects RX5 yX5_is yX5_is, Cond.code yX5_is cX5_is 2 (some .int), Cond.methodLink RX5 55 yX5_brokenOf, Cond.instanceMethod yX5_brokenOf, Cond.selects RX5 yX5_brokenOf yX5_brokenOf, Cond.code yX5_brokenOf cX5_brokenOf 7 (some .int), Cond.methodLink RX5 48 yX5_greater, Cond.static yX5_greater, Cond.code yX5_greater cX5_greater 2 (some .int), Cond.methodLink RX5 51 yX5_areFour, Cond.instanceMethod yX5_areFour, Cond.selects RX5 yX5_areFour yX5_areFour, Cond.code yX5_areFour cX5_areFour 9 (some .boolean), Cond.methodLink RL 32 yX4_broken, Cond.instanceMethod yX4_broken, Cond.selects RX4 yX4_broken yX4_broken, Cond.code yX4_broken cX4_broken 2 (some .int), Cond.methodLink RL 35 yX5_broken, Cond.instanceMethod yX5_broken, Cond.selects RX5 yX5_broken yX5_broken, Cond.code yX5_broken cX5_broken 2 (some .int), Cond.methodLink RL 36 yX4_mend, Cond.instanceMethod yX4_mend]
def wsL_law_r9 : List Cond := [Cond.selects RX4 yX4_mend yX4_mend, Cond.code yX4_mend cX4_mend 1 (some .int), Cond.methodLink RX4 75 yX3_closed, Cond.instanceMethod yX3_closed, Cond.selects RX3 yX3_closed yX3_closed, Cond.code yX3_closed cX3_closed 3 (some (.array (.array .int))), Cond.methodLink RX3 49 arraycopyName, Cond.native arraycopyName, Cond.static arraycopyName, Cond.initialized "java/lang/System", Cond.methodLink RX3 55 yX3_shortenBy, Cond.instanceMethod yX3_shortenBy, Cond.selects RX3 yX3_shortenBy yX3_shortenBy, Cond.code yX3_shortenBy cX3_shortenBy 5 none, Cond.methodLink RX3 59 Lib.Math.min.name, Cond.static Lib.Math.min.name, Cond.code Lib.Math.min.name Lib.Math.min.code 2 (some .int), Cond.methodLink RX4 79 yX3_become, Cond.instanceMethod yX3_become, Cond.selects RX3 yX3_become yX3_become, Cond.code yX3_become cX3_become 5 (some .int), Cond.methodLink RX3 62 yX3_put, Cond.methodLink RL 40 yX5_mend, Cond.instanceMethod yX5_mend]
def wsL_law_r10 : List Cond := [Cond.selects RX5 yX5_mend yX5_mend, Cond.code yX5_mend cX5_mend 1 (some .int), Cond.methodLink RX5 59 yX5_make, Cond.instanceMethod yX5_make, Cond.selects RX5 yX5_make yX5_make, Cond.code yX5_make cX5_make 6 none, Cond.methodLink RX5 63 yX5_become, Cond.instanceMethod yX5_become, Cond.selects RX5 yX5_become yX5_become, Cond.code yX5_become cX5_become 4 (some .int), Cond.methodLink RL 41 yX4_low, Cond.instanceMethod yX4_low, Cond.selects RX4 yX4_low yX4_low, Cond.code yX4_low cX4_low 3 (some .int), Cond.methodLink RL 44 yX5_low, Cond.instanceMethod yX5_low, Cond.selects RX5 yX5_low yX5_low, Cond.code yX5_low cX5_low 3 (some .int), Cond.methodLink RL 45 yX4_gap, Cond.instanceMethod yX4_gap, Cond.selects RX4 yX4_gap yX4_gap, Cond.code yX4_gap cX4_gap 1 (some .int), Cond.methodLink RX4 83 yX3_greatestAbove, Cond.instanceMethod yX3_greatestAbove]
def wsL_law_r11 : List Cond := [Cond.selects RX3 yX3_greatestAbove yX3_greatestAbove, Cond.code yX3_greatestAbove cX3_greatestAbove 5 (some .int), Cond.methodLink RL 48 yX5_gap, Cond.instanceMethod yX5_gap, Cond.selects RX5 yX5_gap yX5_gap, Cond.code yX5_gap cX5_gap 4 (some .int), Cond.methodLink RL 49 yX4_groups, Cond.instanceMethod yX4_groups, Cond.selects RX4 yX4_groups yX4_groups, Cond.code yX4_groups cX4_groups 2 (some .int), Cond.methodLink RX4 86 yX4_isReach, Cond.static yX4_isReach, Cond.code yX4_isReach cX4_isReach 1 (some .boolean), Cond.methodLink RX4 90 yX3_groupsWithin, Cond.instanceMethod yX3_groupsWithin, Cond.selects RX3 yX3_groupsWithin yX3_groupsWithin, Cond.code yX3_groupsWithin cX3_groupsWithin 7 (some .int), Cond.methodLink RX3 66 yX3_closed, Cond.methodLink RL 52 yX5_groups, Cond.instanceMethod yX5_groups, Cond.selects RX5 yX5_groups yX5_groups, Cond.code yX5_groups cX5_groups 6 (some .int), Cond.methodLink RL 53 yX4_lower, Cond.instanceMethod yX4_lower]
def wsL_law_r12 : List Cond := [Cond.selects RX4 yX4_lower yX4_lower, Cond.code yX4_lower cX4_lower 1 (some .int), Cond.methodLink RL 56 yX5_lower, Cond.instanceMethod yX5_lower, Cond.selects RX5 yX5_lower yX5_lower, Cond.code yX5_lower cX5_lower 1 (some .int), Cond.methodLink RL 57 yX4_codes, Cond.instanceMethod yX4_codes, Cond.selects RX4 yX4_codes yX4_codes, Cond.code yX4_codes cX4_codes 1 (some .int), Cond.methodLink RX4 93 yX1_howMany, Cond.instanceMethod yX1_howMany, Cond.selects RX1 yX1_howMany yX1_howMany, Cond.code yX1_howMany cX1_howMany 3 (some .int), Cond.methodLink RL 60 yX5_codes, Cond.instanceMethod yX5_codes, Cond.selects RX5 yX5_codes yX5_codes, Cond.code yX5_codes cX5_codes 1 (some .int), Cond.methodLink RX5 67 yX5_codeMany, Cond.instanceMethod yX5_codeMany, Cond.selects RX5 yX5_codeMany yX5_codeMany, Cond.code yX5_codeMany cX5_codeMany 3 (some .int), Cond.methodLink RL 61 yX4_joined, Cond.instanceMethod yX4_joined]
def wsL_law_r13 : List Cond := [Cond.selects RX4 yX4_joined yX4_joined, Cond.code yX4_joined cX4_joined 4 (some .int), Cond.methodLink RX4 96 yX4_isCode, Cond.instanceMethod yX4_isCode, Cond.selects RX4 yX4_isCode yX4_isCode, Cond.code yX4_isCode cX4_isCode 2 (some .boolean), Cond.methodLink RX4 99 yX1_read, Cond.instanceMethod yX1_read, Cond.selects RX1 yX1_read yX1_read, Cond.code yX1_read cX1_read 4 none, Cond.methodLink RX1 42 yX1_readFigures, Cond.instanceMethod yX1_readFigures, Cond.selects RX1 yX1_readFigures yX1_readFigures, Cond.code yX1_readFigures cX1_readFigures 4 none, Cond.methodLink RX1 50 yJ7_fill_53178, Cond.methodLink RX1 46 yX1_takeLeast, Cond.instanceMethod yX1_takeLeast, Cond.selects RX1 yX1_takeLeast yX1_takeLeast, Cond.code yX1_takeLeast cX1_takeLeast 2 (some .int), Cond.methodLink RX4 102 yX1_joins, Cond.instanceMethod yX1_joins, Cond.selects RX1 yX1_joins yX1_joins, Cond.code yX1_joins cX1_joins 5 (some .boolean), Cond.methodLink RL 64 yX5_joined]
def wsL_law_r14 : List Cond := [Cond.instanceMethod yX5_joined, Cond.selects RX5 yX5_joined yX5_joined, Cond.code yX5_joined cX5_joined 4 (some .int), Cond.methodLink RX5 82 yX5_isCode, Cond.instanceMethod yX5_isCode, Cond.selects RX5 yX5_isCode yX5_isCode, Cond.code yX5_isCode cX5_isCode 2 (some .boolean), Cond.methodLink RX5 77 yX5_lay, Cond.instanceMethod yX5_lay, Cond.selects RX5 yX5_lay yX5_lay, Cond.code yX5_lay cX5_lay 6 none, Cond.methodLink RX5 70 yX5_leaf, Cond.instanceMethod yX5_leaf, Cond.selects RX5 yX5_leaf yX5_leaf, Cond.code yX5_leaf cX5_leaf 2 (some .int), Cond.methodLink RX5 73 yX5_join, Cond.instanceMethod yX5_join, Cond.selects RX5 yX5_join yX5_join, Cond.code yX5_join cX5_join 3 none, Cond.methodLink RL 65 yX4_way, Cond.instanceMethod yX4_way, Cond.selects RX4 yX4_way yX4_way, Cond.code yX4_way cX4_way 4 (some .int), Cond.methodLink RX4 105 yX1_lay]
def wsL_law_r15 : List Cond := [Cond.instanceMethod yX1_lay, Cond.selects RX1 yX1_lay yX1_lay, Cond.code yX1_lay cX1_lay 5 none, Cond.methodLink RX1 56 yX1_read, Cond.methodLink RX1 59 yX1_layWay, Cond.instanceMethod yX1_layWay, Cond.selects RX1 yX1_layWay yX1_layWay, Cond.code yX1_layWay cX1_layWay 5 none, Cond.methodLink RL 68 yX5_way, Cond.instanceMethod yX5_way, Cond.selects RX5 yX5_way yX5_way, Cond.code yX5_way cX5_way 4 (some .int), Cond.methodLink RX5 85 yX5_go, Cond.instanceMethod yX5_go, Cond.selects RX5 yX5_go yX5_go, Cond.code yX5_go cX5_go 6 none, Cond.constant RX5 81 (1000000), Cond.methodLink RL 69 yX4_stretch, Cond.instanceMethod yX4_stretch, Cond.selects RX4 yX4_stretch yX4_stretch, Cond.code yX4_stretch cX4_stretch 5 (some .long), Cond.constantLong RX4 111 (-102), Cond.methodLink RX4 113 yX1_findStretch, Cond.instanceMethod yX1_findStretch]
def wsL_law_r16 : List Cond := [Cond.selects RX1 yX1_findStretch yX1_findStretch, Cond.code yX1_findStretch cX1_findStretch 3 none, Cond.methodLink RX4 122 yX4_greatestDivisor, Cond.static yX4_greatestDivisor, Cond.code yX4_greatestDivisor cX4_greatestDivisor 6 (some .int), Cond.methodLink RL 73 yX5_stretch, Cond.instanceMethod yX5_stretch, Cond.selects RX5 yX5_stretch yX5_stretch, Cond.code yX5_stretch cX5_stretch 9 (some .long), Cond.constantLong RX5 95 (-102), Cond.fieldLink RX5 88 "HugTreesModel" "above" "J", Cond.fieldLink RX5 92 "HugTreesModel" "below" "J", Cond.methodLink RX5 97 yX5_stretchNow, Cond.instanceMethod yX5_stretchNow, Cond.selects RX5 yX5_stretchNow yX5_stretchNow, Cond.code yX5_stretchNow cX5_stretchNow 3 none, Cond.methodLink RL 74 yX4_spread, Cond.instanceMethod yX4_spread, Cond.selects RX4 yX4_spread yX4_spread, Cond.code yX4_spread cX4_spread 2 (some .int), Cond.methodLink RX4 126 yX3_sumOf, Cond.instanceMethod yX3_sumOf, Cond.selects RX3 yX3_sumOf yX3_sumOf, Cond.code yX3_sumOf cX3_sumOf 5 (some .int)]
def wsL_law_r17 : List Cond := [Cond.methodLink RL 77 yX5_spread, Cond.instanceMethod yX5_spread, Cond.selects RX5 yX5_spread yX5_spread, Cond.code yX5_spread cX5_spread 2 (some .int), Cond.methodLink RX5 100 yX5_spreadNow, Cond.instanceMethod yX5_spreadNow, Cond.selects RX5 yX5_spreadNow yX5_spreadNow, Cond.code yX5_spreadNow cX5_spreadNow 4 (some .int), Cond.methodLink RL 78 yX4_best, Cond.instanceMethod yX4_best, Cond.selects RX4 yX4_best yX4_best, Cond.code yX4_best cX4_best 2 (some .int), Cond.methodLink RX4 129 yX1_leastByStretch, Cond.instanceMethod yX1_leastByStretch, Cond.selects RX1 yX1_leastByStretch yX1_leastByStretch, Cond.code yX1_leastByStretch cX1_leastByStretch 6 (some .int), Cond.methodLink RX1 66 yX1_howMany, Cond.methodLink RX1 69 yX1_lay, Cond.methodLink RX1 72 yX1_findStretch, Cond.methodLink RX4 132 yX1_leastBySpread, Cond.instanceMethod yX1_leastBySpread, Cond.selects RX1 yX1_leastBySpread yX1_leastBySpread, Cond.code yX1_leastBySpread cX1_leastBySpread 6 (some .int), Cond.methodLink RX1 75 yX3_sumOf]
def wsL_law_r18 : List Cond := [Cond.methodLink RL 81 yX5_best, Cond.instanceMethod yX5_best, Cond.selects RX5 yX5_best yX5_best, Cond.code yX5_best cX5_best 12 (some .int), Cond.fieldLink RX5 103 "HugTreesModel" "bests" "I", Cond.methodLink RL 82 yX4_grow, Cond.instanceMethod yX4_grow, Cond.selects RX4 yX4_grow yX4_grow, Cond.code yX4_grow cX4_grow 2 (some .int), Cond.methodLink RX4 135 yX3_greatestOf, Cond.instanceMethod yX3_greatestOf, Cond.selects RX3 yX3_greatestOf yX3_greatestOf, Cond.code yX3_greatestOf cX3_greatestOf 5 (some .int), Cond.methodLink RL 85 yX5_grow, Cond.instanceMethod yX5_grow, Cond.selects RX5 yX5_grow yX5_grow, Cond.code yX5_grow cX5_grow 5 (some .int), Cond.methodLink RL 86 yX4_weight, Cond.instanceMethod yX4_weight, Cond.selects RX4 yX4_weight yX4_weight, Cond.code yX4_weight cX4_weight 2 (some .int), Cond.methodLink RX4 138 yX2_isPart, Cond.instanceMethod yX2_isPart, Cond.selects RX2 yX2_isPart yX2_isPart]
def wsL_law_r19 : List Cond := [Cond.code yX2_isPart cX2_isPart 2 (some .boolean), Cond.methodLink RX2 21 yX2_allPoints, Cond.instanceMethod yX2_allPoints, Cond.selects RX2 yX2_allPoints yX2_allPoints, Cond.code yX2_allPoints cX2_allPoints 1 (some .int), Cond.methodLink RX2 25 yX2_isIn, Cond.static yX2_isIn, Cond.code yX2_isIn cX2_isIn 2 (some .boolean), Cond.methodLink RX4 141 yX2_weigh, Cond.instanceMethod yX2_weigh, Cond.selects RX2 yX2_weigh yX2_weigh, Cond.code yX2_weigh cX2_weigh 5 (some .int), Cond.methodLink RX2 33 Lib.Math.min.name, Cond.methodLink RX2 29 yX2_leastAcross, Cond.instanceMethod yX2_leastAcross, Cond.selects RX2 yX2_leastAcross yX2_leastAcross, Cond.code yX2_leastAcross cX2_leastAcross 7 (some .int), Cond.methodLink RX2 39 yX2_across, Cond.instanceMethod yX2_across, Cond.selects RX2 yX2_across yX2_across, Cond.code yX2_across cX2_across 9 (some .int), Cond.methodLink RX2 47 Lib.Math.max.name, Cond.methodLink RL 89 yX5_weight, Cond.instanceMethod yX5_weight]
def wsL_law_r20 : List Cond := [Cond.selects RX5 yX5_weight yX5_weight, Cond.code yX5_weight cX5_weight 2 (some .int), Cond.methodLink RX5 106 yX5_isPart, Cond.instanceMethod yX5_isPart, Cond.selects RX5 yX5_isPart yX5_isPart, Cond.code yX5_isPart cX5_isPart 2 (some .boolean), Cond.methodLink RX5 109 yX5_weightOf, Cond.instanceMethod yX5_weightOf, Cond.selects RX5 yX5_weightOf yX5_weightOf, Cond.code yX5_weightOf cX5_weightOf 10 (some .int), Cond.methodLink RL 90 yX4_parts, Cond.instanceMethod yX4_parts, Cond.selects RX4 yX4_parts yX4_parts, Cond.code yX4_parts cX4_parts 1 (some .int), Cond.methodLink RX4 144 yX2_howManyWeigh, Cond.instanceMethod yX2_howManyWeigh, Cond.selects RX2 yX2_howManyWeigh yX2_howManyWeigh, Cond.code yX2_howManyWeigh cX2_howManyWeigh 3 (some .int), Cond.methodLink RX2 50 yX2_weigh, Cond.methodLink RL 93 yX5_parts, Cond.instanceMethod yX5_parts, Cond.selects RX5 yX5_parts yX5_parts, Cond.code yX5_parts cX5_parts 3 (some .int), Cond.methodLink RL 94 yX4_rest]
def wsL_law_r21 : List Cond := [Cond.instanceMethod yX4_rest, Cond.selects RX4 yX4_rest yX4_rest, Cond.code yX4_rest cX4_rest 3 (some .int), Cond.methodLink RX4 147 yX2_leftOf, Cond.instanceMethod yX2_leftOf, Cond.selects RX2 yX2_leftOf yX2_leftOf, Cond.code yX2_leftOf cX2_leftOf 5 (some .int), Cond.methodLink RL 97 yX5_rest, Cond.instanceMethod yX5_rest, Cond.selects RX5 yX5_rest yX5_rest, Cond.code yX5_rest cX5_rest 5 (some .int), Cond.methodLink RL 98 yX4_drawn, Cond.instanceMethod yX4_drawn, Cond.selects RX4 yX4_drawn yX4_drawn, Cond.code yX4_drawn cX4_drawn 4 (some .int), Cond.methodLink RX4 150 yX0_ordersThatPart, Cond.instanceMethod yX0_ordersThatPart, Cond.selects RX0 yX0_ordersThatPart yX0_ordersThatPart, Cond.code yX0_ordersThatPart cX0_ordersThatPart 6 (some .int), Cond.methodLink RX0 25 yX0_reached, Cond.instanceMethod yX0_reached, Cond.selects RX0 yX0_reached yX0_reached, Cond.code yX0_reached cX0_reached 5 (some .int), Cond.methodLink RX0 29 yJ6_bitCount_0f7a4]
def wsL_law_r22 : List Cond := [Cond.static yJ6_bitCount_0f7a4, Cond.initialized RJ6, Cond.code yJ6_bitCount_0f7a4 cJ6_bitCount_0f7a4 1 (some .int), Cond.constant RJ6 265 (1431655765), Cond.constant RJ6 266 (858993459), Cond.constant RJ6 267 (252645135), Cond.methodLink RX0 35 yX0_howMany, Cond.instanceMethod yX0_howMany, Cond.selects RX0 yX0_howMany yX0_howMany, Cond.code yX0_howMany cX0_howMany 1 (some .int), Cond.methodLink RL 101 yX5_drawn, Cond.instanceMethod yX5_drawn, Cond.selects RX5 yX5_drawn yX5_drawn, Cond.code yX5_drawn cX5_drawn 6 (some .int), Cond.methodLink RX5 112 yX5_orders, Cond.instanceMethod yX5_orders, Cond.selects RX5 yX5_orders yX5_orders, Cond.code yX5_orders cX5_orders 3 (some .int), Cond.methodLink RX5 115 yX5_draw, Cond.instanceMethod yX5_draw, Cond.selects RX5 yX5_draw yX5_draw, Cond.code yX5_draw cX5_draw 8 none, Cond.methodLink RX5 118 yX5_goalOf, Cond.instanceMethod yX5_goalOf]
def wsL_law_r23 : List Cond := [Cond.selects RX5 yX5_goalOf yX5_goalOf, Cond.code yX5_goalOf cX5_goalOf 4 (some .int), Cond.methodLink RL 102 yX4_goes, Cond.instanceMethod yX4_goes, Cond.selects RX4 yX4_goes yX4_goes, Cond.code yX4_goes cX4_goes 4 (some .int), Cond.methodLink RX4 157 yX0_howMany, Cond.methodLink RX4 158 yX0_firstWithin, Cond.instanceMethod yX0_firstWithin, Cond.selects RX0 yX0_firstWithin yX0_firstWithin, Cond.code yX0_firstWithin cX0_firstWithin 8 (some .int), Cond.methodLink RX0 43 yX0_undealtAt, Cond.instanceMethod yX0_undealtAt, Cond.selects RX0 yX0_undealtAt yX0_undealtAt, Cond.code yX0_undealtAt cX0_undealtAt 5 (some .int), Cond.methodLink RL 105 yX5_goes, Cond.instanceMethod yX5_goes, Cond.selects RX5 yX5_goes yX5_goes, Cond.code yX5_goes cX5_goes 4 (some .int), Cond.methodLink RL 106 yX4_count, Cond.instanceMethod yX4_count, Cond.selects RX4 yX4_count yX4_count, Cond.code yX4_count cX4_count 2 (some .int), Cond.methodLink RL 109 yX5_count]
def wsL_law_r24 : List Cond := [Cond.instanceMethod yX5_count, Cond.selects RX5 yX5_count yX5_count, Cond.code yX5_count cX5_count 6 (some .int), Cond.methodLink RL 110 yX4_digest, Cond.instanceMethod yX4_digest, Cond.selects RX4 yX4_digest yX4_digest, Cond.code yX4_digest cX4_digest 6 (some .long), Cond.constantLong RX4 164 (197), Cond.methodLink RX4 166 yX4_taken, Cond.static yX4_taken, Cond.code yX4_taken cX4_taken 4 (some .long), Cond.constantLong RX4 170 (31), Cond.methodLink RL 114 yX5_digest, Cond.instanceMethod yX5_digest, Cond.selects RX5 yX5_digest yX5_digest, Cond.code yX5_digest cX5_digest 3 (some .long), Cond.constantLong RX5 126 (197), Cond.fieldLink RX5 123 "HugTreesModel" "h" "J", Cond.methodLink RX5 128 yX5_mix, Cond.instanceMethod yX5_mix, Cond.selects RX5 yX5_mix yX5_mix, Cond.code yX5_mix cX5_mix 3 none, Cond.constantLong RX5 121 (31)]
def wsL_law : List Cond := (wsL_law_r1 ++ (wsL_law_r2 ++ (wsL_law_r3 ++ (wsL_law_r4 ++ (wsL_law_r5 ++ (wsL_law_r6 ++ (wsL_law_r7 ++ (wsL_law_r8 ++ (wsL_law_r9 ++ (wsL_law_r10 ++ (wsL_law_r11 ++ (wsL_law_r12 ++ (wsL_law_r13 ++ (wsL_law_r14 ++ (wsL_law_r15 ++ (wsL_law_r16 ++ (wsL_law_r17 ++ (wsL_law_r18 ++ (wsL_law_r19 ++ (wsL_law_r20 ++ (wsL_law_r21 ++ (wsL_law_r22 ++ (wsL_law_r23 ++ wsL_law_r24))))))))))))))))))))))) ++ wsX40 ++ wsX50 ++ wsX30 ++ wsX10 ++ wsX20 ++ wsX00 ++ ([] : List Cond)
theorem inlX0 : ∀ w ∈ wsX00, w ∈ wsL_law := fun _ h => List.mem_append_left _ (List.mem_append_right _ h)
theorem inlX1 : ∀ w ∈ wsX10, w ∈ wsL_law := fun _ h => List.mem_append_left _ (List.mem_append_left _ (List.mem_append_left _ (List.mem_append_right _ h)))
theorem inlX2 : ∀ w ∈ wsX20, w ∈ wsL_law := fun _ h => List.mem_append_left _ (List.mem_append_left _ (List.mem_append_right _ h))
theorem inlX3 : ∀ w ∈ wsX30, w ∈ wsL_law := fun _ h => List.mem_append_left _ (List.mem_append_left _ (List.mem_append_left _ (List.mem_append_left _ (List.mem_append_right _ h))))
theorem inlX4 : ∀ w ∈ wsX40, w ∈ wsL_law := fun _ h => List.mem_append_left _ (List.mem_append_left _ (List.mem_append_left _ (List.mem_append_left _ (List.mem_append_left _ (List.mem_append_left _ (List.mem_append_right _ h))))))
theorem inlX5 : ∀ w ∈ wsX50, w ∈ wsL_law := fun _ h => List.mem_append_left _ (List.mem_append_left _ (List.mem_append_left _ (List.mem_append_left _ (List.mem_append_left _ (List.mem_append_right _ h)))))
abbrev vwCl : List vw_C := [(RX0, TX0, 1), (RX1, TX1, 7), (RX2, TX2, 1), (RX3, TX3, 3), (RX4, TX4, 5), (RX5, TX5, 11)]
/-! THE CLAIM OUT OF ONE WALK OF THE LAW'S BODY. Your part is whole_start (and what it stands on); all else here is the same for every law, but numbers. -/
def R_law : String := "HugTreesLaw"
def lw_P (b : Addr) (xs : List Int32) (args : Array Value) (s : State) : Prop := args = #[.ref b] ∧ s.IntsAt b xs ∧ xs.length ≤ 2048 ∧ (Jvm.Cond.and given_1 narrow_1).before args s = true
def lw_Q (_ : Array Value) (s : State) (o : Outcome) (t : State) : Prop := o = .returned (some (.int 1)) ∧ Framed s o t [] 600000 7302250
def lw_Z (below : List Frame) (a : Array Value) (s : State) : State → Prop := fun t => ∃ o, t.status = .running ∧ Ended t below o ∧ lw_Q a s o t
/-- the law's own end, with 1 on the stack, nothing written that was there before, its room as the claim has it -/
theorem lw_ret {p : Program} {l : Launch} {e : Env} {s : State} {m : MethodId} {below : List Frame} {meth : Method} {c : Code} {b : Nat} (hx : p.tables.exec = Jvm.exec) (hb : c.code = code) (hr : meth.sig.returnType = ret) (hlocks : meth.locks = false) {pc : Nat} {H : Heap} {ls : Array Slot} (hdg : decode code pc = .ok (.ireturn, 1)) : W p l e room_1 s m #[Value.ref b] below meth c H [] 600000 7302250 (lw_Z below #[Value.ref b] s) (F0 m pc ls [.int 1]) := by
  intro T hT X
  obtain ⟨fs, hret, hrun, hended, hW, hframe⟩ := X.leave (v := some (.int 1)) (hlocks := hlocks) (fun h => by rw [hr] at h; cases h)
  have hmeth' : T.vm.method? m = some meth := X.method'
  refine ⟨T.setFrames fs, ?_, .returned (some (.int 1)), hrun, hended, rfl, ⟨_, rfl⟩, hW, hframe⟩
  jvm_step X.here [X.here.top, hx, hb, hdg, hmeth', hr, ret, narrow_b1]
  (try refine ⟨rfl, ?_⟩); (try refine ⟨rfl, ?_⟩)
  first | (intro acts; rw [hret _ acts rfl rfl rfl]) | rw [hret _ _ rfl rfl rfl]
  exact Steps.refl _
/-- what holds at the law's entry: the machine, the code, the tables' words (any of lw_tbl by 'hts w (by decide +kernel)'), the script of L ints xs at the cell b, what the Statement gives of the start (any of its parts by flat_of_before) -/
def lw_At (p : Program) (s : State) (m : MethodId) (meth : Method) (c : Code) (b L : Nat) (xs : Nat → Int32) : Prop :=
  p.tables.exec = Jvm.exec ∧ c.code = code ∧ meth.sig.returnType = ret ∧ c.maxLocals = 4 ∧ s.vm.findClass R_law = some m.cls ∧ (∀ w ∈ lw_tbl, w.before #[Value.ref b] s = true) ∧ va_X b L xs s s.heap ∧ b < s.heap.size ∧ meth.locks = false ∧ (Jvm.Cond.and given_1 narrow_1).before #[Value.ref b] s = true
end
section
theorem dX0_init_0 : decode cX0_init 0 = .ok (.aload_n 0, 1) := by decide +kernel
theorem dX0_init_1 : decode cX0_init 1 = .ok (.invokespecial 1, 3) := by decide +kernel
theorem dX0_init_4 : decode cX0_init 4 = .ok (.aload_n 0, 1) := by decide +kernel
theorem dX0_init_5 : decode cX0_init 5 = .ok (.aload_n 1, 1) := by decide +kernel
theorem dX0_init_6 : decode cX0_init 6 = .ok (.putfield 7, 3) := by decide +kernel
theorem dX0_init_9 : decode cX0_init 9 = .ok (.return_, 1) := by decide +kernel
theorem dX0_howMany_0 : decode cX0_howMany 0 = .ok (.getstatic 13, 3) := by decide +kernel
theorem dX0_howMany_3 : decode cX0_howMany 3 = .ok (.aload_n 0, 1) := by decide +kernel
theorem dX0_howMany_4 : decode cX0_howMany 4 = .ok (.getfield 7, 3) := by decide +kernel
theorem dX0_howMany_7 : decode cX0_howMany 7 = .ok (.getfield 19, 3) := by decide +kernel
theorem dX0_howMany_10 : decode cX0_howMany 10 = .ok (.iaload, 1) := by decide +kernel
theorem dX0_howMany_11 : decode cX0_howMany 11 = .ok (.ireturn, 1) := by decide +kernel
theorem dX0_ordersThatPart_0 : decode cX0_ordersThatPart 0 = .ok (.aload_n 0, 1) := by decide +kernel
theorem dX0_ordersThatPart_1 : decode cX0_ordersThatPart 1 = .ok (.iload_n 1, 1) := by decide +kernel
theorem dX0_ordersThatPart_2 : decode cX0_ordersThatPart 2 = .ok (.iload_n 3, 1) := by decide +kernel
theorem dX0_ordersThatPart_3 : decode cX0_ordersThatPart 3 = .ok (.invokevirtual 25, 3) := by decide +kernel
theorem dX0_ordersThatPart_6 : decode cX0_ordersThatPart 6 = .ok (.aload_n 0, 1) := by decide +kernel
theorem dX0_ordersThatPart_7 : decode cX0_ordersThatPart 7 = .ok (.iload_n 2, 1) := by decide +kernel
theorem dX0_ordersThatPart_8 : decode cX0_ordersThatPart 8 = .ok (.iload_n 3, 1) := by decide +kernel
theorem dX0_ordersThatPart_9 : decode cX0_ordersThatPart 9 = .ok (.invokevirtual 25, 3) := by decide +kernel
theorem dX0_ordersThatPart_12 : decode cX0_ordersThatPart 12 = .ok (.ior, 1) := by decide +kernel
theorem dX0_ordersThatPart_13 : decode cX0_ordersThatPart 13 = .ok (.invokestatic 29, 3) := by decide +kernel
theorem dX0_ordersThatPart_16 : decode cX0_ordersThatPart 16 = .ok (.istore 4, 2) := by decide +kernel
theorem dX0_ordersThatPart_18 : decode cX0_ordersThatPart 18 = .ok (.aload_n 0, 1) := by decide +kernel
theorem dX0_ordersThatPart_19 : decode cX0_ordersThatPart 19 = .ok (.iload_n 1, 1) := by decide +kernel
theorem dX0_ordersThatPart_20 : decode cX0_ordersThatPart 20 = .ok (.iload_n 3, 1) := by decide +kernel
theorem dX0_ordersThatPart_21 : decode cX0_ordersThatPart 21 = .ok (.invokevirtual 25, 3) := by decide +kernel
theorem dX0_ordersThatPart_24 : decode cX0_ordersThatPart 24 = .ok (.aload_n 0, 1) := by decide +kernel
theorem dX0_ordersThatPart_25 : decode cX0_ordersThatPart 25 = .ok (.iload_n 2, 1) := by decide +kernel
theorem dX0_ordersThatPart_26 : decode cX0_ordersThatPart 26 = .ok (.iload_n 3, 1) := by decide +kernel
theorem dX0_ordersThatPart_27 : decode cX0_ordersThatPart 27 = .ok (.invokevirtual 25, 3) := by decide +kernel
theorem dX0_ordersThatPart_30 : decode cX0_ordersThatPart 30 = .ok (.ixor, 1) := by decide +kernel
theorem dX0_ordersThatPart_31 : decode cX0_ordersThatPart 31 = .ok (.invokestatic 29, 3) := by decide +kernel
theorem dX0_ordersThatPart_34 : decode cX0_ordersThatPart 34 = .ok (.istore 5, 2) := by decide +kernel
theorem dX0_ordersThatPart_36 : decode cX0_ordersThatPart 36 = .ok (.iload 4, 2) := by decide +kernel
theorem dX0_ordersThatPart_38 : decode cX0_ordersThatPart 38 = .ok (.ifCond .le 16, 3) := by decide +kernel
theorem dX0_ordersThatPart_41 : decode cX0_ordersThatPart 41 = .ok (.aload_n 0, 1) := by decide +kernel
theorem dX0_ordersThatPart_42 : decode cX0_ordersThatPart 42 = .ok (.invokevirtual 35, 3) := by decide +kernel
theorem dX0_ordersThatPart_45 : decode cX0_ordersThatPart 45 = .ok (.iload 4, 2) := by decide +kernel
theorem dX0_ordersThatPart_47 : decode cX0_ordersThatPart 47 = .ok (.idiv, 1) := by decide +kernel
theorem dX0_ordersThatPart_48 : decode cX0_ordersThatPart 48 = .ok (.iload 5, 2) := by decide +kernel
theorem dX0_ordersThatPart_50 : decode cX0_ordersThatPart 50 = .ok (.imul, 1) := by decide +kernel
theorem dX0_ordersThatPart_51 : decode cX0_ordersThatPart 51 = .ok (.goto 4, 3) := by decide +kernel
theorem dX0_ordersThatPart_54 : decode cX0_ordersThatPart 54 = .ok (.iconst 0, 1) := by decide +kernel
theorem dX0_ordersThatPart_55 : decode cX0_ordersThatPart 55 = .ok (.ireturn, 1) := by decide +kernel
theorem dX0_reached_0 : decode cX0_reached 0 = .ok (.iconst 0, 1) := by decide +kernel
theorem dX0_reached_1 : decode cX0_reached 1 = .ok (.istore_n 3, 1) := by decide +kernel
theorem dX0_reached_2 : decode cX0_reached 2 = .ok (.iconst 0, 1) := by decide +kernel
theorem dX0_reached_3 : decode cX0_reached 3 = .ok (.istore 4, 2) := by decide +kernel
theorem dX0_reached_5 : decode cX0_reached 5 = .ok (.iload 4, 2) := by decide +kernel
theorem dX0_reached_7 : decode cX0_reached 7 = .ok (.aload_n 0, 1) := by decide +kernel
theorem dX0_reached_8 : decode cX0_reached 8 = .ok (.getfield 7, 3) := by decide +kernel
theorem dX0_reached_11 : decode cX0_reached 11 = .ok (.getfield 19, 3) := by decide +kernel
theorem dX0_reached_14 : decode cX0_reached 14 = .ok (.if_icmp .ge 32, 3) := by decide +kernel
theorem dX0_reached_17 : decode cX0_reached 17 = .ok (.aload_n 0, 1) := by decide +kernel
theorem dX0_reached_18 : decode cX0_reached 18 = .ok (.getfield 7, 3) := by decide +kernel
theorem dX0_reached_21 : decode cX0_reached 21 = .ok (.getfield 39, 3) := by decide +kernel
theorem dX0_reached_24 : decode cX0_reached 24 = .ok (.iload_n 1, 1) := by decide +kernel
theorem dX0_reached_25 : decode cX0_reached 25 = .ok (.aaload, 1) := by decide +kernel
theorem dX0_reached_26 : decode cX0_reached 26 = .ok (.iload 4, 2) := by decide +kernel
theorem dX0_reached_28 : decode cX0_reached 28 = .ok (.iaload, 1) := by decide +kernel
theorem dX0_reached_29 : decode cX0_reached 29 = .ok (.iload_n 2, 1) := by decide +kernel
theorem dX0_reached_30 : decode cX0_reached 30 = .ok (.if_icmp .gt 10, 3) := by decide +kernel
theorem dX0_reached_33 : decode cX0_reached 33 = .ok (.iload_n 3, 1) := by decide +kernel
theorem dX0_reached_34 : decode cX0_reached 34 = .ok (.iconst 1, 1) := by decide +kernel
theorem dX0_reached_35 : decode cX0_reached 35 = .ok (.iload 4, 2) := by decide +kernel
theorem dX0_reached_37 : decode cX0_reached 37 = .ok (.ishl, 1) := by decide +kernel
theorem dX0_reached_38 : decode cX0_reached 38 = .ok (.ior, 1) := by decide +kernel
theorem dX0_reached_39 : decode cX0_reached 39 = .ok (.istore_n 3, 1) := by decide +kernel
theorem dX0_reached_40 : decode cX0_reached 40 = .ok (.iinc 4 1, 3) := by decide +kernel
theorem dX0_reached_43 : decode cX0_reached 43 = .ok (.goto (-38), 3) := by decide +kernel
theorem dX0_reached_46 : decode cX0_reached 46 = .ok (.iload_n 3, 1) := by decide +kernel
theorem dX0_reached_47 : decode cX0_reached 47 = .ok (.ireturn, 1) := by decide +kernel
theorem dX0_firstWithin_0 : decode cX0_firstWithin 0 = .ok (.iconst 1, 1) := by decide +kernel
theorem dX0_firstWithin_1 : decode cX0_firstWithin 1 = .ok (.aload_n 0, 1) := by decide +kernel
theorem dX0_firstWithin_2 : decode cX0_firstWithin 2 = .ok (.getfield 7, 3) := by decide +kernel
theorem dX0_firstWithin_5 : decode cX0_firstWithin 5 = .ok (.getfield 19, 3) := by decide +kernel
theorem dX0_firstWithin_8 : decode cX0_firstWithin 8 = .ok (.ishl, 1) := by decide +kernel
theorem dX0_firstWithin_9 : decode cX0_firstWithin 9 = .ok (.iconst 1, 1) := by decide +kernel
theorem dX0_firstWithin_10 : decode cX0_firstWithin 10 = .ok (.isub, 1) := by decide +kernel
theorem dX0_firstWithin_11 : decode cX0_firstWithin 11 = .ok (.istore 4, 2) := by decide +kernel
theorem dX0_firstWithin_13 : decode cX0_firstWithin 13 = .ok (.iload_n 2, 1) := by decide +kernel
theorem dX0_firstWithin_14 : decode cX0_firstWithin 14 = .ok (.istore 5, 2) := by decide +kernel
theorem dX0_firstWithin_16 : decode cX0_firstWithin 16 = .ok (.aload_n 0, 1) := by decide +kernel
theorem dX0_firstWithin_17 : decode cX0_firstWithin 17 = .ok (.getfield 7, 3) := by decide +kernel
theorem dX0_firstWithin_20 : decode cX0_firstWithin 20 = .ok (.getfield 19, 3) := by decide +kernel
theorem dX0_firstWithin_23 : decode cX0_firstWithin 23 = .ok (.iconst 1, 1) := by decide +kernel
theorem dX0_firstWithin_24 : decode cX0_firstWithin 24 = .ok (.isub, 1) := by decide +kernel
theorem dX0_firstWithin_25 : decode cX0_firstWithin 25 = .ok (.istore 6, 2) := by decide +kernel
theorem dX0_firstWithin_27 : decode cX0_firstWithin 27 = .ok (.iload 6, 2) := by decide +kernel
theorem dX0_firstWithin_29 : decode cX0_firstWithin 29 = .ok (.ifCond .lt 67, 3) := by decide +kernel
theorem dX0_firstWithin_32 : decode cX0_firstWithin 32 = .ok (.aload_n 0, 1) := by decide +kernel
theorem dX0_firstWithin_33 : decode cX0_firstWithin 33 = .ok (.iload 4, 2) := by decide +kernel
theorem dX0_firstWithin_35 : decode cX0_firstWithin 35 = .ok (.iload 5, 2) := by decide +kernel
theorem dX0_firstWithin_37 : decode cX0_firstWithin 37 = .ok (.getstatic 13, 3) := by decide +kernel
theorem dX0_firstWithin_40 : decode cX0_firstWithin 40 = .ok (.iload 6, 2) := by decide +kernel
theorem dX0_firstWithin_42 : decode cX0_firstWithin 42 = .ok (.iaload, 1) := by decide +kernel
theorem dX0_firstWithin_43 : decode cX0_firstWithin 43 = .ok (.idiv, 1) := by decide +kernel
theorem dX0_firstWithin_44 : decode cX0_firstWithin 44 = .ok (.invokevirtual 43, 3) := by decide +kernel
theorem dX0_firstWithin_47 : decode cX0_firstWithin 47 = .ok (.istore 7, 2) := by decide +kernel
theorem dX0_firstWithin_49 : decode cX0_firstWithin 49 = .ok (.aload_n 0, 1) := by decide +kernel
theorem dX0_firstWithin_50 : decode cX0_firstWithin 50 = .ok (.getfield 7, 3) := by decide +kernel
theorem dX0_firstWithin_53 : decode cX0_firstWithin 53 = .ok (.getfield 39, 3) := by decide +kernel
theorem dX0_firstWithin_56 : decode cX0_firstWithin 56 = .ok (.iload_n 1, 1) := by decide +kernel
theorem dX0_firstWithin_57 : decode cX0_firstWithin 57 = .ok (.aaload, 1) := by decide +kernel
theorem dX0_firstWithin_58 : decode cX0_firstWithin 58 = .ok (.iload 7, 2) := by decide +kernel
theorem dX0_firstWithin_60 : decode cX0_firstWithin 60 = .ok (.iaload, 1) := by decide +kernel
theorem dX0_firstWithin_61 : decode cX0_firstWithin 61 = .ok (.iload_n 3, 1) := by decide +kernel
theorem dX0_firstWithin_62 : decode cX0_firstWithin 62 = .ok (.if_icmp .gt 6, 3) := by decide +kernel
theorem dX0_firstWithin_65 : decode cX0_firstWithin 65 = .ok (.iload 7, 2) := by decide +kernel
theorem dX0_firstWithin_67 : decode cX0_firstWithin 67 = .ok (.ireturn, 1) := by decide +kernel
theorem dX0_firstWithin_68 : decode cX0_firstWithin 68 = .ok (.iload 4, 2) := by decide +kernel
theorem dX0_firstWithin_70 : decode cX0_firstWithin 70 = .ok (.iconst 1, 1) := by decide +kernel
theorem dX0_firstWithin_71 : decode cX0_firstWithin 71 = .ok (.iload 7, 2) := by decide +kernel
theorem dX0_firstWithin_73 : decode cX0_firstWithin 73 = .ok (.ishl, 1) := by decide +kernel
theorem dX0_firstWithin_74 : decode cX0_firstWithin 74 = .ok (.iconst (-1), 1) := by decide +kernel
theorem dX0_firstWithin_75 : decode cX0_firstWithin 75 = .ok (.ixor, 1) := by decide +kernel
theorem dX0_firstWithin_76 : decode cX0_firstWithin 76 = .ok (.iand, 1) := by decide +kernel
theorem dX0_firstWithin_77 : decode cX0_firstWithin 77 = .ok (.istore 4, 2) := by decide +kernel
theorem dX0_firstWithin_79 : decode cX0_firstWithin 79 = .ok (.iload 5, 2) := by decide +kernel
theorem dX0_firstWithin_81 : decode cX0_firstWithin 81 = .ok (.getstatic 13, 3) := by decide +kernel
theorem dX0_firstWithin_84 : decode cX0_firstWithin 84 = .ok (.iload 6, 2) := by decide +kernel
theorem dX0_firstWithin_86 : decode cX0_firstWithin 86 = .ok (.iaload, 1) := by decide +kernel
theorem dX0_firstWithin_87 : decode cX0_firstWithin 87 = .ok (.irem, 1) := by decide +kernel
theorem dX0_firstWithin_88 : decode cX0_firstWithin 88 = .ok (.istore 5, 2) := by decide +kernel
theorem dX0_firstWithin_90 : decode cX0_firstWithin 90 = .ok (.iinc 6 (-1), 3) := by decide +kernel
theorem dX0_firstWithin_93 : decode cX0_firstWithin 93 = .ok (.goto (-66), 3) := by decide +kernel
theorem dX0_firstWithin_96 : decode cX0_firstWithin 96 = .ok (.iload_n 1, 1) := by decide +kernel
theorem dX0_firstWithin_97 : decode cX0_firstWithin 97 = .ok (.ireturn, 1) := by decide +kernel
theorem dX0_undealtAt_0 : decode cX0_undealtAt 0 = .ok (.iload_n 2, 1) := by decide +kernel
theorem dX0_undealtAt_1 : decode cX0_undealtAt 1 = .ok (.istore_n 3, 1) := by decide +kernel
theorem dX0_undealtAt_2 : decode cX0_undealtAt 2 = .ok (.iconst 0, 1) := by decide +kernel
theorem dX0_undealtAt_3 : decode cX0_undealtAt 3 = .ok (.istore 4, 2) := by decide +kernel
theorem dX0_undealtAt_5 : decode cX0_undealtAt 5 = .ok (.iload 4, 2) := by decide +kernel
theorem dX0_undealtAt_7 : decode cX0_undealtAt 7 = .ok (.aload_n 0, 1) := by decide +kernel
theorem dX0_undealtAt_8 : decode cX0_undealtAt 8 = .ok (.getfield 7, 3) := by decide +kernel
theorem dX0_undealtAt_11 : decode cX0_undealtAt 11 = .ok (.getfield 19, 3) := by decide +kernel
theorem dX0_undealtAt_14 : decode cX0_undealtAt 14 = .ok (.if_icmp .ge 29, 3) := by decide +kernel
theorem dX0_undealtAt_17 : decode cX0_undealtAt 17 = .ok (.iload_n 1, 1) := by decide +kernel
theorem dX0_undealtAt_18 : decode cX0_undealtAt 18 = .ok (.iload 4, 2) := by decide +kernel
theorem dX0_undealtAt_20 : decode cX0_undealtAt 20 = .ok (.ishr, 1) := by decide +kernel
theorem dX0_undealtAt_21 : decode cX0_undealtAt 21 = .ok (.iconst 1, 1) := by decide +kernel
theorem dX0_undealtAt_22 : decode cX0_undealtAt 22 = .ok (.iand, 1) := by decide +kernel
theorem dX0_undealtAt_23 : decode cX0_undealtAt 23 = .ok (.iconst 1, 1) := by decide +kernel
theorem dX0_undealtAt_24 : decode cX0_undealtAt 24 = .ok (.if_icmp .ne 13, 3) := by decide +kernel
theorem dX0_undealtAt_27 : decode cX0_undealtAt 27 = .ok (.iload_n 3, 1) := by decide +kernel
theorem dX0_undealtAt_28 : decode cX0_undealtAt 28 = .ok (.ifCond .ne 6, 3) := by decide +kernel
theorem dX0_undealtAt_31 : decode cX0_undealtAt 31 = .ok (.iload 4, 2) := by decide +kernel
theorem dX0_undealtAt_33 : decode cX0_undealtAt 33 = .ok (.ireturn, 1) := by decide +kernel
theorem dX0_undealtAt_34 : decode cX0_undealtAt 34 = .ok (.iinc 3 (-1), 3) := by decide +kernel
theorem dX0_undealtAt_37 : decode cX0_undealtAt 37 = .ok (.iinc 4 1, 3) := by decide +kernel
theorem dX0_undealtAt_40 : decode cX0_undealtAt 40 = .ok (.goto (-35), 3) := by decide +kernel
theorem dX0_undealtAt_43 : decode cX0_undealtAt 43 = .ok (.iconst 0, 1) := by decide +kernel
theorem dX0_undealtAt_44 : decode cX0_undealtAt 44 = .ok (.ireturn, 1) := by decide +kernel
theorem dX1_init_0 : decode cX1_init 0 = .ok (.aload_n 0, 1) := by decide +kernel
theorem dX1_init_1 : decode cX1_init 1 = .ok (.invokespecial 3, 3) := by decide +kernel
theorem dX1_init_4 : decode cX1_init 4 = .ok (.aload_n 0, 1) := by decide +kernel
theorem dX1_init_5 : decode cX1_init 5 = .ok (.bipush 6, 2) := by decide +kernel
theorem dX1_init_7 : decode cX1_init 7 = .ok (.newarray .int, 2) := by decide +kernel
theorem dX1_init_9 : decode cX1_init 9 = .ok (.putfield 9, 3) := by decide +kernel
theorem dX1_init_12 : decode cX1_init 12 = .ok (.aload_n 0, 1) := by decide +kernel
theorem dX1_init_13 : decode cX1_init 13 = .ok (.bipush 6, 2) := by decide +kernel
theorem dX1_init_15 : decode cX1_init 15 = .ok (.newarray .int, 2) := by decide +kernel
theorem dX1_init_17 : decode cX1_init 17 = .ok (.putfield 15, 3) := by decide +kernel
theorem dX1_init_20 : decode cX1_init 20 = .ok (.aload_n 0, 1) := by decide +kernel
theorem dX1_init_21 : decode cX1_init 21 = .ok (.bipush 6, 2) := by decide +kernel
theorem dX1_init_23 : decode cX1_init 23 = .ok (.newarray .int, 2) := by decide +kernel
theorem dX1_init_25 : decode cX1_init 25 = .ok (.putfield 18, 3) := by decide +kernel
theorem dX1_init_28 : decode cX1_init 28 = .ok (.aload_n 0, 1) := by decide +kernel
theorem dX1_init_29 : decode cX1_init 29 = .ok (.bipush 6, 2) := by decide +kernel
theorem dX1_init_31 : decode cX1_init 31 = .ok (.bipush 6, 2) := by decide +kernel
theorem dX1_init_33 : decode cX1_init 33 = .ok (.multianewarray 21 2, 4) := by decide +kernel
theorem dX1_init_37 : decode cX1_init 37 = .ok (.putfield 23, 3) := by decide +kernel
theorem dX1_init_40 : decode cX1_init 40 = .ok (.aload_n 0, 1) := by decide +kernel
theorem dX1_init_41 : decode cX1_init 41 = .ok (.iconst 1, 1) := by decide +kernel
theorem dX1_init_42 : decode cX1_init 42 = .ok (.putfield 26, 3) := by decide +kernel
theorem dX1_init_45 : decode cX1_init 45 = .ok (.aload_n 0, 1) := by decide +kernel
theorem dX1_init_46 : decode cX1_init 46 = .ok (.iconst 1, 1) := by decide +kernel
theorem dX1_init_47 : decode cX1_init 47 = .ok (.putfield 30, 3) := by decide +kernel
theorem dX1_init_50 : decode cX1_init 50 = .ok (.aload_n 0, 1) := by decide +kernel
theorem dX1_init_51 : decode cX1_init 51 = .ok (.aload_n 1, 1) := by decide +kernel
theorem dX1_init_52 : decode cX1_init 52 = .ok (.putfield 33, 3) := by decide +kernel
theorem dX1_init_55 : decode cX1_init 55 = .ok (.return_, 1) := by decide +kernel
theorem dX1_howMany_0 : decode cX1_howMany 0 = .ok (.iconst 1, 1) := by decide +kernel
theorem dX1_howMany_1 : decode cX1_howMany 1 = .ok (.istore_n 1, 1) := by decide +kernel
theorem dX1_howMany_2 : decode cX1_howMany 2 = .ok (.iconst 0, 1) := by decide +kernel
theorem dX1_howMany_3 : decode cX1_howMany 3 = .ok (.istore_n 2, 1) := by decide +kernel
theorem dX1_howMany_4 : decode cX1_howMany 4 = .ok (.iload_n 2, 1) := by decide +kernel
theorem dX1_howMany_5 : decode cX1_howMany 5 = .ok (.aload_n 0, 1) := by decide +kernel
theorem dX1_howMany_6 : decode cX1_howMany 6 = .ok (.getfield 33, 3) := by decide +kernel
theorem dX1_howMany_9 : decode cX1_howMany 9 = .ok (.getfield 37, 3) := by decide +kernel
theorem dX1_howMany_12 : decode cX1_howMany 12 = .ok (.iconst 2, 1) := by decide +kernel
theorem dX1_howMany_13 : decode cX1_howMany 13 = .ok (.isub, 1) := by decide +kernel
theorem dX1_howMany_14 : decode cX1_howMany 14 = .ok (.if_icmp .ge 19, 3) := by decide +kernel
theorem dX1_howMany_17 : decode cX1_howMany 17 = .ok (.iload_n 1, 1) := by decide +kernel
theorem dX1_howMany_18 : decode cX1_howMany 18 = .ok (.aload_n 0, 1) := by decide +kernel
theorem dX1_howMany_19 : decode cX1_howMany 19 = .ok (.getfield 33, 3) := by decide +kernel
theorem dX1_howMany_22 : decode cX1_howMany 22 = .ok (.getfield 37, 3) := by decide +kernel
theorem dX1_howMany_25 : decode cX1_howMany 25 = .ok (.imul, 1) := by decide +kernel
theorem dX1_howMany_26 : decode cX1_howMany 26 = .ok (.istore_n 1, 1) := by decide +kernel
theorem dX1_howMany_27 : decode cX1_howMany 27 = .ok (.iinc 2 1, 3) := by decide +kernel
theorem dX1_howMany_30 : decode cX1_howMany 30 = .ok (.goto (-26), 3) := by decide +kernel
theorem dX1_howMany_33 : decode cX1_howMany 33 = .ok (.iload_n 1, 1) := by decide +kernel
theorem dX1_howMany_34 : decode cX1_howMany 34 = .ok (.ireturn, 1) := by decide +kernel
theorem dX1_read_0 : decode cX1_read 0 = .ok (.aload_n 0, 1) := by decide +kernel
theorem dX1_read_1 : decode cX1_read 1 = .ok (.getfield 33, 3) := by decide +kernel
theorem dX1_read_4 : decode cX1_read 4 = .ok (.getfield 37, 3) := by decide +kernel
theorem dX1_read_7 : decode cX1_read 7 = .ok (.iconst 2, 1) := by decide +kernel
theorem dX1_read_8 : decode cX1_read 8 = .ok (.isub, 1) := by decide +kernel
theorem dX1_read_9 : decode cX1_read 9 = .ok (.istore_n 2, 1) := by decide +kernel
theorem dX1_read_10 : decode cX1_read 10 = .ok (.aload_n 0, 1) := by decide +kernel
theorem dX1_read_11 : decode cX1_read 11 = .ok (.iload_n 1, 1) := by decide +kernel
theorem dX1_read_12 : decode cX1_read 12 = .ok (.invokevirtual 42, 3) := by decide +kernel
theorem dX1_read_15 : decode cX1_read 15 = .ok (.iconst 0, 1) := by decide +kernel
theorem dX1_read_16 : decode cX1_read 16 = .ok (.istore_n 3, 1) := by decide +kernel
theorem dX1_read_17 : decode cX1_read 17 = .ok (.iload_n 3, 1) := by decide +kernel
theorem dX1_read_18 : decode cX1_read 18 = .ok (.iload_n 2, 1) := by decide +kernel
theorem dX1_read_19 : decode cX1_read 19 = .ok (.if_icmp .ge 34, 3) := by decide +kernel
theorem dX1_read_22 : decode cX1_read 22 = .ok (.aload_n 0, 1) := by decide +kernel
theorem dX1_read_23 : decode cX1_read 23 = .ok (.getfield 9, 3) := by decide +kernel
theorem dX1_read_26 : decode cX1_read 26 = .ok (.iload_n 3, 1) := by decide +kernel
theorem dX1_read_27 : decode cX1_read 27 = .ok (.aload_n 0, 1) := by decide +kernel
theorem dX1_read_28 : decode cX1_read 28 = .ok (.invokevirtual 46, 3) := by decide +kernel
theorem dX1_read_31 : decode cX1_read 31 = .ok (.iastore, 1) := by decide +kernel
theorem dX1_read_32 : decode cX1_read 32 = .ok (.aload_n 0, 1) := by decide +kernel
theorem dX1_read_33 : decode cX1_read 33 = .ok (.getfield 18, 3) := by decide +kernel
theorem dX1_read_36 : decode cX1_read 36 = .ok (.aload_n 0, 1) := by decide +kernel
theorem dX1_read_37 : decode cX1_read 37 = .ok (.getfield 15, 3) := by decide +kernel
theorem dX1_read_40 : decode cX1_read 40 = .ok (.iload_n 3, 1) := by decide +kernel
theorem dX1_read_41 : decode cX1_read 41 = .ok (.iaload, 1) := by decide +kernel
theorem dX1_read_42 : decode cX1_read 42 = .ok (.dup2, 1) := by decide +kernel
theorem dX1_read_43 : decode cX1_read 43 = .ok (.iaload, 1) := by decide +kernel
theorem dX1_read_44 : decode cX1_read 44 = .ok (.iconst 1, 1) := by decide +kernel
theorem dX1_read_45 : decode cX1_read 45 = .ok (.isub, 1) := by decide +kernel
theorem dX1_read_46 : decode cX1_read 46 = .ok (.iastore, 1) := by decide +kernel
theorem dX1_read_47 : decode cX1_read 47 = .ok (.iinc 3 1, 3) := by decide +kernel
theorem dX1_read_50 : decode cX1_read 50 = .ok (.goto (-33), 3) := by decide +kernel
theorem dX1_read_53 : decode cX1_read 53 = .ok (.aload_n 0, 1) := by decide +kernel
theorem dX1_read_54 : decode cX1_read 54 = .ok (.getfield 9, 3) := by decide +kernel
theorem dX1_read_57 : decode cX1_read 57 = .ok (.iload_n 2, 1) := by decide +kernel
theorem dX1_read_58 : decode cX1_read 58 = .ok (.aload_n 0, 1) := by decide +kernel
theorem dX1_read_59 : decode cX1_read 59 = .ok (.invokevirtual 46, 3) := by decide +kernel
theorem dX1_read_62 : decode cX1_read 62 = .ok (.iastore, 1) := by decide +kernel
theorem dX1_read_63 : decode cX1_read 63 = .ok (.aload_n 0, 1) := by decide +kernel
theorem dX1_read_64 : decode cX1_read 64 = .ok (.getfield 15, 3) := by decide +kernel
theorem dX1_read_67 : decode cX1_read 67 = .ok (.iload_n 2, 1) := by decide +kernel
theorem dX1_read_68 : decode cX1_read 68 = .ok (.aload_n 0, 1) := by decide +kernel
theorem dX1_read_69 : decode cX1_read 69 = .ok (.invokevirtual 46, 3) := by decide +kernel
theorem dX1_read_72 : decode cX1_read 72 = .ok (.iastore, 1) := by decide +kernel
theorem dX1_read_73 : decode cX1_read 73 = .ok (.return_, 1) := by decide +kernel
theorem dX1_readFigures_0 : decode cX1_readFigures 0 = .ok (.aload_n 0, 1) := by decide +kernel
theorem dX1_readFigures_1 : decode cX1_readFigures 1 = .ok (.getfield 18, 3) := by decide +kernel
theorem dX1_readFigures_4 : decode cX1_readFigures 4 = .ok (.iconst 1, 1) := by decide +kernel
theorem dX1_readFigures_5 : decode cX1_readFigures 5 = .ok (.invokestatic 50, 3) := by decide +kernel
theorem dX1_readFigures_8 : decode cX1_readFigures 8 = .ok (.iload_n 1, 1) := by decide +kernel
theorem dX1_readFigures_9 : decode cX1_readFigures 9 = .ok (.istore_n 2, 1) := by decide +kernel
theorem dX1_readFigures_10 : decode cX1_readFigures 10 = .ok (.aload_n 0, 1) := by decide +kernel
theorem dX1_readFigures_11 : decode cX1_readFigures 11 = .ok (.getfield 33, 3) := by decide +kernel
theorem dX1_readFigures_14 : decode cX1_readFigures 14 = .ok (.getfield 37, 3) := by decide +kernel
theorem dX1_readFigures_17 : decode cX1_readFigures 17 = .ok (.iconst 3, 1) := by decide +kernel
theorem dX1_readFigures_18 : decode cX1_readFigures 18 = .ok (.isub, 1) := by decide +kernel
theorem dX1_readFigures_19 : decode cX1_readFigures 19 = .ok (.istore_n 3, 1) := by decide +kernel
theorem dX1_readFigures_20 : decode cX1_readFigures 20 = .ok (.iload_n 3, 1) := by decide +kernel
theorem dX1_readFigures_21 : decode cX1_readFigures 21 = .ok (.ifCond .lt 49, 3) := by decide +kernel
theorem dX1_readFigures_24 : decode cX1_readFigures 24 = .ok (.aload_n 0, 1) := by decide +kernel
theorem dX1_readFigures_25 : decode cX1_readFigures 25 = .ok (.getfield 15, 3) := by decide +kernel
theorem dX1_readFigures_28 : decode cX1_readFigures 28 = .ok (.iload_n 3, 1) := by decide +kernel
theorem dX1_readFigures_29 : decode cX1_readFigures 29 = .ok (.iload_n 2, 1) := by decide +kernel
theorem dX1_readFigures_30 : decode cX1_readFigures 30 = .ok (.aload_n 0, 1) := by decide +kernel
theorem dX1_readFigures_31 : decode cX1_readFigures 31 = .ok (.getfield 33, 3) := by decide +kernel
theorem dX1_readFigures_34 : decode cX1_readFigures 34 = .ok (.getfield 37, 3) := by decide +kernel
theorem dX1_readFigures_37 : decode cX1_readFigures 37 = .ok (.irem, 1) := by decide +kernel
theorem dX1_readFigures_38 : decode cX1_readFigures 38 = .ok (.iastore, 1) := by decide +kernel
theorem dX1_readFigures_39 : decode cX1_readFigures 39 = .ok (.iload_n 2, 1) := by decide +kernel
theorem dX1_readFigures_40 : decode cX1_readFigures 40 = .ok (.aload_n 0, 1) := by decide +kernel
theorem dX1_readFigures_41 : decode cX1_readFigures 41 = .ok (.getfield 33, 3) := by decide +kernel
theorem dX1_readFigures_44 : decode cX1_readFigures 44 = .ok (.getfield 37, 3) := by decide +kernel
theorem dX1_readFigures_47 : decode cX1_readFigures 47 = .ok (.idiv, 1) := by decide +kernel
theorem dX1_readFigures_48 : decode cX1_readFigures 48 = .ok (.istore_n 2, 1) := by decide +kernel
theorem dX1_readFigures_49 : decode cX1_readFigures 49 = .ok (.aload_n 0, 1) := by decide +kernel
theorem dX1_readFigures_50 : decode cX1_readFigures 50 = .ok (.getfield 18, 3) := by decide +kernel
theorem dX1_readFigures_53 : decode cX1_readFigures 53 = .ok (.aload_n 0, 1) := by decide +kernel
theorem dX1_readFigures_54 : decode cX1_readFigures 54 = .ok (.getfield 15, 3) := by decide +kernel
theorem dX1_readFigures_57 : decode cX1_readFigures 57 = .ok (.iload_n 3, 1) := by decide +kernel
theorem dX1_readFigures_58 : decode cX1_readFigures 58 = .ok (.iaload, 1) := by decide +kernel
theorem dX1_readFigures_59 : decode cX1_readFigures 59 = .ok (.dup2, 1) := by decide +kernel
theorem dX1_readFigures_60 : decode cX1_readFigures 60 = .ok (.iaload, 1) := by decide +kernel
theorem dX1_readFigures_61 : decode cX1_readFigures 61 = .ok (.iconst 1, 1) := by decide +kernel
theorem dX1_readFigures_62 : decode cX1_readFigures 62 = .ok (.iadd, 1) := by decide +kernel
theorem dX1_readFigures_63 : decode cX1_readFigures 63 = .ok (.iastore, 1) := by decide +kernel
theorem dX1_readFigures_64 : decode cX1_readFigures 64 = .ok (.iinc 3 (-1), 3) := by decide +kernel
theorem dX1_readFigures_67 : decode cX1_readFigures 67 = .ok (.goto (-47), 3) := by decide +kernel
theorem dX1_readFigures_70 : decode cX1_readFigures 70 = .ok (.return_, 1) := by decide +kernel
theorem dX1_takeLeast_0 : decode cX1_takeLeast 0 = .ok (.iconst 0, 1) := by decide +kernel
theorem dX1_takeLeast_1 : decode cX1_takeLeast 1 = .ok (.istore_n 1, 1) := by decide +kernel
theorem dX1_takeLeast_2 : decode cX1_takeLeast 2 = .ok (.iload_n 1, 1) := by decide +kernel
theorem dX1_takeLeast_3 : decode cX1_takeLeast 3 = .ok (.aload_n 0, 1) := by decide +kernel
theorem dX1_takeLeast_4 : decode cX1_takeLeast 4 = .ok (.getfield 33, 3) := by decide +kernel
theorem dX1_takeLeast_7 : decode cX1_takeLeast 7 = .ok (.getfield 37, 3) := by decide +kernel
theorem dX1_takeLeast_10 : decode cX1_takeLeast 10 = .ok (.iconst 1, 1) := by decide +kernel
theorem dX1_takeLeast_11 : decode cX1_takeLeast 11 = .ok (.isub, 1) := by decide +kernel
theorem dX1_takeLeast_12 : decode cX1_takeLeast 12 = .ok (.if_icmp .ge 19, 3) := by decide +kernel
theorem dX1_takeLeast_15 : decode cX1_takeLeast 15 = .ok (.aload_n 0, 1) := by decide +kernel
theorem dX1_takeLeast_16 : decode cX1_takeLeast 16 = .ok (.getfield 18, 3) := by decide +kernel
theorem dX1_takeLeast_19 : decode cX1_takeLeast 19 = .ok (.iload_n 1, 1) := by decide +kernel
theorem dX1_takeLeast_20 : decode cX1_takeLeast 20 = .ok (.iaload, 1) := by decide +kernel
theorem dX1_takeLeast_21 : decode cX1_takeLeast 21 = .ok (.iconst 1, 1) := by decide +kernel
theorem dX1_takeLeast_22 : decode cX1_takeLeast 22 = .ok (.if_icmp .eq 9, 3) := by decide +kernel
theorem dX1_takeLeast_25 : decode cX1_takeLeast 25 = .ok (.iinc 1 1, 3) := by decide +kernel
theorem dX1_takeLeast_28 : decode cX1_takeLeast 28 = .ok (.goto (-26), 3) := by decide +kernel
theorem dX1_takeLeast_31 : decode cX1_takeLeast 31 = .ok (.aload_n 0, 1) := by decide +kernel
theorem dX1_takeLeast_32 : decode cX1_takeLeast 32 = .ok (.getfield 18, 3) := by decide +kernel
theorem dX1_takeLeast_35 : decode cX1_takeLeast 35 = .ok (.iload_n 1, 1) := by decide +kernel
theorem dX1_takeLeast_36 : decode cX1_takeLeast 36 = .ok (.iconst 0, 1) := by decide +kernel
theorem dX1_takeLeast_37 : decode cX1_takeLeast 37 = .ok (.iastore, 1) := by decide +kernel
theorem dX1_takeLeast_38 : decode cX1_takeLeast 38 = .ok (.iload_n 1, 1) := by decide +kernel
theorem dX1_takeLeast_39 : decode cX1_takeLeast 39 = .ok (.ireturn, 1) := by decide +kernel
theorem dX1_joins_0 : decode cX1_joins 0 = .ok (.iconst 0, 1) := by decide +kernel
theorem dX1_joins_1 : decode cX1_joins 1 = .ok (.istore_n 3, 1) := by decide +kernel
theorem dX1_joins_2 : decode cX1_joins 2 = .ok (.iconst 0, 1) := by decide +kernel
theorem dX1_joins_3 : decode cX1_joins 3 = .ok (.istore 4, 2) := by decide +kernel
theorem dX1_joins_5 : decode cX1_joins 5 = .ok (.iload 4, 2) := by decide +kernel
theorem dX1_joins_7 : decode cX1_joins 7 = .ok (.aload_n 0, 1) := by decide +kernel
theorem dX1_joins_8 : decode cX1_joins 8 = .ok (.getfield 33, 3) := by decide +kernel
theorem dX1_joins_11 : decode cX1_joins 11 = .ok (.getfield 37, 3) := by decide +kernel
theorem dX1_joins_14 : decode cX1_joins 14 = .ok (.iconst 1, 1) := by decide +kernel
theorem dX1_joins_15 : decode cX1_joins 15 = .ok (.isub, 1) := by decide +kernel
theorem dX1_joins_16 : decode cX1_joins 16 = .ok (.if_icmp .ge 63, 3) := by decide +kernel
theorem dX1_joins_19 : decode cX1_joins 19 = .ok (.iload_n 3, 1) := by decide +kernel
theorem dX1_joins_20 : decode cX1_joins 20 = .ok (.ifCond .ne 47, 3) := by decide +kernel
theorem dX1_joins_23 : decode cX1_joins 23 = .ok (.aload_n 0, 1) := by decide +kernel
theorem dX1_joins_24 : decode cX1_joins 24 = .ok (.getfield 9, 3) := by decide +kernel
theorem dX1_joins_27 : decode cX1_joins 27 = .ok (.iload 4, 2) := by decide +kernel
theorem dX1_joins_29 : decode cX1_joins 29 = .ok (.iaload, 1) := by decide +kernel
theorem dX1_joins_30 : decode cX1_joins 30 = .ok (.iload_n 1, 1) := by decide +kernel
theorem dX1_joins_31 : decode cX1_joins 31 = .ok (.if_icmp .ne 14, 3) := by decide +kernel
theorem dX1_joins_34 : decode cX1_joins 34 = .ok (.aload_n 0, 1) := by decide +kernel
theorem dX1_joins_35 : decode cX1_joins 35 = .ok (.getfield 15, 3) := by decide +kernel
theorem dX1_joins_38 : decode cX1_joins 38 = .ok (.iload 4, 2) := by decide +kernel
theorem dX1_joins_40 : decode cX1_joins 40 = .ok (.iaload, 1) := by decide +kernel
theorem dX1_joins_41 : decode cX1_joins 41 = .ok (.iload_n 2, 1) := by decide +kernel
theorem dX1_joins_42 : decode cX1_joins 42 = .ok (.if_icmp .eq 25, 3) := by decide +kernel
theorem dX1_joins_45 : decode cX1_joins 45 = .ok (.aload_n 0, 1) := by decide +kernel
theorem dX1_joins_46 : decode cX1_joins 46 = .ok (.getfield 9, 3) := by decide +kernel
theorem dX1_joins_49 : decode cX1_joins 49 = .ok (.iload 4, 2) := by decide +kernel
theorem dX1_joins_51 : decode cX1_joins 51 = .ok (.iaload, 1) := by decide +kernel
theorem dX1_joins_52 : decode cX1_joins 52 = .ok (.iload_n 2, 1) := by decide +kernel
theorem dX1_joins_53 : decode cX1_joins 53 = .ok (.if_icmp .ne 18, 3) := by decide +kernel
theorem dX1_joins_56 : decode cX1_joins 56 = .ok (.aload_n 0, 1) := by decide +kernel
theorem dX1_joins_57 : decode cX1_joins 57 = .ok (.getfield 15, 3) := by decide +kernel
theorem dX1_joins_60 : decode cX1_joins 60 = .ok (.iload 4, 2) := by decide +kernel
theorem dX1_joins_62 : decode cX1_joins 62 = .ok (.iaload, 1) := by decide +kernel
theorem dX1_joins_63 : decode cX1_joins 63 = .ok (.iload_n 1, 1) := by decide +kernel
theorem dX1_joins_64 : decode cX1_joins 64 = .ok (.if_icmp .ne 7, 3) := by decide +kernel
theorem dX1_joins_67 : decode cX1_joins 67 = .ok (.iconst 1, 1) := by decide +kernel
theorem dX1_joins_68 : decode cX1_joins 68 = .ok (.goto 4, 3) := by decide +kernel
theorem dX1_joins_71 : decode cX1_joins 71 = .ok (.iconst 0, 1) := by decide +kernel
theorem dX1_joins_72 : decode cX1_joins 72 = .ok (.istore_n 3, 1) := by decide +kernel
theorem dX1_joins_73 : decode cX1_joins 73 = .ok (.iinc 4 1, 3) := by decide +kernel
theorem dX1_joins_76 : decode cX1_joins 76 = .ok (.goto (-71), 3) := by decide +kernel
theorem dX1_joins_79 : decode cX1_joins 79 = .ok (.iload_n 3, 1) := by decide +kernel
theorem dX1_joins_80 : decode cX1_joins 80 = .ok (.ireturn, 1) := by decide +kernel
theorem dX1_lay_0 : decode cX1_lay 0 = .ok (.aload_n 0, 1) := by decide +kernel
theorem dX1_lay_1 : decode cX1_lay 1 = .ok (.iload_n 1, 1) := by decide +kernel
theorem dX1_lay_2 : decode cX1_lay 2 = .ok (.invokevirtual 56, 3) := by decide +kernel
theorem dX1_lay_5 : decode cX1_lay 5 = .ok (.aload_n 0, 1) := by decide +kernel
theorem dX1_lay_6 : decode cX1_lay 6 = .ok (.getfield 33, 3) := by decide +kernel
theorem dX1_lay_9 : decode cX1_lay 9 = .ok (.getfield 37, 3) := by decide +kernel
theorem dX1_lay_12 : decode cX1_lay 12 = .ok (.iconst 2, 1) := by decide +kernel
theorem dX1_lay_13 : decode cX1_lay 13 = .ok (.isub, 1) := by decide +kernel
theorem dX1_lay_14 : decode cX1_lay 14 = .ok (.istore_n 2, 1) := by decide +kernel
theorem dX1_lay_15 : decode cX1_lay 15 = .ok (.aload_n 0, 1) := by decide +kernel
theorem dX1_lay_16 : decode cX1_lay 16 = .ok (.getfield 23, 3) := by decide +kernel
theorem dX1_lay_19 : decode cX1_lay 19 = .ok (.aload_n 0, 1) := by decide +kernel
theorem dX1_lay_20 : decode cX1_lay 20 = .ok (.getfield 15, 3) := by decide +kernel
theorem dX1_lay_23 : decode cX1_lay 23 = .ok (.iload_n 2, 1) := by decide +kernel
theorem dX1_lay_24 : decode cX1_lay 24 = .ok (.iaload, 1) := by decide +kernel
theorem dX1_lay_25 : decode cX1_lay 25 = .ok (.aaload, 1) := by decide +kernel
theorem dX1_lay_26 : decode cX1_lay 26 = .ok (.aload_n 0, 1) := by decide +kernel
theorem dX1_lay_27 : decode cX1_lay 27 = .ok (.getfield 15, 3) := by decide +kernel
theorem dX1_lay_30 : decode cX1_lay 30 = .ok (.iload_n 2, 1) := by decide +kernel
theorem dX1_lay_31 : decode cX1_lay 31 = .ok (.iaload, 1) := by decide +kernel
theorem dX1_lay_32 : decode cX1_lay 32 = .ok (.iconst 0, 1) := by decide +kernel
theorem dX1_lay_33 : decode cX1_lay 33 = .ok (.iastore, 1) := by decide +kernel
theorem dX1_lay_34 : decode cX1_lay 34 = .ok (.iload_n 2, 1) := by decide +kernel
theorem dX1_lay_35 : decode cX1_lay 35 = .ok (.istore_n 3, 1) := by decide +kernel
theorem dX1_lay_36 : decode cX1_lay 36 = .ok (.iload_n 3, 1) := by decide +kernel
theorem dX1_lay_37 : decode cX1_lay 37 = .ok (.ifCond .lt 68, 3) := by decide +kernel
theorem dX1_lay_40 : decode cX1_lay 40 = .ok (.aload_n 0, 1) := by decide +kernel
theorem dX1_lay_41 : decode cX1_lay 41 = .ok (.getfield 23, 3) := by decide +kernel
theorem dX1_lay_44 : decode cX1_lay 44 = .ok (.aload_n 0, 1) := by decide +kernel
theorem dX1_lay_45 : decode cX1_lay 45 = .ok (.getfield 9, 3) := by decide +kernel
theorem dX1_lay_48 : decode cX1_lay 48 = .ok (.iload_n 3, 1) := by decide +kernel
theorem dX1_lay_49 : decode cX1_lay 49 = .ok (.iaload, 1) := by decide +kernel
theorem dX1_lay_50 : decode cX1_lay 50 = .ok (.aaload, 1) := by decide +kernel
theorem dX1_lay_51 : decode cX1_lay 51 = .ok (.aload_n 0, 1) := by decide +kernel
theorem dX1_lay_52 : decode cX1_lay 52 = .ok (.getfield 9, 3) := by decide +kernel
theorem dX1_lay_55 : decode cX1_lay 55 = .ok (.iload_n 3, 1) := by decide +kernel
theorem dX1_lay_56 : decode cX1_lay 56 = .ok (.iaload, 1) := by decide +kernel
theorem dX1_lay_57 : decode cX1_lay 57 = .ok (.iconst 0, 1) := by decide +kernel
theorem dX1_lay_58 : decode cX1_lay 58 = .ok (.iastore, 1) := by decide +kernel
theorem dX1_lay_59 : decode cX1_lay 59 = .ok (.aload_n 0, 1) := by decide +kernel
theorem dX1_lay_60 : decode cX1_lay 60 = .ok (.iload_n 3, 1) := by decide +kernel
theorem dX1_lay_61 : decode cX1_lay 61 = .ok (.aload_n 0, 1) := by decide +kernel
theorem dX1_lay_62 : decode cX1_lay 62 = .ok (.getfield 15, 3) := by decide +kernel
theorem dX1_lay_65 : decode cX1_lay 65 = .ok (.iload_n 2, 1) := by decide +kernel
theorem dX1_lay_66 : decode cX1_lay 66 = .ok (.iaload, 1) := by decide +kernel
theorem dX1_lay_67 : decode cX1_lay 67 = .ok (.invokevirtual 59, 3) := by decide +kernel
theorem dX1_lay_70 : decode cX1_lay 70 = .ok (.iload_n 3, 1) := by decide +kernel
theorem dX1_lay_71 : decode cX1_lay 71 = .ok (.iconst 1, 1) := by decide +kernel
theorem dX1_lay_72 : decode cX1_lay 72 = .ok (.iadd, 1) := by decide +kernel
theorem dX1_lay_73 : decode cX1_lay 73 = .ok (.istore 4, 2) := by decide +kernel
theorem dX1_lay_75 : decode cX1_lay 75 = .ok (.iload 4, 2) := by decide +kernel
theorem dX1_lay_77 : decode cX1_lay 77 = .ok (.iload_n 2, 1) := by decide +kernel
theorem dX1_lay_78 : decode cX1_lay 78 = .ok (.if_icmp .gt 21, 3) := by decide +kernel
theorem dX1_lay_81 : decode cX1_lay 81 = .ok (.aload_n 0, 1) := by decide +kernel
theorem dX1_lay_82 : decode cX1_lay 82 = .ok (.iload_n 3, 1) := by decide +kernel
theorem dX1_lay_83 : decode cX1_lay 83 = .ok (.aload_n 0, 1) := by decide +kernel
theorem dX1_lay_84 : decode cX1_lay 84 = .ok (.getfield 9, 3) := by decide +kernel
theorem dX1_lay_87 : decode cX1_lay 87 = .ok (.iload 4, 2) := by decide +kernel
theorem dX1_lay_89 : decode cX1_lay 89 = .ok (.iaload, 1) := by decide +kernel
theorem dX1_lay_90 : decode cX1_lay 90 = .ok (.invokevirtual 59, 3) := by decide +kernel
theorem dX1_lay_93 : decode cX1_lay 93 = .ok (.iinc 4 1, 3) := by decide +kernel
theorem dX1_lay_96 : decode cX1_lay 96 = .ok (.goto (-21), 3) := by decide +kernel
theorem dX1_lay_99 : decode cX1_lay 99 = .ok (.iinc 3 (-1), 3) := by decide +kernel
theorem dX1_lay_102 : decode cX1_lay 102 = .ok (.goto (-66), 3) := by decide +kernel
theorem dX1_lay_105 : decode cX1_lay 105 = .ok (.return_, 1) := by decide +kernel
theorem dX1_layWay_0 : decode cX1_layWay 0 = .ok (.aload_n 0, 1) := by decide +kernel
theorem dX1_layWay_1 : decode cX1_layWay 1 = .ok (.getfield 9, 3) := by decide +kernel
theorem dX1_layWay_4 : decode cX1_layWay 4 = .ok (.iload_n 1, 1) := by decide +kernel
theorem dX1_layWay_5 : decode cX1_layWay 5 = .ok (.iaload, 1) := by decide +kernel
theorem dX1_layWay_6 : decode cX1_layWay 6 = .ok (.istore_n 3, 1) := by decide +kernel
theorem dX1_layWay_7 : decode cX1_layWay 7 = .ok (.aload_n 0, 1) := by decide +kernel
theorem dX1_layWay_8 : decode cX1_layWay 8 = .ok (.getfield 33, 3) := by decide +kernel
theorem dX1_layWay_11 : decode cX1_layWay 11 = .ok (.getfield 63, 3) := by decide +kernel
theorem dX1_layWay_14 : decode cX1_layWay 14 = .ok (.iload_n 3, 1) := by decide +kernel
theorem dX1_layWay_15 : decode cX1_layWay 15 = .ok (.aaload, 1) := by decide +kernel
theorem dX1_layWay_16 : decode cX1_layWay 16 = .ok (.aload_n 0, 1) := by decide +kernel
theorem dX1_layWay_17 : decode cX1_layWay 17 = .ok (.getfield 15, 3) := by decide +kernel
theorem dX1_layWay_20 : decode cX1_layWay 20 = .ok (.iload_n 1, 1) := by decide +kernel
theorem dX1_layWay_21 : decode cX1_layWay 21 = .ok (.iaload, 1) := by decide +kernel
theorem dX1_layWay_22 : decode cX1_layWay 22 = .ok (.iaload, 1) := by decide +kernel
theorem dX1_layWay_23 : decode cX1_layWay 23 = .ok (.aload_n 0, 1) := by decide +kernel
theorem dX1_layWay_24 : decode cX1_layWay 24 = .ok (.getfield 23, 3) := by decide +kernel
theorem dX1_layWay_27 : decode cX1_layWay 27 = .ok (.aload_n 0, 1) := by decide +kernel
theorem dX1_layWay_28 : decode cX1_layWay 28 = .ok (.getfield 15, 3) := by decide +kernel
theorem dX1_layWay_31 : decode cX1_layWay 31 = .ok (.iload_n 1, 1) := by decide +kernel
theorem dX1_layWay_32 : decode cX1_layWay 32 = .ok (.iaload, 1) := by decide +kernel
theorem dX1_layWay_33 : decode cX1_layWay 33 = .ok (.aaload, 1) := by decide +kernel
theorem dX1_layWay_34 : decode cX1_layWay 34 = .ok (.iload_n 2, 1) := by decide +kernel
theorem dX1_layWay_35 : decode cX1_layWay 35 = .ok (.iaload, 1) := by decide +kernel
theorem dX1_layWay_36 : decode cX1_layWay 36 = .ok (.iadd, 1) := by decide +kernel
theorem dX1_layWay_37 : decode cX1_layWay 37 = .ok (.istore 4, 2) := by decide +kernel
theorem dX1_layWay_39 : decode cX1_layWay 39 = .ok (.aload_n 0, 1) := by decide +kernel
theorem dX1_layWay_40 : decode cX1_layWay 40 = .ok (.getfield 23, 3) := by decide +kernel
theorem dX1_layWay_43 : decode cX1_layWay 43 = .ok (.iload_n 3, 1) := by decide +kernel
theorem dX1_layWay_44 : decode cX1_layWay 44 = .ok (.aaload, 1) := by decide +kernel
theorem dX1_layWay_45 : decode cX1_layWay 45 = .ok (.iload_n 2, 1) := by decide +kernel
theorem dX1_layWay_46 : decode cX1_layWay 46 = .ok (.iload 4, 2) := by decide +kernel
theorem dX1_layWay_48 : decode cX1_layWay 48 = .ok (.iastore, 1) := by decide +kernel
theorem dX1_layWay_49 : decode cX1_layWay 49 = .ok (.aload_n 0, 1) := by decide +kernel
theorem dX1_layWay_50 : decode cX1_layWay 50 = .ok (.getfield 23, 3) := by decide +kernel
theorem dX1_layWay_53 : decode cX1_layWay 53 = .ok (.iload_n 2, 1) := by decide +kernel
theorem dX1_layWay_54 : decode cX1_layWay 54 = .ok (.aaload, 1) := by decide +kernel
theorem dX1_layWay_55 : decode cX1_layWay 55 = .ok (.iload_n 3, 1) := by decide +kernel
theorem dX1_layWay_56 : decode cX1_layWay 56 = .ok (.iload 4, 2) := by decide +kernel
theorem dX1_layWay_58 : decode cX1_layWay 58 = .ok (.iastore, 1) := by decide +kernel
theorem dX1_layWay_59 : decode cX1_layWay 59 = .ok (.return_, 1) := by decide +kernel
theorem dX1_findStretch_0 : decode cX1_findStretch 0 = .ok (.aload_n 0, 1) := by decide +kernel
theorem dX1_findStretch_1 : decode cX1_findStretch 1 = .ok (.iconst 1, 1) := by decide +kernel
theorem dX1_findStretch_2 : decode cX1_findStretch 2 = .ok (.putfield 26, 3) := by decide +kernel
theorem dX1_findStretch_5 : decode cX1_findStretch 5 = .ok (.aload_n 0, 1) := by decide +kernel
theorem dX1_findStretch_6 : decode cX1_findStretch 6 = .ok (.iconst 1, 1) := by decide +kernel
theorem dX1_findStretch_7 : decode cX1_findStretch 7 = .ok (.putfield 30, 3) := by decide +kernel
theorem dX1_findStretch_10 : decode cX1_findStretch 10 = .ok (.iconst 0, 1) := by decide +kernel
theorem dX1_findStretch_11 : decode cX1_findStretch 11 = .ok (.istore_n 1, 1) := by decide +kernel
theorem dX1_findStretch_12 : decode cX1_findStretch 12 = .ok (.iload_n 1, 1) := by decide +kernel
theorem dX1_findStretch_13 : decode cX1_findStretch 13 = .ok (.aload_n 0, 1) := by decide +kernel
theorem dX1_findStretch_14 : decode cX1_findStretch 14 = .ok (.getfield 33, 3) := by decide +kernel
theorem dX1_findStretch_17 : decode cX1_findStretch 17 = .ok (.getfield 37, 3) := by decide +kernel
theorem dX1_findStretch_20 : decode cX1_findStretch 20 = .ok (.if_icmp .ge 89, 3) := by decide +kernel
theorem dX1_findStretch_23 : decode cX1_findStretch 23 = .ok (.iload_n 1, 1) := by decide +kernel
theorem dX1_findStretch_24 : decode cX1_findStretch 24 = .ok (.iconst 1, 1) := by decide +kernel
theorem dX1_findStretch_25 : decode cX1_findStretch 25 = .ok (.iadd, 1) := by decide +kernel
theorem dX1_findStretch_26 : decode cX1_findStretch 26 = .ok (.istore_n 2, 1) := by decide +kernel
theorem dX1_findStretch_27 : decode cX1_findStretch 27 = .ok (.iload_n 2, 1) := by decide +kernel
theorem dX1_findStretch_28 : decode cX1_findStretch 28 = .ok (.aload_n 0, 1) := by decide +kernel
theorem dX1_findStretch_29 : decode cX1_findStretch 29 = .ok (.getfield 33, 3) := by decide +kernel
theorem dX1_findStretch_32 : decode cX1_findStretch 32 = .ok (.getfield 37, 3) := by decide +kernel
theorem dX1_findStretch_35 : decode cX1_findStretch 35 = .ok (.if_icmp .ge 68, 3) := by decide +kernel
theorem dX1_findStretch_38 : decode cX1_findStretch 38 = .ok (.aload_n 0, 1) := by decide +kernel
theorem dX1_findStretch_39 : decode cX1_findStretch 39 = .ok (.getfield 23, 3) := by decide +kernel
theorem dX1_findStretch_42 : decode cX1_findStretch 42 = .ok (.iload_n 1, 1) := by decide +kernel
theorem dX1_findStretch_43 : decode cX1_findStretch 43 = .ok (.aaload, 1) := by decide +kernel
theorem dX1_findStretch_44 : decode cX1_findStretch 44 = .ok (.iload_n 2, 1) := by decide +kernel
theorem dX1_findStretch_45 : decode cX1_findStretch 45 = .ok (.iaload, 1) := by decide +kernel
theorem dX1_findStretch_46 : decode cX1_findStretch 46 = .ok (.aload_n 0, 1) := by decide +kernel
theorem dX1_findStretch_47 : decode cX1_findStretch 47 = .ok (.getfield 30, 3) := by decide +kernel
theorem dX1_findStretch_50 : decode cX1_findStretch 50 = .ok (.imul, 1) := by decide +kernel
theorem dX1_findStretch_51 : decode cX1_findStretch 51 = .ok (.aload_n 0, 1) := by decide +kernel
theorem dX1_findStretch_52 : decode cX1_findStretch 52 = .ok (.getfield 26, 3) := by decide +kernel
theorem dX1_findStretch_55 : decode cX1_findStretch 55 = .ok (.aload_n 0, 1) := by decide +kernel
theorem dX1_findStretch_56 : decode cX1_findStretch 56 = .ok (.getfield 33, 3) := by decide +kernel
theorem dX1_findStretch_59 : decode cX1_findStretch 59 = .ok (.getfield 63, 3) := by decide +kernel
theorem dX1_findStretch_62 : decode cX1_findStretch 62 = .ok (.iload_n 1, 1) := by decide +kernel
theorem dX1_findStretch_63 : decode cX1_findStretch 63 = .ok (.aaload, 1) := by decide +kernel
theorem dX1_findStretch_64 : decode cX1_findStretch 64 = .ok (.iload_n 2, 1) := by decide +kernel
theorem dX1_findStretch_65 : decode cX1_findStretch 65 = .ok (.iaload, 1) := by decide +kernel
theorem dX1_findStretch_66 : decode cX1_findStretch 66 = .ok (.imul, 1) := by decide +kernel
theorem dX1_findStretch_67 : decode cX1_findStretch 67 = .ok (.if_icmp .le 30, 3) := by decide +kernel
theorem dX1_findStretch_70 : decode cX1_findStretch 70 = .ok (.aload_n 0, 1) := by decide +kernel
theorem dX1_findStretch_71 : decode cX1_findStretch 71 = .ok (.aload_n 0, 1) := by decide +kernel
theorem dX1_findStretch_72 : decode cX1_findStretch 72 = .ok (.getfield 23, 3) := by decide +kernel
theorem dX1_findStretch_75 : decode cX1_findStretch 75 = .ok (.iload_n 1, 1) := by decide +kernel
theorem dX1_findStretch_76 : decode cX1_findStretch 76 = .ok (.aaload, 1) := by decide +kernel
theorem dX1_findStretch_77 : decode cX1_findStretch 77 = .ok (.iload_n 2, 1) := by decide +kernel
theorem dX1_findStretch_78 : decode cX1_findStretch 78 = .ok (.iaload, 1) := by decide +kernel
theorem dX1_findStretch_79 : decode cX1_findStretch 79 = .ok (.putfield 26, 3) := by decide +kernel
theorem dX1_findStretch_82 : decode cX1_findStretch 82 = .ok (.aload_n 0, 1) := by decide +kernel
theorem dX1_findStretch_83 : decode cX1_findStretch 83 = .ok (.aload_n 0, 1) := by decide +kernel
theorem dX1_findStretch_84 : decode cX1_findStretch 84 = .ok (.getfield 33, 3) := by decide +kernel
theorem dX1_findStretch_87 : decode cX1_findStretch 87 = .ok (.getfield 63, 3) := by decide +kernel
theorem dX1_findStretch_90 : decode cX1_findStretch 90 = .ok (.iload_n 1, 1) := by decide +kernel
theorem dX1_findStretch_91 : decode cX1_findStretch 91 = .ok (.aaload, 1) := by decide +kernel
theorem dX1_findStretch_92 : decode cX1_findStretch 92 = .ok (.iload_n 2, 1) := by decide +kernel
theorem dX1_findStretch_93 : decode cX1_findStretch 93 = .ok (.iaload, 1) := by decide +kernel
theorem dX1_findStretch_94 : decode cX1_findStretch 94 = .ok (.putfield 30, 3) := by decide +kernel
theorem dX1_findStretch_97 : decode cX1_findStretch 97 = .ok (.iinc 2 1, 3) := by decide +kernel
theorem dX1_findStretch_100 : decode cX1_findStretch 100 = .ok (.goto (-73), 3) := by decide +kernel
theorem dX1_findStretch_103 : decode cX1_findStretch 103 = .ok (.iinc 1 1, 3) := by decide +kernel
theorem dX1_findStretch_106 : decode cX1_findStretch 106 = .ok (.goto (-94), 3) := by decide +kernel
theorem dX1_findStretch_109 : decode cX1_findStretch 109 = .ok (.return_, 1) := by decide +kernel
theorem dX1_leastByStretch_0 : decode cX1_leastByStretch 0 = .ok (.iconst 0, 1) := by decide +kernel
theorem dX1_leastByStretch_1 : decode cX1_leastByStretch 1 = .ok (.istore_n 1, 1) := by decide +kernel
theorem dX1_leastByStretch_2 : decode cX1_leastByStretch 2 = .ok (.iconst 0, 1) := by decide +kernel
theorem dX1_leastByStretch_3 : decode cX1_leastByStretch 3 = .ok (.istore_n 2, 1) := by decide +kernel
theorem dX1_leastByStretch_4 : decode cX1_leastByStretch 4 = .ok (.iconst 0, 1) := by decide +kernel
theorem dX1_leastByStretch_5 : decode cX1_leastByStretch 5 = .ok (.istore_n 3, 1) := by decide +kernel
theorem dX1_leastByStretch_6 : decode cX1_leastByStretch 6 = .ok (.aload_n 0, 1) := by decide +kernel
theorem dX1_leastByStretch_7 : decode cX1_leastByStretch 7 = .ok (.invokevirtual 66, 3) := by decide +kernel
theorem dX1_leastByStretch_10 : decode cX1_leastByStretch 10 = .ok (.istore 4, 2) := by decide +kernel
theorem dX1_leastByStretch_12 : decode cX1_leastByStretch 12 = .ok (.iconst 0, 1) := by decide +kernel
theorem dX1_leastByStretch_13 : decode cX1_leastByStretch 13 = .ok (.istore 5, 2) := by decide +kernel
theorem dX1_leastByStretch_15 : decode cX1_leastByStretch 15 = .ok (.iload 5, 2) := by decide +kernel
theorem dX1_leastByStretch_17 : decode cX1_leastByStretch 17 = .ok (.iload 4, 2) := by decide +kernel
theorem dX1_leastByStretch_19 : decode cX1_leastByStretch 19 = .ok (.if_icmp .ge 52, 3) := by decide +kernel
theorem dX1_leastByStretch_22 : decode cX1_leastByStretch 22 = .ok (.aload_n 0, 1) := by decide +kernel
theorem dX1_leastByStretch_23 : decode cX1_leastByStretch 23 = .ok (.iload 5, 2) := by decide +kernel
theorem dX1_leastByStretch_25 : decode cX1_leastByStretch 25 = .ok (.invokevirtual 69, 3) := by decide +kernel
theorem dX1_leastByStretch_28 : decode cX1_leastByStretch 28 = .ok (.aload_n 0, 1) := by decide +kernel
theorem dX1_leastByStretch_29 : decode cX1_leastByStretch 29 = .ok (.invokevirtual 72, 3) := by decide +kernel
theorem dX1_leastByStretch_32 : decode cX1_leastByStretch 32 = .ok (.iload 5, 2) := by decide +kernel
theorem dX1_leastByStretch_34 : decode cX1_leastByStretch 34 = .ok (.ifCond .eq 18, 3) := by decide +kernel
theorem dX1_leastByStretch_37 : decode cX1_leastByStretch 37 = .ok (.aload_n 0, 1) := by decide +kernel
theorem dX1_leastByStretch_38 : decode cX1_leastByStretch 38 = .ok (.getfield 26, 3) := by decide +kernel
theorem dX1_leastByStretch_41 : decode cX1_leastByStretch 41 = .ok (.iload_n 3, 1) := by decide +kernel
theorem dX1_leastByStretch_42 : decode cX1_leastByStretch 42 = .ok (.imul, 1) := by decide +kernel
theorem dX1_leastByStretch_43 : decode cX1_leastByStretch 43 = .ok (.iload_n 2, 1) := by decide +kernel
theorem dX1_leastByStretch_44 : decode cX1_leastByStretch 44 = .ok (.aload_n 0, 1) := by decide +kernel
theorem dX1_leastByStretch_45 : decode cX1_leastByStretch 45 = .ok (.getfield 30, 3) := by decide +kernel
theorem dX1_leastByStretch_48 : decode cX1_leastByStretch 48 = .ok (.imul, 1) := by decide +kernel
theorem dX1_leastByStretch_49 : decode cX1_leastByStretch 49 = .ok (.if_icmp .ge 16, 3) := by decide +kernel
theorem dX1_leastByStretch_52 : decode cX1_leastByStretch 52 = .ok (.iload 5, 2) := by decide +kernel
theorem dX1_leastByStretch_54 : decode cX1_leastByStretch 54 = .ok (.istore_n 1, 1) := by decide +kernel
theorem dX1_leastByStretch_55 : decode cX1_leastByStretch 55 = .ok (.aload_n 0, 1) := by decide +kernel
theorem dX1_leastByStretch_56 : decode cX1_leastByStretch 56 = .ok (.getfield 26, 3) := by decide +kernel
theorem dX1_leastByStretch_59 : decode cX1_leastByStretch 59 = .ok (.istore_n 2, 1) := by decide +kernel
theorem dX1_leastByStretch_60 : decode cX1_leastByStretch 60 = .ok (.aload_n 0, 1) := by decide +kernel
theorem dX1_leastByStretch_61 : decode cX1_leastByStretch 61 = .ok (.getfield 30, 3) := by decide +kernel
theorem dX1_leastByStretch_64 : decode cX1_leastByStretch 64 = .ok (.istore_n 3, 1) := by decide +kernel
theorem dX1_leastByStretch_65 : decode cX1_leastByStretch 65 = .ok (.iinc 5 1, 3) := by decide +kernel
theorem dX1_leastByStretch_68 : decode cX1_leastByStretch 68 = .ok (.goto (-53), 3) := by decide +kernel
theorem dX1_leastByStretch_71 : decode cX1_leastByStretch 71 = .ok (.iload_n 1, 1) := by decide +kernel
theorem dX1_leastByStretch_72 : decode cX1_leastByStretch 72 = .ok (.ireturn, 1) := by decide +kernel
theorem dX1_leastBySpread_0 : decode cX1_leastBySpread 0 = .ok (.iconst 0, 1) := by decide +kernel
theorem dX1_leastBySpread_1 : decode cX1_leastBySpread 1 = .ok (.istore_n 1, 1) := by decide +kernel
theorem dX1_leastBySpread_2 : decode cX1_leastBySpread 2 = .ok (.iconst 0, 1) := by decide +kernel
theorem dX1_leastBySpread_3 : decode cX1_leastBySpread 3 = .ok (.istore_n 2, 1) := by decide +kernel
theorem dX1_leastBySpread_4 : decode cX1_leastBySpread 4 = .ok (.aload_n 0, 1) := by decide +kernel
theorem dX1_leastBySpread_5 : decode cX1_leastBySpread 5 = .ok (.invokevirtual 66, 3) := by decide +kernel
theorem dX1_leastBySpread_8 : decode cX1_leastBySpread 8 = .ok (.istore_n 3, 1) := by decide +kernel
theorem dX1_leastBySpread_9 : decode cX1_leastBySpread 9 = .ok (.iconst 0, 1) := by decide +kernel
theorem dX1_leastBySpread_10 : decode cX1_leastBySpread 10 = .ok (.istore 4, 2) := by decide +kernel
theorem dX1_leastBySpread_12 : decode cX1_leastBySpread 12 = .ok (.iload 4, 2) := by decide +kernel
theorem dX1_leastBySpread_14 : decode cX1_leastBySpread 14 = .ok (.iload_n 3, 1) := by decide +kernel
theorem dX1_leastBySpread_15 : decode cX1_leastBySpread 15 = .ok (.if_icmp .ge 45, 3) := by decide +kernel
theorem dX1_leastBySpread_18 : decode cX1_leastBySpread 18 = .ok (.aload_n 0, 1) := by decide +kernel
theorem dX1_leastBySpread_19 : decode cX1_leastBySpread 19 = .ok (.iload 4, 2) := by decide +kernel
theorem dX1_leastBySpread_21 : decode cX1_leastBySpread 21 = .ok (.invokevirtual 69, 3) := by decide +kernel
theorem dX1_leastBySpread_24 : decode cX1_leastBySpread 24 = .ok (.aload_n 0, 1) := by decide +kernel
theorem dX1_leastBySpread_25 : decode cX1_leastBySpread 25 = .ok (.getfield 33, 3) := by decide +kernel
theorem dX1_leastBySpread_28 : decode cX1_leastBySpread 28 = .ok (.aload_n 0, 1) := by decide +kernel
theorem dX1_leastBySpread_29 : decode cX1_leastBySpread 29 = .ok (.getfield 23, 3) := by decide +kernel
theorem dX1_leastBySpread_32 : decode cX1_leastBySpread 32 = .ok (.invokevirtual 75, 3) := by decide +kernel
theorem dX1_leastBySpread_35 : decode cX1_leastBySpread 35 = .ok (.istore 5, 2) := by decide +kernel
theorem dX1_leastBySpread_37 : decode cX1_leastBySpread 37 = .ok (.iload 4, 2) := by decide +kernel
theorem dX1_leastBySpread_39 : decode cX1_leastBySpread 39 = .ok (.ifCond .eq 9, 3) := by decide +kernel
theorem dX1_leastBySpread_42 : decode cX1_leastBySpread 42 = .ok (.iload 5, 2) := by decide +kernel
theorem dX1_leastBySpread_44 : decode cX1_leastBySpread 44 = .ok (.iload_n 2, 1) := by decide +kernel
theorem dX1_leastBySpread_45 : decode cX1_leastBySpread 45 = .ok (.if_icmp .ge 9, 3) := by decide +kernel
theorem dX1_leastBySpread_48 : decode cX1_leastBySpread 48 = .ok (.iload 4, 2) := by decide +kernel
theorem dX1_leastBySpread_50 : decode cX1_leastBySpread 50 = .ok (.istore_n 1, 1) := by decide +kernel
theorem dX1_leastBySpread_51 : decode cX1_leastBySpread 51 = .ok (.iload 5, 2) := by decide +kernel
theorem dX1_leastBySpread_53 : decode cX1_leastBySpread 53 = .ok (.istore_n 2, 1) := by decide +kernel
theorem dX1_leastBySpread_54 : decode cX1_leastBySpread 54 = .ok (.iinc 4 1, 3) := by decide +kernel
theorem dX1_leastBySpread_57 : decode cX1_leastBySpread 57 = .ok (.goto (-45), 3) := by decide +kernel
theorem dX1_leastBySpread_60 : decode cX1_leastBySpread 60 = .ok (.iload_n 1, 1) := by decide +kernel
theorem dX1_leastBySpread_61 : decode cX1_leastBySpread 61 = .ok (.ireturn, 1) := by decide +kernel
theorem dX2_init_0 : decode cX2_init 0 = .ok (.aload_n 0, 1) := by decide +kernel
theorem dX2_init_1 : decode cX2_init 1 = .ok (.invokespecial 3, 3) := by decide +kernel
theorem dX2_init_4 : decode cX2_init 4 = .ok (.aload_n 0, 1) := by decide +kernel
theorem dX2_init_5 : decode cX2_init 5 = .ok (.aload_n 1, 1) := by decide +kernel
theorem dX2_init_6 : decode cX2_init 6 = .ok (.putfield 9, 3) := by decide +kernel
theorem dX2_init_9 : decode cX2_init 9 = .ok (.return_, 1) := by decide +kernel
theorem dX2_allPoints_0 : decode cX2_allPoints 0 = .ok (.iconst 1, 1) := by decide +kernel
theorem dX2_allPoints_1 : decode cX2_allPoints 1 = .ok (.aload_n 0, 1) := by decide +kernel
theorem dX2_allPoints_2 : decode cX2_allPoints 2 = .ok (.getfield 9, 3) := by decide +kernel
theorem dX2_allPoints_5 : decode cX2_allPoints 5 = .ok (.getfield 15, 3) := by decide +kernel
theorem dX2_allPoints_8 : decode cX2_allPoints 8 = .ok (.ishl, 1) := by decide +kernel
theorem dX2_allPoints_9 : decode cX2_allPoints 9 = .ok (.iconst 1, 1) := by decide +kernel
theorem dX2_allPoints_10 : decode cX2_allPoints 10 = .ok (.isub, 1) := by decide +kernel
theorem dX2_allPoints_11 : decode cX2_allPoints 11 = .ok (.ireturn, 1) := by decide +kernel
theorem dX2_isIn_0 : decode cX2_isIn 0 = .ok (.iload_n 0, 1) := by decide +kernel
theorem dX2_isIn_1 : decode cX2_isIn 1 = .ok (.iload_n 1, 1) := by decide +kernel
theorem dX2_isIn_2 : decode cX2_isIn 2 = .ok (.ishr, 1) := by decide +kernel
theorem dX2_isIn_3 : decode cX2_isIn 3 = .ok (.iconst 1, 1) := by decide +kernel
theorem dX2_isIn_4 : decode cX2_isIn 4 = .ok (.iand, 1) := by decide +kernel
theorem dX2_isIn_5 : decode cX2_isIn 5 = .ok (.iconst 1, 1) := by decide +kernel
theorem dX2_isIn_6 : decode cX2_isIn 6 = .ok (.if_icmp .ne 7, 3) := by decide +kernel
theorem dX2_isIn_9 : decode cX2_isIn 9 = .ok (.iconst 1, 1) := by decide +kernel
theorem dX2_isIn_10 : decode cX2_isIn 10 = .ok (.goto 4, 3) := by decide +kernel
theorem dX2_isIn_13 : decode cX2_isIn 13 = .ok (.iconst 0, 1) := by decide +kernel
theorem dX2_isIn_14 : decode cX2_isIn 14 = .ok (.ireturn, 1) := by decide +kernel
theorem dX2_isPart_0 : decode cX2_isPart 0 = .ok (.iload_n 1, 1) := by decide +kernel
theorem dX2_isPart_1 : decode cX2_isPart 1 = .ok (.ifCond .le 23, 3) := by decide +kernel
theorem dX2_isPart_4 : decode cX2_isPart 4 = .ok (.iload_n 1, 1) := by decide +kernel
theorem dX2_isPart_5 : decode cX2_isPart 5 = .ok (.aload_n 0, 1) := by decide +kernel
theorem dX2_isPart_6 : decode cX2_isPart 6 = .ok (.invokevirtual 21, 3) := by decide +kernel
theorem dX2_isPart_9 : decode cX2_isPart 9 = .ok (.if_icmp .ge 15, 3) := by decide +kernel
theorem dX2_isPart_12 : decode cX2_isPart 12 = .ok (.iload_n 1, 1) := by decide +kernel
theorem dX2_isPart_13 : decode cX2_isPart 13 = .ok (.iconst 0, 1) := by decide +kernel
theorem dX2_isPart_14 : decode cX2_isPart 14 = .ok (.invokestatic 25, 3) := by decide +kernel
theorem dX2_isPart_17 : decode cX2_isPart 17 = .ok (.ifCond .eq 7, 3) := by decide +kernel
theorem dX2_isPart_20 : decode cX2_isPart 20 = .ok (.iconst 1, 1) := by decide +kernel
theorem dX2_isPart_21 : decode cX2_isPart 21 = .ok (.goto 4, 3) := by decide +kernel
theorem dX2_isPart_24 : decode cX2_isPart 24 = .ok (.iconst 0, 1) := by decide +kernel
theorem dX2_isPart_25 : decode cX2_isPart 25 = .ok (.ireturn, 1) := by decide +kernel
theorem dX2_weigh_0 : decode cX2_weigh 0 = .ok (.sipush 2000, 3) := by decide +kernel
theorem dX2_weigh_3 : decode cX2_weigh 3 = .ok (.istore_n 2, 1) := by decide +kernel
theorem dX2_weigh_4 : decode cX2_weigh 4 = .ok (.iconst 0, 1) := by decide +kernel
theorem dX2_weigh_5 : decode cX2_weigh 5 = .ok (.istore_n 3, 1) := by decide +kernel
theorem dX2_weigh_6 : decode cX2_weigh 6 = .ok (.iload_n 3, 1) := by decide +kernel
theorem dX2_weigh_7 : decode cX2_weigh 7 = .ok (.aload_n 0, 1) := by decide +kernel
theorem dX2_weigh_8 : decode cX2_weigh 8 = .ok (.getfield 9, 3) := by decide +kernel
theorem dX2_weigh_11 : decode cX2_weigh 11 = .ok (.getfield 15, 3) := by decide +kernel
theorem dX2_weigh_14 : decode cX2_weigh 14 = .ok (.if_icmp .ge 60, 3) := by decide +kernel
theorem dX2_weigh_17 : decode cX2_weigh 17 = .ok (.iload_n 3, 1) := by decide +kernel
theorem dX2_weigh_18 : decode cX2_weigh 18 = .ok (.istore 4, 2) := by decide +kernel
theorem dX2_weigh_20 : decode cX2_weigh 20 = .ok (.iload 4, 2) := by decide +kernel
theorem dX2_weigh_22 : decode cX2_weigh 22 = .ok (.aload_n 0, 1) := by decide +kernel
theorem dX2_weigh_23 : decode cX2_weigh 23 = .ok (.getfield 9, 3) := by decide +kernel
theorem dX2_weigh_26 : decode cX2_weigh 26 = .ok (.getfield 15, 3) := by decide +kernel
theorem dX2_weigh_29 : decode cX2_weigh 29 = .ok (.if_icmp .ge 39, 3) := by decide +kernel
theorem dX2_weigh_32 : decode cX2_weigh 32 = .ok (.iload_n 1, 1) := by decide +kernel
theorem dX2_weigh_33 : decode cX2_weigh 33 = .ok (.iload_n 3, 1) := by decide +kernel
theorem dX2_weigh_34 : decode cX2_weigh 34 = .ok (.invokestatic 25, 3) := by decide +kernel
theorem dX2_weigh_37 : decode cX2_weigh 37 = .ok (.ifCond .eq 25, 3) := by decide +kernel
theorem dX2_weigh_40 : decode cX2_weigh 40 = .ok (.iload_n 1, 1) := by decide +kernel
theorem dX2_weigh_41 : decode cX2_weigh 41 = .ok (.iload 4, 2) := by decide +kernel
theorem dX2_weigh_43 : decode cX2_weigh 43 = .ok (.invokestatic 25, 3) := by decide +kernel
theorem dX2_weigh_46 : decode cX2_weigh 46 = .ok (.ifCond .eq 16, 3) := by decide +kernel
theorem dX2_weigh_49 : decode cX2_weigh 49 = .ok (.iload_n 2, 1) := by decide +kernel
theorem dX2_weigh_50 : decode cX2_weigh 50 = .ok (.aload_n 0, 1) := by decide +kernel
theorem dX2_weigh_51 : decode cX2_weigh 51 = .ok (.iload_n 1, 1) := by decide +kernel
theorem dX2_weigh_52 : decode cX2_weigh 52 = .ok (.iload_n 3, 1) := by decide +kernel
theorem dX2_weigh_53 : decode cX2_weigh 53 = .ok (.iload 4, 2) := by decide +kernel
theorem dX2_weigh_55 : decode cX2_weigh 55 = .ok (.invokevirtual 29, 3) := by decide +kernel
theorem dX2_weigh_58 : decode cX2_weigh 58 = .ok (.invokestatic 33, 3) := by decide +kernel
theorem dX2_weigh_61 : decode cX2_weigh 61 = .ok (.istore_n 2, 1) := by decide +kernel
theorem dX2_weigh_62 : decode cX2_weigh 62 = .ok (.iinc 4 1, 3) := by decide +kernel
theorem dX2_weigh_65 : decode cX2_weigh 65 = .ok (.goto (-45), 3) := by decide +kernel
theorem dX2_weigh_68 : decode cX2_weigh 68 = .ok (.iinc 3 1, 3) := by decide +kernel
theorem dX2_weigh_71 : decode cX2_weigh 71 = .ok (.goto (-65), 3) := by decide +kernel
theorem dX2_weigh_74 : decode cX2_weigh 74 = .ok (.iload_n 2, 1) := by decide +kernel
theorem dX2_weigh_75 : decode cX2_weigh 75 = .ok (.ireturn, 1) := by decide +kernel
theorem dX2_leastAcross_0 : decode cX2_leastAcross 0 = .ok (.sipush 2000, 3) := by decide +kernel
theorem dX2_leastAcross_3 : decode cX2_leastAcross 3 = .ok (.istore 4, 2) := by decide +kernel
theorem dX2_leastAcross_5 : decode cX2_leastAcross 5 = .ok (.iconst 0, 1) := by decide +kernel
theorem dX2_leastAcross_6 : decode cX2_leastAcross 6 = .ok (.istore 5, 2) := by decide +kernel
theorem dX2_leastAcross_8 : decode cX2_leastAcross 8 = .ok (.iload 5, 2) := by decide +kernel
theorem dX2_leastAcross_10 : decode cX2_leastAcross 10 = .ok (.aload_n 0, 1) := by decide +kernel
theorem dX2_leastAcross_11 : decode cX2_leastAcross 11 = .ok (.getfield 9, 3) := by decide +kernel
theorem dX2_leastAcross_14 : decode cX2_leastAcross 14 = .ok (.getfield 15, 3) := by decide +kernel
theorem dX2_leastAcross_17 : decode cX2_leastAcross 17 = .ok (.if_icmp .ge 66, 3) := by decide +kernel
theorem dX2_leastAcross_20 : decode cX2_leastAcross 20 = .ok (.iload 5, 2) := by decide +kernel
theorem dX2_leastAcross_22 : decode cX2_leastAcross 22 = .ok (.istore 6, 2) := by decide +kernel
theorem dX2_leastAcross_24 : decode cX2_leastAcross 24 = .ok (.iload 6, 2) := by decide +kernel
theorem dX2_leastAcross_26 : decode cX2_leastAcross 26 = .ok (.aload_n 0, 1) := by decide +kernel
theorem dX2_leastAcross_27 : decode cX2_leastAcross 27 = .ok (.getfield 9, 3) := by decide +kernel
theorem dX2_leastAcross_30 : decode cX2_leastAcross 30 = .ok (.getfield 15, 3) := by decide +kernel
theorem dX2_leastAcross_33 : decode cX2_leastAcross 33 = .ok (.if_icmp .ge 44, 3) := by decide +kernel
theorem dX2_leastAcross_36 : decode cX2_leastAcross 36 = .ok (.iload_n 1, 1) := by decide +kernel
theorem dX2_leastAcross_37 : decode cX2_leastAcross 37 = .ok (.iload 5, 2) := by decide +kernel
theorem dX2_leastAcross_39 : decode cX2_leastAcross 39 = .ok (.invokestatic 25, 3) := by decide +kernel
theorem dX2_leastAcross_42 : decode cX2_leastAcross 42 = .ok (.ifCond .ne 29, 3) := by decide +kernel
theorem dX2_leastAcross_45 : decode cX2_leastAcross 45 = .ok (.iload_n 1, 1) := by decide +kernel
theorem dX2_leastAcross_46 : decode cX2_leastAcross 46 = .ok (.iload 6, 2) := by decide +kernel
theorem dX2_leastAcross_48 : decode cX2_leastAcross 48 = .ok (.invokestatic 25, 3) := by decide +kernel
theorem dX2_leastAcross_51 : decode cX2_leastAcross 51 = .ok (.ifCond .ne 20, 3) := by decide +kernel
theorem dX2_leastAcross_54 : decode cX2_leastAcross 54 = .ok (.iload 4, 2) := by decide +kernel
theorem dX2_leastAcross_56 : decode cX2_leastAcross 56 = .ok (.aload_n 0, 1) := by decide +kernel
theorem dX2_leastAcross_57 : decode cX2_leastAcross 57 = .ok (.iload_n 2, 1) := by decide +kernel
theorem dX2_leastAcross_58 : decode cX2_leastAcross 58 = .ok (.iload_n 3, 1) := by decide +kernel
theorem dX2_leastAcross_59 : decode cX2_leastAcross 59 = .ok (.iload 5, 2) := by decide +kernel
theorem dX2_leastAcross_61 : decode cX2_leastAcross 61 = .ok (.iload 6, 2) := by decide +kernel
theorem dX2_leastAcross_63 : decode cX2_leastAcross 63 = .ok (.invokevirtual 39, 3) := by decide +kernel
theorem dX2_leastAcross_66 : decode cX2_leastAcross 66 = .ok (.invokestatic 33, 3) := by decide +kernel
theorem dX2_leastAcross_69 : decode cX2_leastAcross 69 = .ok (.istore 4, 2) := by decide +kernel
theorem dX2_leastAcross_71 : decode cX2_leastAcross 71 = .ok (.iinc 6 1, 3) := by decide +kernel
theorem dX2_leastAcross_74 : decode cX2_leastAcross 74 = .ok (.goto (-50), 3) := by decide +kernel
theorem dX2_leastAcross_77 : decode cX2_leastAcross 77 = .ok (.iinc 5 1, 3) := by decide +kernel
theorem dX2_leastAcross_80 : decode cX2_leastAcross 80 = .ok (.goto (-72), 3) := by decide +kernel
theorem dX2_leastAcross_83 : decode cX2_leastAcross 83 = .ok (.iload 4, 2) := by decide +kernel
theorem dX2_leastAcross_85 : decode cX2_leastAcross 85 = .ok (.ireturn, 1) := by decide +kernel
theorem dX2_across_0 : decode cX2_across 0 = .ok (.aload_n 0, 1) := by decide +kernel
theorem dX2_across_1 : decode cX2_across 1 = .ok (.getfield 9, 3) := by decide +kernel
theorem dX2_across_4 : decode cX2_across 4 = .ok (.getfield 43, 3) := by decide +kernel
theorem dX2_across_7 : decode cX2_across 7 = .ok (.astore 5, 2) := by decide +kernel
theorem dX2_across_9 : decode cX2_across 9 = .ok (.aload 5, 2) := by decide +kernel
theorem dX2_across_11 : decode cX2_across 11 = .ok (.iload_n 1, 1) := by decide +kernel
theorem dX2_across_12 : decode cX2_across 12 = .ok (.aaload, 1) := by decide +kernel
theorem dX2_across_13 : decode cX2_across 13 = .ok (.iload_n 2, 1) := by decide +kernel
theorem dX2_across_14 : decode cX2_across 14 = .ok (.iaload, 1) := by decide +kernel
theorem dX2_across_15 : decode cX2_across 15 = .ok (.aload 5, 2) := by decide +kernel
theorem dX2_across_17 : decode cX2_across 17 = .ok (.iload_n 3, 1) := by decide +kernel
theorem dX2_across_18 : decode cX2_across 18 = .ok (.aaload, 1) := by decide +kernel
theorem dX2_across_19 : decode cX2_across 19 = .ok (.iload 4, 2) := by decide +kernel
theorem dX2_across_21 : decode cX2_across 21 = .ok (.iaload, 1) := by decide +kernel
theorem dX2_across_22 : decode cX2_across 22 = .ok (.iadd, 1) := by decide +kernel
theorem dX2_across_23 : decode cX2_across 23 = .ok (.istore 6, 2) := by decide +kernel
theorem dX2_across_25 : decode cX2_across 25 = .ok (.aload 5, 2) := by decide +kernel
theorem dX2_across_27 : decode cX2_across 27 = .ok (.iload_n 1, 1) := by decide +kernel
theorem dX2_across_28 : decode cX2_across 28 = .ok (.aaload, 1) := by decide +kernel
theorem dX2_across_29 : decode cX2_across 29 = .ok (.iload_n 3, 1) := by decide +kernel
theorem dX2_across_30 : decode cX2_across 30 = .ok (.iaload, 1) := by decide +kernel
theorem dX2_across_31 : decode cX2_across 31 = .ok (.aload 5, 2) := by decide +kernel
theorem dX2_across_33 : decode cX2_across 33 = .ok (.iload_n 2, 1) := by decide +kernel
theorem dX2_across_34 : decode cX2_across 34 = .ok (.aaload, 1) := by decide +kernel
theorem dX2_across_35 : decode cX2_across 35 = .ok (.iload 4, 2) := by decide +kernel
theorem dX2_across_37 : decode cX2_across 37 = .ok (.iaload, 1) := by decide +kernel
theorem dX2_across_38 : decode cX2_across 38 = .ok (.iadd, 1) := by decide +kernel
theorem dX2_across_39 : decode cX2_across 39 = .ok (.istore 7, 2) := by decide +kernel
theorem dX2_across_41 : decode cX2_across 41 = .ok (.aload 5, 2) := by decide +kernel
theorem dX2_across_43 : decode cX2_across 43 = .ok (.iload_n 1, 1) := by decide +kernel
theorem dX2_across_44 : decode cX2_across 44 = .ok (.aaload, 1) := by decide +kernel
theorem dX2_across_45 : decode cX2_across 45 = .ok (.iload 4, 2) := by decide +kernel
theorem dX2_across_47 : decode cX2_across 47 = .ok (.iaload, 1) := by decide +kernel
theorem dX2_across_48 : decode cX2_across 48 = .ok (.aload 5, 2) := by decide +kernel
theorem dX2_across_50 : decode cX2_across 50 = .ok (.iload_n 2, 1) := by decide +kernel
theorem dX2_across_51 : decode cX2_across 51 = .ok (.aaload, 1) := by decide +kernel
theorem dX2_across_52 : decode cX2_across 52 = .ok (.iload_n 3, 1) := by decide +kernel
theorem dX2_across_53 : decode cX2_across 53 = .ok (.iaload, 1) := by decide +kernel
theorem dX2_across_54 : decode cX2_across 54 = .ok (.iadd, 1) := by decide +kernel
theorem dX2_across_55 : decode cX2_across 55 = .ok (.istore 8, 2) := by decide +kernel
theorem dX2_across_57 : decode cX2_across 57 = .ok (.iload 6, 2) := by decide +kernel
theorem dX2_across_59 : decode cX2_across 59 = .ok (.iload 7, 2) := by decide +kernel
theorem dX2_across_61 : decode cX2_across 61 = .ok (.iload 8, 2) := by decide +kernel
theorem dX2_across_63 : decode cX2_across 63 = .ok (.invokestatic 47, 3) := by decide +kernel
theorem dX2_across_66 : decode cX2_across 66 = .ok (.invokestatic 47, 3) := by decide +kernel
theorem dX2_across_69 : decode cX2_across 69 = .ok (.iload 6, 2) := by decide +kernel
theorem dX2_across_71 : decode cX2_across 71 = .ok (.isub, 1) := by decide +kernel
theorem dX2_across_72 : decode cX2_across 72 = .ok (.ireturn, 1) := by decide +kernel
theorem dX2_howManyWeigh_0 : decode cX2_howManyWeigh 0 = .ok (.iconst 0, 1) := by decide +kernel
theorem dX2_howManyWeigh_1 : decode cX2_howManyWeigh 1 = .ok (.istore_n 1, 1) := by decide +kernel
theorem dX2_howManyWeigh_2 : decode cX2_howManyWeigh 2 = .ok (.iconst 1, 1) := by decide +kernel
theorem dX2_howManyWeigh_3 : decode cX2_howManyWeigh 3 = .ok (.istore_n 2, 1) := by decide +kernel
theorem dX2_howManyWeigh_4 : decode cX2_howManyWeigh 4 = .ok (.iload_n 2, 1) := by decide +kernel
theorem dX2_howManyWeigh_5 : decode cX2_howManyWeigh 5 = .ok (.aload_n 0, 1) := by decide +kernel
theorem dX2_howManyWeigh_6 : decode cX2_howManyWeigh 6 = .ok (.invokevirtual 21, 3) := by decide +kernel
theorem dX2_howManyWeigh_9 : decode cX2_howManyWeigh 9 = .ok (.if_icmp .ge 28, 3) := by decide +kernel
theorem dX2_howManyWeigh_12 : decode cX2_howManyWeigh 12 = .ok (.iload_n 1, 1) := by decide +kernel
theorem dX2_howManyWeigh_13 : decode cX2_howManyWeigh 13 = .ok (.aload_n 0, 1) := by decide +kernel
theorem dX2_howManyWeigh_14 : decode cX2_howManyWeigh 14 = .ok (.iload_n 2, 1) := by decide +kernel
theorem dX2_howManyWeigh_15 : decode cX2_howManyWeigh 15 = .ok (.invokevirtual 50, 3) := by decide +kernel
theorem dX2_howManyWeigh_18 : decode cX2_howManyWeigh 18 = .ok (.ifCond .le 7, 3) := by decide +kernel
theorem dX2_howManyWeigh_21 : decode cX2_howManyWeigh 21 = .ok (.iconst 1, 1) := by decide +kernel
theorem dX2_howManyWeigh_22 : decode cX2_howManyWeigh 22 = .ok (.goto 4, 3) := by decide +kernel
theorem dX2_howManyWeigh_25 : decode cX2_howManyWeigh 25 = .ok (.iconst 0, 1) := by decide +kernel
theorem dX2_howManyWeigh_26 : decode cX2_howManyWeigh 26 = .ok (.invokestatic 54, 3) := by decide +kernel
theorem dX2_howManyWeigh_29 : decode cX2_howManyWeigh 29 = .ok (.iadd, 1) := by decide +kernel
theorem dX2_howManyWeigh_30 : decode cX2_howManyWeigh 30 = .ok (.istore_n 1, 1) := by decide +kernel
theorem dX2_howManyWeigh_31 : decode cX2_howManyWeigh 31 = .ok (.iinc 2 2, 3) := by decide +kernel
theorem dX2_howManyWeigh_34 : decode cX2_howManyWeigh 34 = .ok (.goto (-30), 3) := by decide +kernel
theorem dX2_howManyWeigh_37 : decode cX2_howManyWeigh 37 = .ok (.iload_n 1, 1) := by decide +kernel
theorem dX2_howManyWeigh_38 : decode cX2_howManyWeigh 38 = .ok (.ireturn, 1) := by decide +kernel
theorem dX2_leftOf_0 : decode cX2_leftOf 0 = .ok (.iconst 2, 1) := by decide +kernel
theorem dX2_leftOf_1 : decode cX2_leftOf 1 = .ok (.aload_n 0, 1) := by decide +kernel
theorem dX2_leftOf_2 : decode cX2_leftOf 2 = .ok (.getfield 9, 3) := by decide +kernel
theorem dX2_leftOf_5 : decode cX2_leftOf 5 = .ok (.getfield 43, 3) := by decide +kernel
theorem dX2_leftOf_8 : decode cX2_leftOf 8 = .ok (.iload_n 1, 1) := by decide +kernel
theorem dX2_leftOf_9 : decode cX2_leftOf 9 = .ok (.aaload, 1) := by decide +kernel
theorem dX2_leftOf_10 : decode cX2_leftOf 10 = .ok (.iload_n 2, 1) := by decide +kernel
theorem dX2_leftOf_11 : decode cX2_leftOf 11 = .ok (.iaload, 1) := by decide +kernel
theorem dX2_leftOf_12 : decode cX2_leftOf 12 = .ok (.imul, 1) := by decide +kernel
theorem dX2_leftOf_13 : decode cX2_leftOf 13 = .ok (.istore_n 3, 1) := by decide +kernel
theorem dX2_leftOf_14 : decode cX2_leftOf 14 = .ok (.iconst 1, 1) := by decide +kernel
theorem dX2_leftOf_15 : decode cX2_leftOf 15 = .ok (.istore 4, 2) := by decide +kernel
theorem dX2_leftOf_17 : decode cX2_leftOf 17 = .ok (.iload 4, 2) := by decide +kernel
theorem dX2_leftOf_19 : decode cX2_leftOf 19 = .ok (.aload_n 0, 1) := by decide +kernel
theorem dX2_leftOf_20 : decode cX2_leftOf 20 = .ok (.invokevirtual 21, 3) := by decide +kernel
theorem dX2_leftOf_23 : decode cX2_leftOf 23 = .ok (.if_icmp .ge 33, 3) := by decide +kernel
theorem dX2_leftOf_26 : decode cX2_leftOf 26 = .ok (.iload 4, 2) := by decide +kernel
theorem dX2_leftOf_28 : decode cX2_leftOf 28 = .ok (.iload_n 1, 1) := by decide +kernel
theorem dX2_leftOf_29 : decode cX2_leftOf 29 = .ok (.invokestatic 25, 3) := by decide +kernel
theorem dX2_leftOf_32 : decode cX2_leftOf 32 = .ok (.iload 4, 2) := by decide +kernel
theorem dX2_leftOf_34 : decode cX2_leftOf 34 = .ok (.iload_n 2, 1) := by decide +kernel
theorem dX2_leftOf_35 : decode cX2_leftOf 35 = .ok (.invokestatic 25, 3) := by decide +kernel
theorem dX2_leftOf_38 : decode cX2_leftOf 38 = .ok (.if_icmp .eq 12, 3) := by decide +kernel
theorem dX2_leftOf_41 : decode cX2_leftOf 41 = .ok (.iload_n 3, 1) := by decide +kernel
theorem dX2_leftOf_42 : decode cX2_leftOf 42 = .ok (.aload_n 0, 1) := by decide +kernel
theorem dX2_leftOf_43 : decode cX2_leftOf 43 = .ok (.iload 4, 2) := by decide +kernel
theorem dX2_leftOf_45 : decode cX2_leftOf 45 = .ok (.invokevirtual 50, 3) := by decide +kernel
theorem dX2_leftOf_48 : decode cX2_leftOf 48 = .ok (.isub, 1) := by decide +kernel
theorem dX2_leftOf_49 : decode cX2_leftOf 49 = .ok (.istore_n 3, 1) := by decide +kernel
theorem dX2_leftOf_50 : decode cX2_leftOf 50 = .ok (.iinc 4 2, 3) := by decide +kernel
theorem dX2_leftOf_53 : decode cX2_leftOf 53 = .ok (.goto (-36), 3) := by decide +kernel
theorem dX2_leftOf_56 : decode cX2_leftOf 56 = .ok (.iload_n 3, 1) := by decide +kernel
theorem dX2_leftOf_57 : decode cX2_leftOf 57 = .ok (.ireturn, 1) := by decide +kernel
theorem dX3_init_0 : decode cX3_init 0 = .ok (.aload_n 0, 1) := by decide +kernel
theorem dX3_init_1 : decode cX3_init 1 = .ok (.invokespecial 3, 3) := by decide +kernel
theorem dX3_init_4 : decode cX3_init 4 = .ok (.aload_n 0, 1) := by decide +kernel
theorem dX3_init_5 : decode cX3_init 5 = .ok (.bipush 6, 2) := by decide +kernel
theorem dX3_init_7 : decode cX3_init 7 = .ok (.bipush 6, 2) := by decide +kernel
theorem dX3_init_9 : decode cX3_init 9 = .ok (.multianewarray 9 2, 4) := by decide +kernel
theorem dX3_init_13 : decode cX3_init 13 = .ok (.putfield 11, 3) := by decide +kernel
theorem dX3_init_16 : decode cX3_init 16 = .ok (.aload_n 0, 1) := by decide +kernel
theorem dX3_init_17 : decode cX3_init 17 = .ok (.bipush 6, 2) := by decide +kernel
theorem dX3_init_19 : decode cX3_init 19 = .ok (.bipush 6, 2) := by decide +kernel
theorem dX3_init_21 : decode cX3_init 21 = .ok (.multianewarray 9 2, 4) := by decide +kernel
theorem dX3_init_25 : decode cX3_init 25 = .ok (.putfield 16, 3) := by decide +kernel
theorem dX3_init_28 : decode cX3_init 28 = .ok (.return_, 1) := by decide +kernel
theorem dX3_begin_0 : decode cX3_begin 0 = .ok (.aload_n 0, 1) := by decide +kernel
theorem dX3_begin_1 : decode cX3_begin 1 = .ok (.iload_n 1, 1) := by decide +kernel
theorem dX3_begin_2 : decode cX3_begin 2 = .ok (.putfield 19, 3) := by decide +kernel
theorem dX3_begin_5 : decode cX3_begin 5 = .ok (.iconst 0, 1) := by decide +kernel
theorem dX3_begin_6 : decode cX3_begin 6 = .ok (.istore_n 2, 1) := by decide +kernel
theorem dX3_begin_7 : decode cX3_begin 7 = .ok (.iload_n 2, 1) := by decide +kernel
theorem dX3_begin_8 : decode cX3_begin 8 = .ok (.bipush 6, 2) := by decide +kernel
theorem dX3_begin_10 : decode cX3_begin 10 = .ok (.if_icmp .ge 28, 3) := by decide +kernel
theorem dX3_begin_13 : decode cX3_begin 13 = .ok (.aload_n 0, 1) := by decide +kernel
theorem dX3_begin_14 : decode cX3_begin 14 = .ok (.getfield 11, 3) := by decide +kernel
theorem dX3_begin_17 : decode cX3_begin 17 = .ok (.iload_n 2, 1) := by decide +kernel
theorem dX3_begin_18 : decode cX3_begin 18 = .ok (.aaload, 1) := by decide +kernel
theorem dX3_begin_19 : decode cX3_begin 19 = .ok (.iconst 1, 1) := by decide +kernel
theorem dX3_begin_20 : decode cX3_begin 20 = .ok (.invokestatic 23, 3) := by decide +kernel
theorem dX3_begin_23 : decode cX3_begin 23 = .ok (.aload_n 0, 1) := by decide +kernel
theorem dX3_begin_24 : decode cX3_begin 24 = .ok (.getfield 11, 3) := by decide +kernel
theorem dX3_begin_27 : decode cX3_begin 27 = .ok (.iload_n 2, 1) := by decide +kernel
theorem dX3_begin_28 : decode cX3_begin 28 = .ok (.aaload, 1) := by decide +kernel
theorem dX3_begin_29 : decode cX3_begin 29 = .ok (.iload_n 2, 1) := by decide +kernel
theorem dX3_begin_30 : decode cX3_begin 30 = .ok (.iconst 0, 1) := by decide +kernel
theorem dX3_begin_31 : decode cX3_begin 31 = .ok (.iastore, 1) := by decide +kernel
theorem dX3_begin_32 : decode cX3_begin 32 = .ok (.iinc 2 1, 3) := by decide +kernel
theorem dX3_begin_35 : decode cX3_begin 35 = .ok (.goto (-28), 3) := by decide +kernel
theorem dX3_begin_38 : decode cX3_begin 38 = .ok (.return_, 1) := by decide +kernel
theorem dX3_put_0 : decode cX3_put 0 = .ok (.aload_n 0, 1) := by decide +kernel
theorem dX3_put_1 : decode cX3_put 1 = .ok (.getfield 11, 3) := by decide +kernel
theorem dX3_put_4 : decode cX3_put 4 = .ok (.iload_n 1, 1) := by decide +kernel
theorem dX3_put_5 : decode cX3_put 5 = .ok (.aaload, 1) := by decide +kernel
theorem dX3_put_6 : decode cX3_put 6 = .ok (.iload_n 2, 1) := by decide +kernel
theorem dX3_put_7 : decode cX3_put 7 = .ok (.iload_n 3, 1) := by decide +kernel
theorem dX3_put_8 : decode cX3_put 8 = .ok (.iastore, 1) := by decide +kernel
theorem dX3_put_9 : decode cX3_put 9 = .ok (.aload_n 0, 1) := by decide +kernel
theorem dX3_put_10 : decode cX3_put 10 = .ok (.getfield 11, 3) := by decide +kernel
theorem dX3_put_13 : decode cX3_put 13 = .ok (.iload_n 2, 1) := by decide +kernel
theorem dX3_put_14 : decode cX3_put 14 = .ok (.aaload, 1) := by decide +kernel
theorem dX3_put_15 : decode cX3_put 15 = .ok (.iload_n 1, 1) := by decide +kernel
theorem dX3_put_16 : decode cX3_put 16 = .ok (.iload_n 3, 1) := by decide +kernel
theorem dX3_put_17 : decode cX3_put 17 = .ok (.iastore, 1) := by decide +kernel
theorem dX3_put_18 : decode cX3_put 18 = .ok (.return_, 1) := by decide +kernel
theorem dX3_together_0 : decode cX3_together 0 = .ok (.iload_n 2, 1) := by decide +kernel
theorem dX3_together_1 : decode cX3_together 1 = .ok (.ifCond .ne 9, 3) := by decide +kernel
theorem dX3_together_4 : decode cX3_together 4 = .ok (.iload_n 0, 1) := by decide +kernel
theorem dX3_together_5 : decode cX3_together 5 = .ok (.iload_n 1, 1) := by decide +kernel
theorem dX3_together_6 : decode cX3_together 6 = .ok (.iadd, 1) := by decide +kernel
theorem dX3_together_7 : decode cX3_together 7 = .ok (.goto 8, 3) := by decide +kernel
theorem dX3_together_10 : decode cX3_together 10 = .ok (.iload_n 0, 1) := by decide +kernel
theorem dX3_together_11 : decode cX3_together 11 = .ok (.iload_n 1, 1) := by decide +kernel
theorem dX3_together_12 : decode cX3_together 12 = .ok (.invokestatic 29, 3) := by decide +kernel
theorem dX3_together_15 : decode cX3_together 15 = .ok (.ireturn, 1) := by decide +kernel
theorem dX3_brokenThrees_0 : decode cX3_brokenThrees 0 = .ok (.iconst 0, 1) := by decide +kernel
theorem dX3_brokenThrees_1 : decode cX3_brokenThrees 1 = .ok (.istore_n 2, 1) := by decide +kernel
theorem dX3_brokenThrees_2 : decode cX3_brokenThrees 2 = .ok (.iconst 0, 1) := by decide +kernel
theorem dX3_brokenThrees_3 : decode cX3_brokenThrees 3 = .ok (.istore_n 3, 1) := by decide +kernel
theorem dX3_brokenThrees_4 : decode cX3_brokenThrees 4 = .ok (.iload_n 3, 1) := by decide +kernel
theorem dX3_brokenThrees_5 : decode cX3_brokenThrees 5 = .ok (.aload_n 0, 1) := by decide +kernel
theorem dX3_brokenThrees_6 : decode cX3_brokenThrees 6 = .ok (.getfield 19, 3) := by decide +kernel
theorem dX3_brokenThrees_9 : decode cX3_brokenThrees 9 = .ok (.if_icmp .ge 40, 3) := by decide +kernel
theorem dX3_brokenThrees_12 : decode cX3_brokenThrees 12 = .ok (.iload_n 3, 1) := by decide +kernel
theorem dX3_brokenThrees_13 : decode cX3_brokenThrees 13 = .ok (.iconst 1, 1) := by decide +kernel
theorem dX3_brokenThrees_14 : decode cX3_brokenThrees 14 = .ok (.iadd, 1) := by decide +kernel
theorem dX3_brokenThrees_15 : decode cX3_brokenThrees 15 = .ok (.istore 4, 2) := by decide +kernel
theorem dX3_brokenThrees_17 : decode cX3_brokenThrees 17 = .ok (.iload 4, 2) := by decide +kernel
theorem dX3_brokenThrees_19 : decode cX3_brokenThrees 19 = .ok (.aload_n 0, 1) := by decide +kernel
theorem dX3_brokenThrees_20 : decode cX3_brokenThrees 20 = .ok (.getfield 19, 3) := by decide +kernel
theorem dX3_brokenThrees_23 : decode cX3_brokenThrees 23 = .ok (.if_icmp .ge 20, 3) := by decide +kernel
theorem dX3_brokenThrees_26 : decode cX3_brokenThrees 26 = .ok (.iload_n 2, 1) := by decide +kernel
theorem dX3_brokenThrees_27 : decode cX3_brokenThrees 27 = .ok (.aload_n 0, 1) := by decide +kernel
theorem dX3_brokenThrees_28 : decode cX3_brokenThrees 28 = .ok (.iload_n 3, 1) := by decide +kernel
theorem dX3_brokenThrees_29 : decode cX3_brokenThrees 29 = .ok (.iload 4, 2) := by decide +kernel
theorem dX3_brokenThrees_31 : decode cX3_brokenThrees 31 = .ok (.iload_n 1, 1) := by decide +kernel
theorem dX3_brokenThrees_32 : decode cX3_brokenThrees 32 = .ok (.invokevirtual 35, 3) := by decide +kernel
theorem dX3_brokenThrees_35 : decode cX3_brokenThrees 35 = .ok (.iadd, 1) := by decide +kernel
theorem dX3_brokenThrees_36 : decode cX3_brokenThrees 36 = .ok (.istore_n 2, 1) := by decide +kernel
theorem dX3_brokenThrees_37 : decode cX3_brokenThrees 37 = .ok (.iinc 4 1, 3) := by decide +kernel
theorem dX3_brokenThrees_40 : decode cX3_brokenThrees 40 = .ok (.goto (-23), 3) := by decide +kernel
theorem dX3_brokenThrees_43 : decode cX3_brokenThrees 43 = .ok (.iinc 3 1, 3) := by decide +kernel
theorem dX3_brokenThrees_46 : decode cX3_brokenThrees 46 = .ok (.goto (-42), 3) := by decide +kernel
theorem dX3_brokenThrees_49 : decode cX3_brokenThrees 49 = .ok (.iload_n 2, 1) := by decide +kernel
theorem dX3_brokenThrees_50 : decode cX3_brokenThrees 50 = .ok (.ireturn, 1) := by decide +kernel
theorem dX3_shorterBy_0 : decode cX3_shorterBy 0 = .ok (.iconst 0, 1) := by decide +kernel
theorem dX3_shorterBy_1 : decode cX3_shorterBy 1 = .ok (.istore 4, 2) := by decide +kernel
theorem dX3_shorterBy_3 : decode cX3_shorterBy 3 = .ok (.iconst 0, 1) := by decide +kernel
theorem dX3_shorterBy_4 : decode cX3_shorterBy 4 = .ok (.istore 5, 2) := by decide +kernel
theorem dX3_shorterBy_6 : decode cX3_shorterBy 6 = .ok (.iload 5, 2) := by decide +kernel
theorem dX3_shorterBy_8 : decode cX3_shorterBy 8 = .ok (.aload_n 0, 1) := by decide +kernel
theorem dX3_shorterBy_9 : decode cX3_shorterBy 9 = .ok (.getfield 19, 3) := by decide +kernel
theorem dX3_shorterBy_12 : decode cX3_shorterBy 12 = .ok (.if_icmp .ge 45, 3) := by decide +kernel
theorem dX3_shorterBy_15 : decode cX3_shorterBy 15 = .ok (.aload_n 0, 1) := by decide +kernel
theorem dX3_shorterBy_16 : decode cX3_shorterBy 16 = .ok (.getfield 11, 3) := by decide +kernel
theorem dX3_shorterBy_19 : decode cX3_shorterBy 19 = .ok (.iload_n 1, 1) := by decide +kernel
theorem dX3_shorterBy_20 : decode cX3_shorterBy 20 = .ok (.aaload, 1) := by decide +kernel
theorem dX3_shorterBy_21 : decode cX3_shorterBy 21 = .ok (.iload_n 2, 1) := by decide +kernel
theorem dX3_shorterBy_22 : decode cX3_shorterBy 22 = .ok (.iaload, 1) := by decide +kernel
theorem dX3_shorterBy_23 : decode cX3_shorterBy 23 = .ok (.aload_n 0, 1) := by decide +kernel
theorem dX3_shorterBy_24 : decode cX3_shorterBy 24 = .ok (.getfield 11, 3) := by decide +kernel
theorem dX3_shorterBy_27 : decode cX3_shorterBy 27 = .ok (.iload_n 1, 1) := by decide +kernel
theorem dX3_shorterBy_28 : decode cX3_shorterBy 28 = .ok (.aaload, 1) := by decide +kernel
theorem dX3_shorterBy_29 : decode cX3_shorterBy 29 = .ok (.iload 5, 2) := by decide +kernel
theorem dX3_shorterBy_31 : decode cX3_shorterBy 31 = .ok (.iaload, 1) := by decide +kernel
theorem dX3_shorterBy_32 : decode cX3_shorterBy 32 = .ok (.aload_n 0, 1) := by decide +kernel
theorem dX3_shorterBy_33 : decode cX3_shorterBy 33 = .ok (.getfield 11, 3) := by decide +kernel
theorem dX3_shorterBy_36 : decode cX3_shorterBy 36 = .ok (.iload 5, 2) := by decide +kernel
theorem dX3_shorterBy_38 : decode cX3_shorterBy 38 = .ok (.aaload, 1) := by decide +kernel
theorem dX3_shorterBy_39 : decode cX3_shorterBy 39 = .ok (.iload_n 2, 1) := by decide +kernel
theorem dX3_shorterBy_40 : decode cX3_shorterBy 40 = .ok (.iaload, 1) := by decide +kernel
theorem dX3_shorterBy_41 : decode cX3_shorterBy 41 = .ok (.iload_n 3, 1) := by decide +kernel
theorem dX3_shorterBy_42 : decode cX3_shorterBy 42 = .ok (.invokestatic 39, 3) := by decide +kernel
theorem dX3_shorterBy_45 : decode cX3_shorterBy 45 = .ok (.if_icmp .le 6, 3) := by decide +kernel
theorem dX3_shorterBy_48 : decode cX3_shorterBy 48 = .ok (.iinc 4 1, 3) := by decide +kernel
theorem dX3_shorterBy_51 : decode cX3_shorterBy 51 = .ok (.iinc 5 1, 3) := by decide +kernel
theorem dX3_shorterBy_54 : decode cX3_shorterBy 54 = .ok (.goto (-48), 3) := by decide +kernel
theorem dX3_shorterBy_57 : decode cX3_shorterBy 57 = .ok (.iload 4, 2) := by decide +kernel
theorem dX3_shorterBy_59 : decode cX3_shorterBy 59 = .ok (.ireturn, 1) := by decide +kernel
theorem dX3_brokenFours_0 : decode cX3_brokenFours 0 = .ok (.iconst 0, 1) := by decide +kernel
theorem dX3_brokenFours_1 : decode cX3_brokenFours 1 = .ok (.istore_n 1, 1) := by decide +kernel
theorem dX3_brokenFours_2 : decode cX3_brokenFours 2 = .ok (.iconst 0, 1) := by decide +kernel
theorem dX3_brokenFours_3 : decode cX3_brokenFours 3 = .ok (.istore_n 2, 1) := by decide +kernel
theorem dX3_brokenFours_4 : decode cX3_brokenFours 4 = .ok (.iload_n 2, 1) := by decide +kernel
theorem dX3_brokenFours_5 : decode cX3_brokenFours 5 = .ok (.aload_n 0, 1) := by decide +kernel
theorem dX3_brokenFours_6 : decode cX3_brokenFours 6 = .ok (.getfield 19, 3) := by decide +kernel
theorem dX3_brokenFours_9 : decode cX3_brokenFours 9 = .ok (.if_icmp .ge 58, 3) := by decide +kernel
theorem dX3_brokenFours_12 : decode cX3_brokenFours 12 = .ok (.iload_n 2, 1) := by decide +kernel
theorem dX3_brokenFours_13 : decode cX3_brokenFours 13 = .ok (.iconst 1, 1) := by decide +kernel
theorem dX3_brokenFours_14 : decode cX3_brokenFours 14 = .ok (.iadd, 1) := by decide +kernel
theorem dX3_brokenFours_15 : decode cX3_brokenFours 15 = .ok (.istore_n 3, 1) := by decide +kernel
theorem dX3_brokenFours_16 : decode cX3_brokenFours 16 = .ok (.iload_n 3, 1) := by decide +kernel
theorem dX3_brokenFours_17 : decode cX3_brokenFours 17 = .ok (.aload_n 0, 1) := by decide +kernel
theorem dX3_brokenFours_18 : decode cX3_brokenFours 18 = .ok (.getfield 19, 3) := by decide +kernel
theorem dX3_brokenFours_21 : decode cX3_brokenFours 21 = .ok (.if_icmp .ge 40, 3) := by decide +kernel
theorem dX3_brokenFours_24 : decode cX3_brokenFours 24 = .ok (.iload_n 3, 1) := by decide +kernel
theorem dX3_brokenFours_25 : decode cX3_brokenFours 25 = .ok (.iconst 1, 1) := by decide +kernel
theorem dX3_brokenFours_26 : decode cX3_brokenFours 26 = .ok (.iadd, 1) := by decide +kernel
theorem dX3_brokenFours_27 : decode cX3_brokenFours 27 = .ok (.istore 4, 2) := by decide +kernel
theorem dX3_brokenFours_29 : decode cX3_brokenFours 29 = .ok (.iload 4, 2) := by decide +kernel
theorem dX3_brokenFours_31 : decode cX3_brokenFours 31 = .ok (.aload_n 0, 1) := by decide +kernel
theorem dX3_brokenFours_32 : decode cX3_brokenFours 32 = .ok (.getfield 19, 3) := by decide +kernel
theorem dX3_brokenFours_35 : decode cX3_brokenFours 35 = .ok (.if_icmp .ge 20, 3) := by decide +kernel
theorem dX3_brokenFours_38 : decode cX3_brokenFours 38 = .ok (.iload_n 1, 1) := by decide +kernel
theorem dX3_brokenFours_39 : decode cX3_brokenFours 39 = .ok (.aload_n 0, 1) := by decide +kernel
theorem dX3_brokenFours_40 : decode cX3_brokenFours 40 = .ok (.iload_n 2, 1) := by decide +kernel
theorem dX3_brokenFours_41 : decode cX3_brokenFours 41 = .ok (.iload_n 3, 1) := by decide +kernel
theorem dX3_brokenFours_42 : decode cX3_brokenFours 42 = .ok (.iload 4, 2) := by decide +kernel
theorem dX3_brokenFours_44 : decode cX3_brokenFours 44 = .ok (.invokevirtual 42, 3) := by decide +kernel
theorem dX3_brokenFours_47 : decode cX3_brokenFours 47 = .ok (.iadd, 1) := by decide +kernel
theorem dX3_brokenFours_48 : decode cX3_brokenFours 48 = .ok (.istore_n 1, 1) := by decide +kernel
theorem dX3_brokenFours_49 : decode cX3_brokenFours 49 = .ok (.iinc 4 1, 3) := by decide +kernel
theorem dX3_brokenFours_52 : decode cX3_brokenFours 52 = .ok (.goto (-23), 3) := by decide +kernel
theorem dX3_brokenFours_55 : decode cX3_brokenFours 55 = .ok (.iinc 3 1, 3) := by decide +kernel
theorem dX3_brokenFours_58 : decode cX3_brokenFours 58 = .ok (.goto (-42), 3) := by decide +kernel
theorem dX3_brokenFours_61 : decode cX3_brokenFours 61 = .ok (.iinc 2 1, 3) := by decide +kernel
theorem dX3_brokenFours_64 : decode cX3_brokenFours 64 = .ok (.goto (-60), 3) := by decide +kernel
theorem dX3_brokenFours_67 : decode cX3_brokenFours 67 = .ok (.iload_n 1, 1) := by decide +kernel
theorem dX3_brokenFours_68 : decode cX3_brokenFours 68 = .ok (.ireturn, 1) := by decide +kernel
theorem dX3_brokenFoursFrom_0 : decode cX3_brokenFoursFrom 0 = .ok (.iconst 0, 1) := by decide +kernel
theorem dX3_brokenFoursFrom_1 : decode cX3_brokenFoursFrom 1 = .ok (.istore 4, 2) := by decide +kernel
theorem dX3_brokenFoursFrom_3 : decode cX3_brokenFoursFrom 3 = .ok (.iload_n 3, 1) := by decide +kernel
theorem dX3_brokenFoursFrom_4 : decode cX3_brokenFoursFrom 4 = .ok (.iconst 1, 1) := by decide +kernel
theorem dX3_brokenFoursFrom_5 : decode cX3_brokenFoursFrom 5 = .ok (.iadd, 1) := by decide +kernel
theorem dX3_brokenFoursFrom_6 : decode cX3_brokenFoursFrom 6 = .ok (.istore 5, 2) := by decide +kernel
theorem dX3_brokenFoursFrom_8 : decode cX3_brokenFoursFrom 8 = .ok (.iload 5, 2) := by decide +kernel
theorem dX3_brokenFoursFrom_10 : decode cX3_brokenFoursFrom 10 = .ok (.aload_n 0, 1) := by decide +kernel
theorem dX3_brokenFoursFrom_11 : decode cX3_brokenFoursFrom 11 = .ok (.getfield 19, 3) := by decide +kernel
theorem dX3_brokenFoursFrom_14 : decode cX3_brokenFoursFrom 14 = .ok (.if_icmp .ge 72, 3) := by decide +kernel
theorem dX3_brokenFoursFrom_17 : decode cX3_brokenFoursFrom 17 = .ok (.aload_n 0, 1) := by decide +kernel
theorem dX3_brokenFoursFrom_18 : decode cX3_brokenFoursFrom 18 = .ok (.getfield 11, 3) := by decide +kernel
theorem dX3_brokenFoursFrom_21 : decode cX3_brokenFoursFrom 21 = .ok (.iload_n 1, 1) := by decide +kernel
theorem dX3_brokenFoursFrom_22 : decode cX3_brokenFoursFrom 22 = .ok (.aaload, 1) := by decide +kernel
theorem dX3_brokenFoursFrom_23 : decode cX3_brokenFoursFrom 23 = .ok (.iload_n 2, 1) := by decide +kernel
theorem dX3_brokenFoursFrom_24 : decode cX3_brokenFoursFrom 24 = .ok (.iaload, 1) := by decide +kernel
theorem dX3_brokenFoursFrom_25 : decode cX3_brokenFoursFrom 25 = .ok (.aload_n 0, 1) := by decide +kernel
theorem dX3_brokenFoursFrom_26 : decode cX3_brokenFoursFrom 26 = .ok (.getfield 11, 3) := by decide +kernel
theorem dX3_brokenFoursFrom_29 : decode cX3_brokenFoursFrom 29 = .ok (.iload_n 3, 1) := by decide +kernel
theorem dX3_brokenFoursFrom_30 : decode cX3_brokenFoursFrom 30 = .ok (.aaload, 1) := by decide +kernel
theorem dX3_brokenFoursFrom_31 : decode cX3_brokenFoursFrom 31 = .ok (.iload 5, 2) := by decide +kernel
theorem dX3_brokenFoursFrom_33 : decode cX3_brokenFoursFrom 33 = .ok (.iaload, 1) := by decide +kernel
theorem dX3_brokenFoursFrom_34 : decode cX3_brokenFoursFrom 34 = .ok (.iadd, 1) := by decide +kernel
theorem dX3_brokenFoursFrom_35 : decode cX3_brokenFoursFrom 35 = .ok (.aload_n 0, 1) := by decide +kernel
theorem dX3_brokenFoursFrom_36 : decode cX3_brokenFoursFrom 36 = .ok (.getfield 11, 3) := by decide +kernel
theorem dX3_brokenFoursFrom_39 : decode cX3_brokenFoursFrom 39 = .ok (.iload_n 1, 1) := by decide +kernel
theorem dX3_brokenFoursFrom_40 : decode cX3_brokenFoursFrom 40 = .ok (.aaload, 1) := by decide +kernel
theorem dX3_brokenFoursFrom_41 : decode cX3_brokenFoursFrom 41 = .ok (.iload_n 3, 1) := by decide +kernel
theorem dX3_brokenFoursFrom_42 : decode cX3_brokenFoursFrom 42 = .ok (.iaload, 1) := by decide +kernel
theorem dX3_brokenFoursFrom_43 : decode cX3_brokenFoursFrom 43 = .ok (.aload_n 0, 1) := by decide +kernel
theorem dX3_brokenFoursFrom_44 : decode cX3_brokenFoursFrom 44 = .ok (.getfield 11, 3) := by decide +kernel
theorem dX3_brokenFoursFrom_47 : decode cX3_brokenFoursFrom 47 = .ok (.iload_n 2, 1) := by decide +kernel
theorem dX3_brokenFoursFrom_48 : decode cX3_brokenFoursFrom 48 = .ok (.aaload, 1) := by decide +kernel
theorem dX3_brokenFoursFrom_49 : decode cX3_brokenFoursFrom 49 = .ok (.iload 5, 2) := by decide +kernel
theorem dX3_brokenFoursFrom_51 : decode cX3_brokenFoursFrom 51 = .ok (.iaload, 1) := by decide +kernel
theorem dX3_brokenFoursFrom_52 : decode cX3_brokenFoursFrom 52 = .ok (.iadd, 1) := by decide +kernel
theorem dX3_brokenFoursFrom_53 : decode cX3_brokenFoursFrom 53 = .ok (.aload_n 0, 1) := by decide +kernel
theorem dX3_brokenFoursFrom_54 : decode cX3_brokenFoursFrom 54 = .ok (.getfield 11, 3) := by decide +kernel
theorem dX3_brokenFoursFrom_57 : decode cX3_brokenFoursFrom 57 = .ok (.iload_n 1, 1) := by decide +kernel
theorem dX3_brokenFoursFrom_58 : decode cX3_brokenFoursFrom 58 = .ok (.aaload, 1) := by decide +kernel
theorem dX3_brokenFoursFrom_59 : decode cX3_brokenFoursFrom 59 = .ok (.iload 5, 2) := by decide +kernel
theorem dX3_brokenFoursFrom_61 : decode cX3_brokenFoursFrom 61 = .ok (.iaload, 1) := by decide +kernel
theorem dX3_brokenFoursFrom_62 : decode cX3_brokenFoursFrom 62 = .ok (.aload_n 0, 1) := by decide +kernel
theorem dX3_brokenFoursFrom_63 : decode cX3_brokenFoursFrom 63 = .ok (.getfield 11, 3) := by decide +kernel
theorem dX3_brokenFoursFrom_66 : decode cX3_brokenFoursFrom 66 = .ok (.iload_n 2, 1) := by decide +kernel
theorem dX3_brokenFoursFrom_67 : decode cX3_brokenFoursFrom 67 = .ok (.aaload, 1) := by decide +kernel
theorem dX3_brokenFoursFrom_68 : decode cX3_brokenFoursFrom 68 = .ok (.iload_n 3, 1) := by decide +kernel
theorem dX3_brokenFoursFrom_69 : decode cX3_brokenFoursFrom 69 = .ok (.iaload, 1) := by decide +kernel
theorem dX3_brokenFoursFrom_70 : decode cX3_brokenFoursFrom 70 = .ok (.iadd, 1) := by decide +kernel
theorem dX3_brokenFoursFrom_71 : decode cX3_brokenFoursFrom 71 = .ok (.invokestatic 45, 3) := by decide +kernel
theorem dX3_brokenFoursFrom_74 : decode cX3_brokenFoursFrom 74 = .ok (.ifCond .ne 6, 3) := by decide +kernel
theorem dX3_brokenFoursFrom_77 : decode cX3_brokenFoursFrom 77 = .ok (.iinc 4 1, 3) := by decide +kernel
theorem dX3_brokenFoursFrom_80 : decode cX3_brokenFoursFrom 80 = .ok (.iinc 5 1, 3) := by decide +kernel
theorem dX3_brokenFoursFrom_83 : decode cX3_brokenFoursFrom 83 = .ok (.goto (-75), 3) := by decide +kernel
theorem dX3_brokenFoursFrom_86 : decode cX3_brokenFoursFrom 86 = .ok (.iload 4, 2) := by decide +kernel
theorem dX3_brokenFoursFrom_88 : decode cX3_brokenFoursFrom 88 = .ok (.ireturn, 1) := by decide +kernel
theorem dX3_twoGreatestAlike_0 : decode cX3_twoGreatestAlike 0 = .ok (.iload_n 0, 1) := by decide +kernel
theorem dX3_twoGreatestAlike_1 : decode cX3_twoGreatestAlike 1 = .ok (.iload_n 1, 1) := by decide +kernel
theorem dX3_twoGreatestAlike_2 : decode cX3_twoGreatestAlike 2 = .ok (.iload_n 2, 1) := by decide +kernel
theorem dX3_twoGreatestAlike_3 : decode cX3_twoGreatestAlike 3 = .ok (.invokestatic 29, 3) := by decide +kernel
theorem dX3_twoGreatestAlike_6 : decode cX3_twoGreatestAlike 6 = .ok (.invokestatic 29, 3) := by decide +kernel
theorem dX3_twoGreatestAlike_9 : decode cX3_twoGreatestAlike 9 = .ok (.istore_n 3, 1) := by decide +kernel
theorem dX3_twoGreatestAlike_10 : decode cX3_twoGreatestAlike 10 = .ok (.iload_n 0, 1) := by decide +kernel
theorem dX3_twoGreatestAlike_11 : decode cX3_twoGreatestAlike 11 = .ok (.iload_n 1, 1) := by decide +kernel
theorem dX3_twoGreatestAlike_12 : decode cX3_twoGreatestAlike 12 = .ok (.if_icmp .ne 8, 3) := by decide +kernel
theorem dX3_twoGreatestAlike_15 : decode cX3_twoGreatestAlike 15 = .ok (.iload_n 0, 1) := by decide +kernel
theorem dX3_twoGreatestAlike_16 : decode cX3_twoGreatestAlike 16 = .ok (.iload_n 3, 1) := by decide +kernel
theorem dX3_twoGreatestAlike_17 : decode cX3_twoGreatestAlike 17 = .ok (.if_icmp .eq 23, 3) := by decide +kernel
theorem dX3_twoGreatestAlike_20 : decode cX3_twoGreatestAlike 20 = .ok (.iload_n 0, 1) := by decide +kernel
theorem dX3_twoGreatestAlike_21 : decode cX3_twoGreatestAlike 21 = .ok (.iload_n 2, 1) := by decide +kernel
theorem dX3_twoGreatestAlike_22 : decode cX3_twoGreatestAlike 22 = .ok (.if_icmp .ne 8, 3) := by decide +kernel
theorem dX3_twoGreatestAlike_25 : decode cX3_twoGreatestAlike 25 = .ok (.iload_n 0, 1) := by decide +kernel
theorem dX3_twoGreatestAlike_26 : decode cX3_twoGreatestAlike 26 = .ok (.iload_n 3, 1) := by decide +kernel
theorem dX3_twoGreatestAlike_27 : decode cX3_twoGreatestAlike 27 = .ok (.if_icmp .eq 13, 3) := by decide +kernel
theorem dX3_twoGreatestAlike_30 : decode cX3_twoGreatestAlike 30 = .ok (.iload_n 1, 1) := by decide +kernel
theorem dX3_twoGreatestAlike_31 : decode cX3_twoGreatestAlike 31 = .ok (.iload_n 2, 1) := by decide +kernel
theorem dX3_twoGreatestAlike_32 : decode cX3_twoGreatestAlike 32 = .ok (.if_icmp .ne 12, 3) := by decide +kernel
theorem dX3_twoGreatestAlike_35 : decode cX3_twoGreatestAlike 35 = .ok (.iload_n 1, 1) := by decide +kernel
theorem dX3_twoGreatestAlike_36 : decode cX3_twoGreatestAlike 36 = .ok (.iload_n 3, 1) := by decide +kernel
theorem dX3_twoGreatestAlike_37 : decode cX3_twoGreatestAlike 37 = .ok (.if_icmp .ne 7, 3) := by decide +kernel
theorem dX3_twoGreatestAlike_40 : decode cX3_twoGreatestAlike 40 = .ok (.iconst 1, 1) := by decide +kernel
theorem dX3_twoGreatestAlike_41 : decode cX3_twoGreatestAlike 41 = .ok (.goto 4, 3) := by decide +kernel
theorem dX3_twoGreatestAlike_44 : decode cX3_twoGreatestAlike 44 = .ok (.iconst 0, 1) := by decide +kernel
theorem dX3_twoGreatestAlike_45 : decode cX3_twoGreatestAlike 45 = .ok (.ireturn, 1) := by decide +kernel
theorem dX3_closed_0 : decode cX3_closed 0 = .ok (.iconst 0, 1) := by decide +kernel
theorem dX3_closed_1 : decode cX3_closed 1 = .ok (.istore_n 2, 1) := by decide +kernel
theorem dX3_closed_2 : decode cX3_closed 2 = .ok (.iload_n 2, 1) := by decide +kernel
theorem dX3_closed_3 : decode cX3_closed 3 = .ok (.aload_n 0, 1) := by decide +kernel
theorem dX3_closed_4 : decode cX3_closed 4 = .ok (.getfield 19, 3) := by decide +kernel
theorem dX3_closed_7 : decode cX3_closed 7 = .ok (.if_icmp .ge 30, 3) := by decide +kernel
theorem dX3_closed_10 : decode cX3_closed 10 = .ok (.aload_n 0, 1) := by decide +kernel
theorem dX3_closed_11 : decode cX3_closed 11 = .ok (.getfield 11, 3) := by decide +kernel
theorem dX3_closed_14 : decode cX3_closed 14 = .ok (.iload_n 2, 1) := by decide +kernel
theorem dX3_closed_15 : decode cX3_closed 15 = .ok (.aaload, 1) := by decide +kernel
theorem dX3_closed_16 : decode cX3_closed 16 = .ok (.iconst 0, 1) := by decide +kernel
theorem dX3_closed_17 : decode cX3_closed 17 = .ok (.aload_n 0, 1) := by decide +kernel
theorem dX3_closed_18 : decode cX3_closed 18 = .ok (.getfield 16, 3) := by decide +kernel
theorem dX3_closed_21 : decode cX3_closed 21 = .ok (.iload_n 2, 1) := by decide +kernel
theorem dX3_closed_22 : decode cX3_closed 22 = .ok (.aaload, 1) := by decide +kernel
theorem dX3_closed_23 : decode cX3_closed 23 = .ok (.iconst 0, 1) := by decide +kernel
theorem dX3_closed_24 : decode cX3_closed 24 = .ok (.aload_n 0, 1) := by decide +kernel
theorem dX3_closed_25 : decode cX3_closed 25 = .ok (.getfield 19, 3) := by decide +kernel
theorem dX3_closed_28 : decode cX3_closed 28 = .ok (.invokestatic 49, 3) := by decide +kernel
theorem dX3_closed_31 : decode cX3_closed 31 = .ok (.iinc 2 1, 3) := by decide +kernel
theorem dX3_closed_34 : decode cX3_closed 34 = .ok (.goto (-32), 3) := by decide +kernel
theorem dX3_closed_37 : decode cX3_closed 37 = .ok (.iconst 0, 1) := by decide +kernel
theorem dX3_closed_38 : decode cX3_closed 38 = .ok (.istore_n 2, 1) := by decide +kernel
theorem dX3_closed_39 : decode cX3_closed 39 = .ok (.iload_n 2, 1) := by decide +kernel
theorem dX3_closed_40 : decode cX3_closed 40 = .ok (.aload_n 0, 1) := by decide +kernel
theorem dX3_closed_41 : decode cX3_closed 41 = .ok (.getfield 19, 3) := by decide +kernel
theorem dX3_closed_44 : decode cX3_closed 44 = .ok (.if_icmp .ge 15, 3) := by decide +kernel
theorem dX3_closed_47 : decode cX3_closed 47 = .ok (.aload_n 0, 1) := by decide +kernel
theorem dX3_closed_48 : decode cX3_closed 48 = .ok (.iload_n 2, 1) := by decide +kernel
theorem dX3_closed_49 : decode cX3_closed 49 = .ok (.iload_n 1, 1) := by decide +kernel
theorem dX3_closed_50 : decode cX3_closed 50 = .ok (.invokevirtual 55, 3) := by decide +kernel
theorem dX3_closed_53 : decode cX3_closed 53 = .ok (.iinc 2 1, 3) := by decide +kernel
theorem dX3_closed_56 : decode cX3_closed 56 = .ok (.goto (-17), 3) := by decide +kernel
theorem dX3_closed_59 : decode cX3_closed 59 = .ok (.aload_n 0, 1) := by decide +kernel
theorem dX3_closed_60 : decode cX3_closed 60 = .ok (.getfield 16, 3) := by decide +kernel
theorem dX3_closed_63 : decode cX3_closed 63 = .ok (.areturn, 1) := by decide +kernel
theorem dX3_shortenBy_0 : decode cX3_shortenBy 0 = .ok (.iconst 0, 1) := by decide +kernel
theorem dX3_shortenBy_1 : decode cX3_shortenBy 1 = .ok (.istore_n 3, 1) := by decide +kernel
theorem dX3_shortenBy_2 : decode cX3_shortenBy 2 = .ok (.iload_n 3, 1) := by decide +kernel
theorem dX3_shortenBy_3 : decode cX3_shortenBy 3 = .ok (.aload_n 0, 1) := by decide +kernel
theorem dX3_shortenBy_4 : decode cX3_shortenBy 4 = .ok (.getfield 19, 3) := by decide +kernel
theorem dX3_shortenBy_7 : decode cX3_shortenBy 7 = .ok (.if_icmp .ge 69, 3) := by decide +kernel
theorem dX3_shortenBy_10 : decode cX3_shortenBy 10 = .ok (.iconst 0, 1) := by decide +kernel
theorem dX3_shortenBy_11 : decode cX3_shortenBy 11 = .ok (.istore 4, 2) := by decide +kernel
theorem dX3_shortenBy_13 : decode cX3_shortenBy 13 = .ok (.iload 4, 2) := by decide +kernel
theorem dX3_shortenBy_15 : decode cX3_shortenBy 15 = .ok (.aload_n 0, 1) := by decide +kernel
theorem dX3_shortenBy_16 : decode cX3_shortenBy 16 = .ok (.getfield 19, 3) := by decide +kernel
theorem dX3_shortenBy_19 : decode cX3_shortenBy 19 = .ok (.if_icmp .ge 51, 3) := by decide +kernel
theorem dX3_shortenBy_22 : decode cX3_shortenBy 22 = .ok (.aload_n 0, 1) := by decide +kernel
theorem dX3_shortenBy_23 : decode cX3_shortenBy 23 = .ok (.getfield 16, 3) := by decide +kernel
theorem dX3_shortenBy_26 : decode cX3_shortenBy 26 = .ok (.iload_n 3, 1) := by decide +kernel
theorem dX3_shortenBy_27 : decode cX3_shortenBy 27 = .ok (.aaload, 1) := by decide +kernel
theorem dX3_shortenBy_28 : decode cX3_shortenBy 28 = .ok (.iload 4, 2) := by decide +kernel
theorem dX3_shortenBy_30 : decode cX3_shortenBy 30 = .ok (.aload_n 0, 1) := by decide +kernel
theorem dX3_shortenBy_31 : decode cX3_shortenBy 31 = .ok (.getfield 16, 3) := by decide +kernel
theorem dX3_shortenBy_34 : decode cX3_shortenBy 34 = .ok (.iload_n 3, 1) := by decide +kernel
theorem dX3_shortenBy_35 : decode cX3_shortenBy 35 = .ok (.aaload, 1) := by decide +kernel
theorem dX3_shortenBy_36 : decode cX3_shortenBy 36 = .ok (.iload 4, 2) := by decide +kernel
theorem dX3_shortenBy_38 : decode cX3_shortenBy 38 = .ok (.iaload, 1) := by decide +kernel
theorem dX3_shortenBy_39 : decode cX3_shortenBy 39 = .ok (.aload_n 0, 1) := by decide +kernel
theorem dX3_shortenBy_40 : decode cX3_shortenBy 40 = .ok (.getfield 16, 3) := by decide +kernel
theorem dX3_shortenBy_43 : decode cX3_shortenBy 43 = .ok (.iload_n 3, 1) := by decide +kernel
theorem dX3_shortenBy_44 : decode cX3_shortenBy 44 = .ok (.aaload, 1) := by decide +kernel
theorem dX3_shortenBy_45 : decode cX3_shortenBy 45 = .ok (.iload_n 1, 1) := by decide +kernel
theorem dX3_shortenBy_46 : decode cX3_shortenBy 46 = .ok (.iaload, 1) := by decide +kernel
theorem dX3_shortenBy_47 : decode cX3_shortenBy 47 = .ok (.aload_n 0, 1) := by decide +kernel
theorem dX3_shortenBy_48 : decode cX3_shortenBy 48 = .ok (.getfield 16, 3) := by decide +kernel
theorem dX3_shortenBy_51 : decode cX3_shortenBy 51 = .ok (.iload_n 1, 1) := by decide +kernel
theorem dX3_shortenBy_52 : decode cX3_shortenBy 52 = .ok (.aaload, 1) := by decide +kernel
theorem dX3_shortenBy_53 : decode cX3_shortenBy 53 = .ok (.iload 4, 2) := by decide +kernel
theorem dX3_shortenBy_55 : decode cX3_shortenBy 55 = .ok (.iaload, 1) := by decide +kernel
theorem dX3_shortenBy_56 : decode cX3_shortenBy 56 = .ok (.iload_n 2, 1) := by decide +kernel
theorem dX3_shortenBy_57 : decode cX3_shortenBy 57 = .ok (.invokestatic 39, 3) := by decide +kernel
theorem dX3_shortenBy_60 : decode cX3_shortenBy 60 = .ok (.invokestatic 59, 3) := by decide +kernel
theorem dX3_shortenBy_63 : decode cX3_shortenBy 63 = .ok (.iastore, 1) := by decide +kernel
theorem dX3_shortenBy_64 : decode cX3_shortenBy 64 = .ok (.iinc 4 1, 3) := by decide +kernel
theorem dX3_shortenBy_67 : decode cX3_shortenBy 67 = .ok (.goto (-54), 3) := by decide +kernel
theorem dX3_shortenBy_70 : decode cX3_shortenBy 70 = .ok (.iinc 3 1, 3) := by decide +kernel
theorem dX3_shortenBy_73 : decode cX3_shortenBy 73 = .ok (.goto (-71), 3) := by decide +kernel
theorem dX3_shortenBy_76 : decode cX3_shortenBy 76 = .ok (.return_, 1) := by decide +kernel
theorem dX3_become_0 : decode cX3_become 0 = .ok (.iconst 0, 1) := by decide +kernel
theorem dX3_become_1 : decode cX3_become 1 = .ok (.istore_n 2, 1) := by decide +kernel
theorem dX3_become_2 : decode cX3_become 2 = .ok (.iconst 0, 1) := by decide +kernel
theorem dX3_become_3 : decode cX3_become 3 = .ok (.istore_n 3, 1) := by decide +kernel
theorem dX3_become_4 : decode cX3_become 4 = .ok (.iload_n 3, 1) := by decide +kernel
theorem dX3_become_5 : decode cX3_become 5 = .ok (.aload_n 0, 1) := by decide +kernel
theorem dX3_become_6 : decode cX3_become 6 = .ok (.getfield 19, 3) := by decide +kernel
theorem dX3_become_9 : decode cX3_become 9 = .ok (.if_icmp .ge 63, 3) := by decide +kernel
theorem dX3_become_12 : decode cX3_become 12 = .ok (.iload_n 3, 1) := by decide +kernel
theorem dX3_become_13 : decode cX3_become 13 = .ok (.iconst 1, 1) := by decide +kernel
theorem dX3_become_14 : decode cX3_become 14 = .ok (.iadd, 1) := by decide +kernel
theorem dX3_become_15 : decode cX3_become 15 = .ok (.istore 4, 2) := by decide +kernel
theorem dX3_become_17 : decode cX3_become 17 = .ok (.iload 4, 2) := by decide +kernel
theorem dX3_become_19 : decode cX3_become 19 = .ok (.aload_n 0, 1) := by decide +kernel
theorem dX3_become_20 : decode cX3_become 20 = .ok (.getfield 19, 3) := by decide +kernel
theorem dX3_become_23 : decode cX3_become 23 = .ok (.if_icmp .ge 43, 3) := by decide +kernel
theorem dX3_become_26 : decode cX3_become 26 = .ok (.aload_n 0, 1) := by decide +kernel
theorem dX3_become_27 : decode cX3_become 27 = .ok (.getfield 11, 3) := by decide +kernel
theorem dX3_become_30 : decode cX3_become 30 = .ok (.iload_n 3, 1) := by decide +kernel
theorem dX3_become_31 : decode cX3_become 31 = .ok (.aaload, 1) := by decide +kernel
theorem dX3_become_32 : decode cX3_become 32 = .ok (.iload 4, 2) := by decide +kernel
theorem dX3_become_34 : decode cX3_become 34 = .ok (.iaload, 1) := by decide +kernel
theorem dX3_become_35 : decode cX3_become 35 = .ok (.aload_n 1, 1) := by decide +kernel
theorem dX3_become_36 : decode cX3_become 36 = .ok (.iload_n 3, 1) := by decide +kernel
theorem dX3_become_37 : decode cX3_become 37 = .ok (.aaload, 1) := by decide +kernel
theorem dX3_become_38 : decode cX3_become 38 = .ok (.iload 4, 2) := by decide +kernel
theorem dX3_become_40 : decode cX3_become 40 = .ok (.iaload, 1) := by decide +kernel
theorem dX3_become_41 : decode cX3_become 41 = .ok (.if_icmp .eq 19, 3) := by decide +kernel
theorem dX3_become_44 : decode cX3_become 44 = .ok (.iinc 2 1, 3) := by decide +kernel
theorem dX3_become_47 : decode cX3_become 47 = .ok (.aload_n 0, 1) := by decide +kernel
theorem dX3_become_48 : decode cX3_become 48 = .ok (.iload_n 3, 1) := by decide +kernel
theorem dX3_become_49 : decode cX3_become 49 = .ok (.iload 4, 2) := by decide +kernel
theorem dX3_become_51 : decode cX3_become 51 = .ok (.aload_n 1, 1) := by decide +kernel
theorem dX3_become_52 : decode cX3_become 52 = .ok (.iload_n 3, 1) := by decide +kernel
theorem dX3_become_53 : decode cX3_become 53 = .ok (.aaload, 1) := by decide +kernel
theorem dX3_become_54 : decode cX3_become 54 = .ok (.iload 4, 2) := by decide +kernel
theorem dX3_become_56 : decode cX3_become 56 = .ok (.iaload, 1) := by decide +kernel
theorem dX3_become_57 : decode cX3_become 57 = .ok (.invokevirtual 62, 3) := by decide +kernel
theorem dX3_become_60 : decode cX3_become 60 = .ok (.iinc 4 1, 3) := by decide +kernel
theorem dX3_become_63 : decode cX3_become 63 = .ok (.goto (-46), 3) := by decide +kernel
theorem dX3_become_66 : decode cX3_become 66 = .ok (.iinc 3 1, 3) := by decide +kernel
theorem dX3_become_69 : decode cX3_become 69 = .ok (.goto (-65), 3) := by decide +kernel
theorem dX3_become_72 : decode cX3_become 72 = .ok (.iload_n 2, 1) := by decide +kernel
theorem dX3_become_73 : decode cX3_become 73 = .ok (.ireturn, 1) := by decide +kernel
theorem dX3_greatestAbove_0 : decode cX3_greatestAbove 0 = .ok (.iconst 0, 1) := by decide +kernel
theorem dX3_greatestAbove_1 : decode cX3_greatestAbove 1 = .ok (.istore_n 2, 1) := by decide +kernel
theorem dX3_greatestAbove_2 : decode cX3_greatestAbove 2 = .ok (.iconst 0, 1) := by decide +kernel
theorem dX3_greatestAbove_3 : decode cX3_greatestAbove 3 = .ok (.istore_n 3, 1) := by decide +kernel
theorem dX3_greatestAbove_4 : decode cX3_greatestAbove 4 = .ok (.iload_n 3, 1) := by decide +kernel
theorem dX3_greatestAbove_5 : decode cX3_greatestAbove 5 = .ok (.aload_n 0, 1) := by decide +kernel
theorem dX3_greatestAbove_6 : decode cX3_greatestAbove 6 = .ok (.getfield 19, 3) := by decide +kernel
theorem dX3_greatestAbove_9 : decode cX3_greatestAbove 9 = .ok (.if_icmp .ge 50, 3) := by decide +kernel
theorem dX3_greatestAbove_12 : decode cX3_greatestAbove 12 = .ok (.iload_n 3, 1) := by decide +kernel
theorem dX3_greatestAbove_13 : decode cX3_greatestAbove 13 = .ok (.iconst 1, 1) := by decide +kernel
theorem dX3_greatestAbove_14 : decode cX3_greatestAbove 14 = .ok (.iadd, 1) := by decide +kernel
theorem dX3_greatestAbove_15 : decode cX3_greatestAbove 15 = .ok (.istore 4, 2) := by decide +kernel
theorem dX3_greatestAbove_17 : decode cX3_greatestAbove 17 = .ok (.iload 4, 2) := by decide +kernel
theorem dX3_greatestAbove_19 : decode cX3_greatestAbove 19 = .ok (.aload_n 0, 1) := by decide +kernel
theorem dX3_greatestAbove_20 : decode cX3_greatestAbove 20 = .ok (.getfield 19, 3) := by decide +kernel
theorem dX3_greatestAbove_23 : decode cX3_greatestAbove 23 = .ok (.if_icmp .ge 30, 3) := by decide +kernel
theorem dX3_greatestAbove_26 : decode cX3_greatestAbove 26 = .ok (.iload_n 2, 1) := by decide +kernel
theorem dX3_greatestAbove_27 : decode cX3_greatestAbove 27 = .ok (.aload_n 0, 1) := by decide +kernel
theorem dX3_greatestAbove_28 : decode cX3_greatestAbove 28 = .ok (.getfield 11, 3) := by decide +kernel
theorem dX3_greatestAbove_31 : decode cX3_greatestAbove 31 = .ok (.iload_n 3, 1) := by decide +kernel
theorem dX3_greatestAbove_32 : decode cX3_greatestAbove 32 = .ok (.aaload, 1) := by decide +kernel
theorem dX3_greatestAbove_33 : decode cX3_greatestAbove 33 = .ok (.iload 4, 2) := by decide +kernel
theorem dX3_greatestAbove_35 : decode cX3_greatestAbove 35 = .ok (.iaload, 1) := by decide +kernel
theorem dX3_greatestAbove_36 : decode cX3_greatestAbove 36 = .ok (.aload_n 1, 1) := by decide +kernel
theorem dX3_greatestAbove_37 : decode cX3_greatestAbove 37 = .ok (.iload_n 3, 1) := by decide +kernel
theorem dX3_greatestAbove_38 : decode cX3_greatestAbove 38 = .ok (.aaload, 1) := by decide +kernel
theorem dX3_greatestAbove_39 : decode cX3_greatestAbove 39 = .ok (.iload 4, 2) := by decide +kernel
theorem dX3_greatestAbove_41 : decode cX3_greatestAbove 41 = .ok (.iaload, 1) := by decide +kernel
theorem dX3_greatestAbove_42 : decode cX3_greatestAbove 42 = .ok (.isub, 1) := by decide +kernel
theorem dX3_greatestAbove_43 : decode cX3_greatestAbove 43 = .ok (.invokestatic 29, 3) := by decide +kernel
theorem dX3_greatestAbove_46 : decode cX3_greatestAbove 46 = .ok (.istore_n 2, 1) := by decide +kernel
theorem dX3_greatestAbove_47 : decode cX3_greatestAbove 47 = .ok (.iinc 4 1, 3) := by decide +kernel
theorem dX3_greatestAbove_50 : decode cX3_greatestAbove 50 = .ok (.goto (-33), 3) := by decide +kernel
theorem dX3_greatestAbove_53 : decode cX3_greatestAbove 53 = .ok (.iinc 3 1, 3) := by decide +kernel
theorem dX3_greatestAbove_56 : decode cX3_greatestAbove 56 = .ok (.goto (-52), 3) := by decide +kernel
theorem dX3_greatestAbove_59 : decode cX3_greatestAbove 59 = .ok (.iload_n 2, 1) := by decide +kernel
theorem dX3_greatestAbove_60 : decode cX3_greatestAbove 60 = .ok (.ireturn, 1) := by decide +kernel
theorem dX3_groupsWithin_0 : decode cX3_groupsWithin 0 = .ok (.aload_n 0, 1) := by decide +kernel
theorem dX3_groupsWithin_1 : decode cX3_groupsWithin 1 = .ok (.iconst 1, 1) := by decide +kernel
theorem dX3_groupsWithin_2 : decode cX3_groupsWithin 2 = .ok (.invokevirtual 66, 3) := by decide +kernel
theorem dX3_groupsWithin_5 : decode cX3_groupsWithin 5 = .ok (.astore_n 2, 1) := by decide +kernel
theorem dX3_groupsWithin_6 : decode cX3_groupsWithin 6 = .ok (.iconst 0, 1) := by decide +kernel
theorem dX3_groupsWithin_7 : decode cX3_groupsWithin 7 = .ok (.istore_n 3, 1) := by decide +kernel
theorem dX3_groupsWithin_8 : decode cX3_groupsWithin 8 = .ok (.iconst 0, 1) := by decide +kernel
theorem dX3_groupsWithin_9 : decode cX3_groupsWithin 9 = .ok (.istore 4, 2) := by decide +kernel
theorem dX3_groupsWithin_11 : decode cX3_groupsWithin 11 = .ok (.iload 4, 2) := by decide +kernel
theorem dX3_groupsWithin_13 : decode cX3_groupsWithin 13 = .ok (.aload_n 0, 1) := by decide +kernel
theorem dX3_groupsWithin_14 : decode cX3_groupsWithin 14 = .ok (.getfield 19, 3) := by decide +kernel
theorem dX3_groupsWithin_17 : decode cX3_groupsWithin 17 = .ok (.if_icmp .ge 59, 3) := by decide +kernel
theorem dX3_groupsWithin_20 : decode cX3_groupsWithin 20 = .ok (.iconst 1, 1) := by decide +kernel
theorem dX3_groupsWithin_21 : decode cX3_groupsWithin 21 = .ok (.istore 5, 2) := by decide +kernel
theorem dX3_groupsWithin_23 : decode cX3_groupsWithin 23 = .ok (.iconst 0, 1) := by decide +kernel
theorem dX3_groupsWithin_24 : decode cX3_groupsWithin 24 = .ok (.istore 6, 2) := by decide +kernel
theorem dX3_groupsWithin_26 : decode cX3_groupsWithin 26 = .ok (.iload 6, 2) := by decide +kernel
theorem dX3_groupsWithin_28 : decode cX3_groupsWithin 28 = .ok (.iload 4, 2) := by decide +kernel
theorem dX3_groupsWithin_30 : decode cX3_groupsWithin 30 = .ok (.if_icmp .ge 32, 3) := by decide +kernel
theorem dX3_groupsWithin_33 : decode cX3_groupsWithin 33 = .ok (.iload 5, 2) := by decide +kernel
theorem dX3_groupsWithin_35 : decode cX3_groupsWithin 35 = .ok (.ifCond .eq 18, 3) := by decide +kernel
theorem dX3_groupsWithin_38 : decode cX3_groupsWithin 38 = .ok (.aload_n 2, 1) := by decide +kernel
theorem dX3_groupsWithin_39 : decode cX3_groupsWithin 39 = .ok (.iload 4, 2) := by decide +kernel
theorem dX3_groupsWithin_41 : decode cX3_groupsWithin 41 = .ok (.aaload, 1) := by decide +kernel
theorem dX3_groupsWithin_42 : decode cX3_groupsWithin 42 = .ok (.iload 6, 2) := by decide +kernel
theorem dX3_groupsWithin_44 : decode cX3_groupsWithin 44 = .ok (.iaload, 1) := by decide +kernel
theorem dX3_groupsWithin_45 : decode cX3_groupsWithin 45 = .ok (.iload_n 1, 1) := by decide +kernel
theorem dX3_groupsWithin_46 : decode cX3_groupsWithin 46 = .ok (.if_icmp .le 7, 3) := by decide +kernel
theorem dX3_groupsWithin_49 : decode cX3_groupsWithin 49 = .ok (.iconst 1, 1) := by decide +kernel
theorem dX3_groupsWithin_50 : decode cX3_groupsWithin 50 = .ok (.goto 4, 3) := by decide +kernel
theorem dX3_groupsWithin_53 : decode cX3_groupsWithin 53 = .ok (.iconst 0, 1) := by decide +kernel
theorem dX3_groupsWithin_54 : decode cX3_groupsWithin 54 = .ok (.istore 5, 2) := by decide +kernel
theorem dX3_groupsWithin_56 : decode cX3_groupsWithin 56 = .ok (.iinc 6 1, 3) := by decide +kernel
theorem dX3_groupsWithin_59 : decode cX3_groupsWithin 59 = .ok (.goto (-33), 3) := by decide +kernel
theorem dX3_groupsWithin_62 : decode cX3_groupsWithin 62 = .ok (.iload_n 3, 1) := by decide +kernel
theorem dX3_groupsWithin_63 : decode cX3_groupsWithin 63 = .ok (.iload 5, 2) := by decide +kernel
theorem dX3_groupsWithin_65 : decode cX3_groupsWithin 65 = .ok (.invokestatic 70, 3) := by decide +kernel
theorem dX3_groupsWithin_68 : decode cX3_groupsWithin 68 = .ok (.iadd, 1) := by decide +kernel
theorem dX3_groupsWithin_69 : decode cX3_groupsWithin 69 = .ok (.istore_n 3, 1) := by decide +kernel
theorem dX3_groupsWithin_70 : decode cX3_groupsWithin 70 = .ok (.iinc 4 1, 3) := by decide +kernel
theorem dX3_groupsWithin_73 : decode cX3_groupsWithin 73 = .ok (.goto (-62), 3) := by decide +kernel
theorem dX3_groupsWithin_76 : decode cX3_groupsWithin 76 = .ok (.iload_n 3, 1) := by decide +kernel
theorem dX3_groupsWithin_77 : decode cX3_groupsWithin 77 = .ok (.ireturn, 1) := by decide +kernel
theorem dX3_sumOf_0 : decode cX3_sumOf 0 = .ok (.iconst 0, 1) := by decide +kernel
theorem dX3_sumOf_1 : decode cX3_sumOf 1 = .ok (.istore_n 2, 1) := by decide +kernel
theorem dX3_sumOf_2 : decode cX3_sumOf 2 = .ok (.iconst 0, 1) := by decide +kernel
theorem dX3_sumOf_3 : decode cX3_sumOf 3 = .ok (.istore_n 3, 1) := by decide +kernel
theorem dX3_sumOf_4 : decode cX3_sumOf 4 = .ok (.iload_n 3, 1) := by decide +kernel
theorem dX3_sumOf_5 : decode cX3_sumOf 5 = .ok (.aload_n 0, 1) := by decide +kernel
theorem dX3_sumOf_6 : decode cX3_sumOf 6 = .ok (.getfield 19, 3) := by decide +kernel
theorem dX3_sumOf_9 : decode cX3_sumOf 9 = .ok (.if_icmp .ge 38, 3) := by decide +kernel
theorem dX3_sumOf_12 : decode cX3_sumOf 12 = .ok (.iload_n 3, 1) := by decide +kernel
theorem dX3_sumOf_13 : decode cX3_sumOf 13 = .ok (.iconst 1, 1) := by decide +kernel
theorem dX3_sumOf_14 : decode cX3_sumOf 14 = .ok (.iadd, 1) := by decide +kernel
theorem dX3_sumOf_15 : decode cX3_sumOf 15 = .ok (.istore 4, 2) := by decide +kernel
theorem dX3_sumOf_17 : decode cX3_sumOf 17 = .ok (.iload 4, 2) := by decide +kernel
theorem dX3_sumOf_19 : decode cX3_sumOf 19 = .ok (.aload_n 0, 1) := by decide +kernel
theorem dX3_sumOf_20 : decode cX3_sumOf 20 = .ok (.getfield 19, 3) := by decide +kernel
theorem dX3_sumOf_23 : decode cX3_sumOf 23 = .ok (.if_icmp .ge 18, 3) := by decide +kernel
theorem dX3_sumOf_26 : decode cX3_sumOf 26 = .ok (.iload_n 2, 1) := by decide +kernel
theorem dX3_sumOf_27 : decode cX3_sumOf 27 = .ok (.aload_n 1, 1) := by decide +kernel
theorem dX3_sumOf_28 : decode cX3_sumOf 28 = .ok (.iload_n 3, 1) := by decide +kernel
theorem dX3_sumOf_29 : decode cX3_sumOf 29 = .ok (.aaload, 1) := by decide +kernel
theorem dX3_sumOf_30 : decode cX3_sumOf 30 = .ok (.iload 4, 2) := by decide +kernel
theorem dX3_sumOf_32 : decode cX3_sumOf 32 = .ok (.iaload, 1) := by decide +kernel
theorem dX3_sumOf_33 : decode cX3_sumOf 33 = .ok (.iadd, 1) := by decide +kernel
theorem dX3_sumOf_34 : decode cX3_sumOf 34 = .ok (.istore_n 2, 1) := by decide +kernel
theorem dX3_sumOf_35 : decode cX3_sumOf 35 = .ok (.iinc 4 1, 3) := by decide +kernel
theorem dX3_sumOf_38 : decode cX3_sumOf 38 = .ok (.goto (-21), 3) := by decide +kernel
theorem dX3_sumOf_41 : decode cX3_sumOf 41 = .ok (.iinc 3 1, 3) := by decide +kernel
theorem dX3_sumOf_44 : decode cX3_sumOf 44 = .ok (.goto (-40), 3) := by decide +kernel
theorem dX3_sumOf_47 : decode cX3_sumOf 47 = .ok (.iload_n 2, 1) := by decide +kernel
theorem dX3_sumOf_48 : decode cX3_sumOf 48 = .ok (.ireturn, 1) := by decide +kernel
theorem dX3_greatestOf_0 : decode cX3_greatestOf 0 = .ok (.iconst 0, 1) := by decide +kernel
theorem dX3_greatestOf_1 : decode cX3_greatestOf 1 = .ok (.istore_n 2, 1) := by decide +kernel
theorem dX3_greatestOf_2 : decode cX3_greatestOf 2 = .ok (.iconst 0, 1) := by decide +kernel
theorem dX3_greatestOf_3 : decode cX3_greatestOf 3 = .ok (.istore_n 3, 1) := by decide +kernel
theorem dX3_greatestOf_4 : decode cX3_greatestOf 4 = .ok (.iload_n 3, 1) := by decide +kernel
theorem dX3_greatestOf_5 : decode cX3_greatestOf 5 = .ok (.aload_n 0, 1) := by decide +kernel
theorem dX3_greatestOf_6 : decode cX3_greatestOf 6 = .ok (.getfield 19, 3) := by decide +kernel
theorem dX3_greatestOf_9 : decode cX3_greatestOf 9 = .ok (.if_icmp .ge 40, 3) := by decide +kernel
theorem dX3_greatestOf_12 : decode cX3_greatestOf 12 = .ok (.iload_n 3, 1) := by decide +kernel
theorem dX3_greatestOf_13 : decode cX3_greatestOf 13 = .ok (.iconst 1, 1) := by decide +kernel
theorem dX3_greatestOf_14 : decode cX3_greatestOf 14 = .ok (.iadd, 1) := by decide +kernel
theorem dX3_greatestOf_15 : decode cX3_greatestOf 15 = .ok (.istore 4, 2) := by decide +kernel
theorem dX3_greatestOf_17 : decode cX3_greatestOf 17 = .ok (.iload 4, 2) := by decide +kernel
theorem dX3_greatestOf_19 : decode cX3_greatestOf 19 = .ok (.aload_n 0, 1) := by decide +kernel
theorem dX3_greatestOf_20 : decode cX3_greatestOf 20 = .ok (.getfield 19, 3) := by decide +kernel
theorem dX3_greatestOf_23 : decode cX3_greatestOf 23 = .ok (.if_icmp .ge 20, 3) := by decide +kernel
theorem dX3_greatestOf_26 : decode cX3_greatestOf 26 = .ok (.iload_n 2, 1) := by decide +kernel
theorem dX3_greatestOf_27 : decode cX3_greatestOf 27 = .ok (.aload_n 1, 1) := by decide +kernel
theorem dX3_greatestOf_28 : decode cX3_greatestOf 28 = .ok (.iload_n 3, 1) := by decide +kernel
theorem dX3_greatestOf_29 : decode cX3_greatestOf 29 = .ok (.aaload, 1) := by decide +kernel
theorem dX3_greatestOf_30 : decode cX3_greatestOf 30 = .ok (.iload 4, 2) := by decide +kernel
theorem dX3_greatestOf_32 : decode cX3_greatestOf 32 = .ok (.iaload, 1) := by decide +kernel
theorem dX3_greatestOf_33 : decode cX3_greatestOf 33 = .ok (.invokestatic 29, 3) := by decide +kernel
theorem dX3_greatestOf_36 : decode cX3_greatestOf 36 = .ok (.istore_n 2, 1) := by decide +kernel
theorem dX3_greatestOf_37 : decode cX3_greatestOf 37 = .ok (.iinc 4 1, 3) := by decide +kernel
theorem dX3_greatestOf_40 : decode cX3_greatestOf 40 = .ok (.goto (-23), 3) := by decide +kernel
theorem dX3_greatestOf_43 : decode cX3_greatestOf 43 = .ok (.iinc 3 1, 3) := by decide +kernel
theorem dX3_greatestOf_46 : decode cX3_greatestOf 46 = .ok (.goto (-42), 3) := by decide +kernel
theorem dX3_greatestOf_49 : decode cX3_greatestOf 49 = .ok (.iload_n 2, 1) := by decide +kernel
theorem dX3_greatestOf_50 : decode cX3_greatestOf 50 = .ok (.ireturn, 1) := by decide +kernel
theorem dX4_init_0 : decode cX4_init 0 = .ok (.aload_n 0, 1) := by decide +kernel
theorem dX4_init_1 : decode cX4_init 1 = .ok (.invokespecial 3, 3) := by decide +kernel
theorem dX4_init_4 : decode cX4_init 4 = .ok (.aload_n 0, 1) := by decide +kernel
theorem dX4_init_5 : decode cX4_init 5 = .ok (.new 9, 3) := by decide +kernel
theorem dX4_init_8 : decode cX4_init 8 = .ok (.dup, 1) := by decide +kernel
theorem dX4_init_9 : decode cX4_init 9 = .ok (.invokespecial 11, 3) := by decide +kernel
theorem dX4_init_12 : decode cX4_init 12 = .ok (.putfield 12, 3) := by decide +kernel
theorem dX4_init_15 : decode cX4_init 15 = .ok (.aload_n 0, 1) := by decide +kernel
theorem dX4_init_16 : decode cX4_init 16 = .ok (.new 16, 3) := by decide +kernel
theorem dX4_init_19 : decode cX4_init 19 = .ok (.dup, 1) := by decide +kernel
theorem dX4_init_20 : decode cX4_init 20 = .ok (.aload_n 0, 1) := by decide +kernel
theorem dX4_init_21 : decode cX4_init 21 = .ok (.getfield 12, 3) := by decide +kernel
theorem dX4_init_24 : decode cX4_init 24 = .ok (.invokespecial 18, 3) := by decide +kernel
theorem dX4_init_27 : decode cX4_init 27 = .ok (.putfield 21, 3) := by decide +kernel
theorem dX4_init_30 : decode cX4_init 30 = .ok (.aload_n 0, 1) := by decide +kernel
theorem dX4_init_31 : decode cX4_init 31 = .ok (.new 25, 3) := by decide +kernel
theorem dX4_init_34 : decode cX4_init 34 = .ok (.dup, 1) := by decide +kernel
theorem dX4_init_35 : decode cX4_init 35 = .ok (.aload_n 0, 1) := by decide +kernel
theorem dX4_init_36 : decode cX4_init 36 = .ok (.getfield 12, 3) := by decide +kernel
theorem dX4_init_39 : decode cX4_init 39 = .ok (.invokespecial 27, 3) := by decide +kernel
theorem dX4_init_42 : decode cX4_init 42 = .ok (.putfield 28, 3) := by decide +kernel
theorem dX4_init_45 : decode cX4_init 45 = .ok (.aload_n 0, 1) := by decide +kernel
theorem dX4_init_46 : decode cX4_init 46 = .ok (.new 32, 3) := by decide +kernel
theorem dX4_init_49 : decode cX4_init 49 = .ok (.dup, 1) := by decide +kernel
theorem dX4_init_50 : decode cX4_init 50 = .ok (.aload_n 0, 1) := by decide +kernel
theorem dX4_init_51 : decode cX4_init 51 = .ok (.getfield 12, 3) := by decide +kernel
theorem dX4_init_54 : decode cX4_init 54 = .ok (.invokespecial 34, 3) := by decide +kernel
theorem dX4_init_57 : decode cX4_init 57 = .ok (.putfield 35, 3) := by decide +kernel
theorem dX4_init_60 : decode cX4_init 60 = .ok (.aload_n 0, 1) := by decide +kernel
theorem dX4_init_61 : decode cX4_init 61 = .ok (.iconst 0, 1) := by decide +kernel
theorem dX4_init_62 : decode cX4_init 62 = .ok (.putfield 39, 3) := by decide +kernel
theorem dX4_init_65 : decode cX4_init 65 = .ok (.aload_n 0, 1) := by decide +kernel
theorem dX4_init_66 : decode cX4_init 66 = .ok (.getfield 12, 3) := by decide +kernel
theorem dX4_init_69 : decode cX4_init 69 = .ok (.iconst 2, 1) := by decide +kernel
theorem dX4_init_70 : decode cX4_init 70 = .ok (.invokevirtual 43, 3) := by decide +kernel
theorem dX4_init_73 : decode cX4_init 73 = .ok (.return_, 1) := by decide +kernel
theorem dX4_points_0 : decode cX4_points 0 = .ok (.iload_n 1, 1) := by decide +kernel
theorem dX4_points_1 : decode cX4_points 1 = .ok (.iconst 2, 1) := by decide +kernel
theorem dX4_points_2 : decode cX4_points 2 = .ok (.if_icmp .lt 9, 3) := by decide +kernel
theorem dX4_points_5 : decode cX4_points 5 = .ok (.iload_n 1, 1) := by decide +kernel
theorem dX4_points_6 : decode cX4_points 6 = .ok (.bipush 6, 2) := by decide +kernel
theorem dX4_points_8 : decode cX4_points 8 = .ok (.if_icmp .le 6, 3) := by decide +kernel
theorem dX4_points_11 : decode cX4_points 11 = .ok (.bipush (-102), 2) := by decide +kernel
theorem dX4_points_13 : decode cX4_points 13 = .ok (.ireturn, 1) := by decide +kernel
theorem dX4_points_14 : decode cX4_points 14 = .ok (.aload_n 0, 1) := by decide +kernel
theorem dX4_points_15 : decode cX4_points 15 = .ok (.getfield 12, 3) := by decide +kernel
theorem dX4_points_18 : decode cX4_points 18 = .ok (.iload_n 1, 1) := by decide +kernel
theorem dX4_points_19 : decode cX4_points 19 = .ok (.invokevirtual 43, 3) := by decide +kernel
theorem dX4_points_22 : decode cX4_points 22 = .ok (.iload_n 1, 1) := by decide +kernel
theorem dX4_points_23 : decode cX4_points 23 = .ok (.ireturn, 1) := by decide +kernel
theorem dX4_set_0 : decode cX4_set 0 = .ok (.aload_n 0, 1) := by decide +kernel
theorem dX4_set_1 : decode cX4_set 1 = .ok (.iload_n 1, 1) := by decide +kernel
theorem dX4_set_2 : decode cX4_set 2 = .ok (.iload_n 2, 1) := by decide +kernel
theorem dX4_set_3 : decode cX4_set 3 = .ok (.invokevirtual 47, 3) := by decide +kernel
theorem dX4_set_6 : decode cX4_set 6 = .ok (.ifCond .eq 8, 3) := by decide +kernel
theorem dX4_set_9 : decode cX4_set 9 = .ok (.iload_n 1, 1) := by decide +kernel
theorem dX4_set_10 : decode cX4_set 10 = .ok (.iload_n 2, 1) := by decide +kernel
theorem dX4_set_11 : decode cX4_set 11 = .ok (.if_icmp .ne 6, 3) := by decide +kernel
theorem dX4_set_14 : decode cX4_set 14 = .ok (.bipush (-101), 2) := by decide +kernel
theorem dX4_set_16 : decode cX4_set 16 = .ok (.ireturn, 1) := by decide +kernel
theorem dX4_set_17 : decode cX4_set 17 = .ok (.iload_n 3, 1) := by decide +kernel
theorem dX4_set_18 : decode cX4_set 18 = .ok (.iconst 1, 1) := by decide +kernel
theorem dX4_set_19 : decode cX4_set 19 = .ok (.if_icmp .lt 10, 3) := by decide +kernel
theorem dX4_set_22 : decode cX4_set 22 = .ok (.iload_n 3, 1) := by decide +kernel
theorem dX4_set_23 : decode cX4_set 23 = .ok (.sipush 1000, 3) := by decide +kernel
theorem dX4_set_26 : decode cX4_set 26 = .ok (.if_icmp .le 6, 3) := by decide +kernel
theorem dX4_set_29 : decode cX4_set 29 = .ok (.bipush (-102), 2) := by decide +kernel
theorem dX4_set_31 : decode cX4_set 31 = .ok (.ireturn, 1) := by decide +kernel
theorem dX4_set_32 : decode cX4_set 32 = .ok (.aload_n 0, 1) := by decide +kernel
theorem dX4_set_33 : decode cX4_set 33 = .ok (.getfield 12, 3) := by decide +kernel
theorem dX4_set_36 : decode cX4_set 36 = .ok (.getfield 51, 3) := by decide +kernel
theorem dX4_set_39 : decode cX4_set 39 = .ok (.iload_n 1, 1) := by decide +kernel
theorem dX4_set_40 : decode cX4_set 40 = .ok (.aaload, 1) := by decide +kernel
theorem dX4_set_41 : decode cX4_set 41 = .ok (.iload_n 2, 1) := by decide +kernel
theorem dX4_set_42 : decode cX4_set 42 = .ok (.iaload, 1) := by decide +kernel
theorem dX4_set_43 : decode cX4_set 43 = .ok (.istore 4, 2) := by decide +kernel
theorem dX4_set_45 : decode cX4_set 45 = .ok (.aload_n 0, 1) := by decide +kernel
theorem dX4_set_46 : decode cX4_set 46 = .ok (.getfield 12, 3) := by decide +kernel
theorem dX4_set_49 : decode cX4_set 49 = .ok (.iload_n 1, 1) := by decide +kernel
theorem dX4_set_50 : decode cX4_set 50 = .ok (.iload_n 2, 1) := by decide +kernel
theorem dX4_set_51 : decode cX4_set 51 = .ok (.iload_n 3, 1) := by decide +kernel
theorem dX4_set_52 : decode cX4_set 52 = .ok (.invokevirtual 55, 3) := by decide +kernel
theorem dX4_set_55 : decode cX4_set 55 = .ok (.iload 4, 2) := by decide +kernel
theorem dX4_set_57 : decode cX4_set 57 = .ok (.ireturn, 1) := by decide +kernel
theorem dX4_get_0 : decode cX4_get 0 = .ok (.aload_n 0, 1) := by decide +kernel
theorem dX4_get_1 : decode cX4_get 1 = .ok (.iload_n 1, 1) := by decide +kernel
theorem dX4_get_2 : decode cX4_get 2 = .ok (.iload_n 2, 1) := by decide +kernel
theorem dX4_get_3 : decode cX4_get 3 = .ok (.invokevirtual 47, 3) := by decide +kernel
theorem dX4_get_6 : decode cX4_get 6 = .ok (.ifCond .eq 17, 3) := by decide +kernel
theorem dX4_get_9 : decode cX4_get 9 = .ok (.aload_n 0, 1) := by decide +kernel
theorem dX4_get_10 : decode cX4_get 10 = .ok (.getfield 12, 3) := by decide +kernel
theorem dX4_get_13 : decode cX4_get 13 = .ok (.getfield 51, 3) := by decide +kernel
theorem dX4_get_16 : decode cX4_get 16 = .ok (.iload_n 1, 1) := by decide +kernel
theorem dX4_get_17 : decode cX4_get 17 = .ok (.aaload, 1) := by decide +kernel
theorem dX4_get_18 : decode cX4_get 18 = .ok (.iload_n 2, 1) := by decide +kernel
theorem dX4_get_19 : decode cX4_get 19 = .ok (.iaload, 1) := by decide +kernel
theorem dX4_get_20 : decode cX4_get 20 = .ok (.goto 5, 3) := by decide +kernel
theorem dX4_get_23 : decode cX4_get 23 = .ok (.bipush (-101), 2) := by decide +kernel
theorem dX4_get_25 : decode cX4_get 25 = .ok (.ireturn, 1) := by decide +kernel
theorem dX4_is_0 : decode cX4_is 0 = .ok (.iload_n 1, 1) := by decide +kernel
theorem dX4_is_1 : decode cX4_is 1 = .ok (.ifCond .eq 8, 3) := by decide +kernel
theorem dX4_is_4 : decode cX4_is 4 = .ok (.iload_n 1, 1) := by decide +kernel
theorem dX4_is_5 : decode cX4_is 5 = .ok (.iconst 1, 1) := by decide +kernel
theorem dX4_is_6 : decode cX4_is 6 = .ok (.if_icmp .ne 23, 3) := by decide +kernel
theorem dX4_is_9 : decode cX4_is 9 = .ok (.aload_n 0, 1) := by decide +kernel
theorem dX4_is_10 : decode cX4_is 10 = .ok (.getfield 12, 3) := by decide +kernel
theorem dX4_is_13 : decode cX4_is 13 = .ok (.iload_n 1, 1) := by decide +kernel
theorem dX4_is_14 : decode cX4_is 14 = .ok (.invokevirtual 59, 3) := by decide +kernel
theorem dX4_is_17 : decode cX4_is 17 = .ok (.ifCond .ne 7, 3) := by decide +kernel
theorem dX4_is_20 : decode cX4_is 20 = .ok (.iconst 1, 1) := by decide +kernel
theorem dX4_is_21 : decode cX4_is 21 = .ok (.goto 4, 3) := by decide +kernel
theorem dX4_is_24 : decode cX4_is 24 = .ok (.iconst 0, 1) := by decide +kernel
theorem dX4_is_25 : decode cX4_is 25 = .ok (.invokestatic 63, 3) := by decide +kernel
theorem dX4_is_28 : decode cX4_is 28 = .ok (.ireturn, 1) := by decide +kernel
theorem dX4_is_29 : decode cX4_is 29 = .ok (.iload_n 1, 1) := by decide +kernel
theorem dX4_is_30 : decode cX4_is 30 = .ok (.iconst 2, 1) := by decide +kernel
theorem dX4_is_31 : decode cX4_is 31 = .ok (.if_icmp .ne 29, 3) := by decide +kernel
theorem dX4_is_34 : decode cX4_is 34 = .ok (.aload_n 0, 1) := by decide +kernel
theorem dX4_is_35 : decode cX4_is 35 = .ok (.invokevirtual 67, 3) := by decide +kernel
theorem dX4_is_38 : decode cX4_is 38 = .ok (.ifCond .eq 17, 3) := by decide +kernel
theorem dX4_is_41 : decode cX4_is 41 = .ok (.aload_n 0, 1) := by decide +kernel
theorem dX4_is_42 : decode cX4_is 42 = .ok (.getfield 12, 3) := by decide +kernel
theorem dX4_is_45 : decode cX4_is 45 = .ok (.invokevirtual 71, 3) := by decide +kernel
theorem dX4_is_48 : decode cX4_is 48 = .ok (.ifCond .ne 7, 3) := by decide +kernel
theorem dX4_is_51 : decode cX4_is 51 = .ok (.iconst 1, 1) := by decide +kernel
theorem dX4_is_52 : decode cX4_is 52 = .ok (.goto 4, 3) := by decide +kernel
theorem dX4_is_55 : decode cX4_is 55 = .ok (.iconst 0, 1) := by decide +kernel
theorem dX4_is_56 : decode cX4_is 56 = .ok (.invokestatic 63, 3) := by decide +kernel
theorem dX4_is_59 : decode cX4_is 59 = .ok (.ireturn, 1) := by decide +kernel
theorem dX4_is_60 : decode cX4_is 60 = .ok (.bipush (-102), 2) := by decide +kernel
theorem dX4_is_62 : decode cX4_is 62 = .ok (.ireturn, 1) := by decide +kernel
theorem dX4_broken_0 : decode cX4_broken 0 = .ok (.iload_n 1, 1) := by decide +kernel
theorem dX4_broken_1 : decode cX4_broken 1 = .ok (.ifCond .eq 8, 3) := by decide +kernel
theorem dX4_broken_4 : decode cX4_broken 4 = .ok (.iload_n 1, 1) := by decide +kernel
theorem dX4_broken_5 : decode cX4_broken 5 = .ok (.iconst 1, 1) := by decide +kernel
theorem dX4_broken_6 : decode cX4_broken 6 = .ok (.if_icmp .ne 12, 3) := by decide +kernel
theorem dX4_broken_9 : decode cX4_broken 9 = .ok (.aload_n 0, 1) := by decide +kernel
theorem dX4_broken_10 : decode cX4_broken 10 = .ok (.getfield 12, 3) := by decide +kernel
theorem dX4_broken_13 : decode cX4_broken 13 = .ok (.iload_n 1, 1) := by decide +kernel
theorem dX4_broken_14 : decode cX4_broken 14 = .ok (.invokevirtual 59, 3) := by decide +kernel
theorem dX4_broken_17 : decode cX4_broken 17 = .ok (.ireturn, 1) := by decide +kernel
theorem dX4_broken_18 : decode cX4_broken 18 = .ok (.iload_n 1, 1) := by decide +kernel
theorem dX4_broken_19 : decode cX4_broken 19 = .ok (.iconst 2, 1) := by decide +kernel
theorem dX4_broken_20 : decode cX4_broken 20 = .ok (.if_icmp .ne 13, 3) := by decide +kernel
theorem dX4_broken_23 : decode cX4_broken 23 = .ok (.aload_n 0, 1) := by decide +kernel
theorem dX4_broken_24 : decode cX4_broken 24 = .ok (.getfield 12, 3) := by decide +kernel
theorem dX4_broken_27 : decode cX4_broken 27 = .ok (.invokevirtual 71, 3) := by decide +kernel
theorem dX4_broken_30 : decode cX4_broken 30 = .ok (.goto 5, 3) := by decide +kernel
theorem dX4_broken_33 : decode cX4_broken 33 = .ok (.bipush (-102), 2) := by decide +kernel
theorem dX4_broken_35 : decode cX4_broken 35 = .ok (.ireturn, 1) := by decide +kernel
theorem dX4_mend_0 : decode cX4_mend 0 = .ok (.aload_n 0, 1) := by decide +kernel
theorem dX4_mend_1 : decode cX4_mend 1 = .ok (.getfield 12, 3) := by decide +kernel
theorem dX4_mend_4 : decode cX4_mend 4 = .ok (.aload_n 0, 1) := by decide +kernel
theorem dX4_mend_5 : decode cX4_mend 5 = .ok (.getfield 12, 3) := by decide +kernel
theorem dX4_mend_8 : decode cX4_mend 8 = .ok (.iconst 0, 1) := by decide +kernel
theorem dX4_mend_9 : decode cX4_mend 9 = .ok (.invokevirtual 75, 3) := by decide +kernel
theorem dX4_mend_12 : decode cX4_mend 12 = .ok (.invokevirtual 79, 3) := by decide +kernel
theorem dX4_mend_15 : decode cX4_mend 15 = .ok (.ireturn, 1) := by decide +kernel
theorem dX4_low_0 : decode cX4_low 0 = .ok (.aload_n 0, 1) := by decide +kernel
theorem dX4_low_1 : decode cX4_low 1 = .ok (.iload_n 1, 1) := by decide +kernel
theorem dX4_low_2 : decode cX4_low 2 = .ok (.iload_n 2, 1) := by decide +kernel
theorem dX4_low_3 : decode cX4_low 3 = .ok (.invokevirtual 47, 3) := by decide +kernel
theorem dX4_low_6 : decode cX4_low 6 = .ok (.ifCond .eq 18, 3) := by decide +kernel
theorem dX4_low_9 : decode cX4_low 9 = .ok (.aload_n 0, 1) := by decide +kernel
theorem dX4_low_10 : decode cX4_low 10 = .ok (.getfield 12, 3) := by decide +kernel
theorem dX4_low_13 : decode cX4_low 13 = .ok (.iconst 1, 1) := by decide +kernel
theorem dX4_low_14 : decode cX4_low 14 = .ok (.invokevirtual 75, 3) := by decide +kernel
theorem dX4_low_17 : decode cX4_low 17 = .ok (.iload_n 1, 1) := by decide +kernel
theorem dX4_low_18 : decode cX4_low 18 = .ok (.aaload, 1) := by decide +kernel
theorem dX4_low_19 : decode cX4_low 19 = .ok (.iload_n 2, 1) := by decide +kernel
theorem dX4_low_20 : decode cX4_low 20 = .ok (.iaload, 1) := by decide +kernel
theorem dX4_low_21 : decode cX4_low 21 = .ok (.goto 5, 3) := by decide +kernel
theorem dX4_low_24 : decode cX4_low 24 = .ok (.bipush (-101), 2) := by decide +kernel
theorem dX4_low_26 : decode cX4_low 26 = .ok (.ireturn, 1) := by decide +kernel
theorem dX4_gap_0 : decode cX4_gap 0 = .ok (.aload_n 0, 1) := by decide +kernel
theorem dX4_gap_1 : decode cX4_gap 1 = .ok (.getfield 12, 3) := by decide +kernel
theorem dX4_gap_4 : decode cX4_gap 4 = .ok (.aload_n 0, 1) := by decide +kernel
theorem dX4_gap_5 : decode cX4_gap 5 = .ok (.getfield 12, 3) := by decide +kernel
theorem dX4_gap_8 : decode cX4_gap 8 = .ok (.iconst 1, 1) := by decide +kernel
theorem dX4_gap_9 : decode cX4_gap 9 = .ok (.invokevirtual 75, 3) := by decide +kernel
theorem dX4_gap_12 : decode cX4_gap 12 = .ok (.invokevirtual 83, 3) := by decide +kernel
theorem dX4_gap_15 : decode cX4_gap 15 = .ok (.ireturn, 1) := by decide +kernel
theorem dX4_groups_0 : decode cX4_groups 0 = .ok (.iload_n 1, 1) := by decide +kernel
theorem dX4_groups_1 : decode cX4_groups 1 = .ok (.invokestatic 86, 3) := by decide +kernel
theorem dX4_groups_4 : decode cX4_groups 4 = .ok (.ifCond .eq 14, 3) := by decide +kernel
theorem dX4_groups_7 : decode cX4_groups 7 = .ok (.aload_n 0, 1) := by decide +kernel
theorem dX4_groups_8 : decode cX4_groups 8 = .ok (.getfield 12, 3) := by decide +kernel
theorem dX4_groups_11 : decode cX4_groups 11 = .ok (.iload_n 1, 1) := by decide +kernel
theorem dX4_groups_12 : decode cX4_groups 12 = .ok (.invokevirtual 90, 3) := by decide +kernel
theorem dX4_groups_15 : decode cX4_groups 15 = .ok (.goto 5, 3) := by decide +kernel
theorem dX4_groups_18 : decode cX4_groups 18 = .ok (.bipush (-102), 2) := by decide +kernel
theorem dX4_groups_20 : decode cX4_groups 20 = .ok (.ireturn, 1) := by decide +kernel
theorem dX4_lower_0 : decode cX4_lower 0 = .ok (.aload_n 0, 1) := by decide +kernel
theorem dX4_lower_1 : decode cX4_lower 1 = .ok (.getfield 12, 3) := by decide +kernel
theorem dX4_lower_4 : decode cX4_lower 4 = .ok (.aload_n 0, 1) := by decide +kernel
theorem dX4_lower_5 : decode cX4_lower 5 = .ok (.getfield 12, 3) := by decide +kernel
theorem dX4_lower_8 : decode cX4_lower 8 = .ok (.iconst 1, 1) := by decide +kernel
theorem dX4_lower_9 : decode cX4_lower 9 = .ok (.invokevirtual 75, 3) := by decide +kernel
theorem dX4_lower_12 : decode cX4_lower 12 = .ok (.invokevirtual 79, 3) := by decide +kernel
theorem dX4_lower_15 : decode cX4_lower 15 = .ok (.ireturn, 1) := by decide +kernel
theorem dX4_codes_0 : decode cX4_codes 0 = .ok (.aload_n 0, 1) := by decide +kernel
theorem dX4_codes_1 : decode cX4_codes 1 = .ok (.getfield 21, 3) := by decide +kernel
theorem dX4_codes_4 : decode cX4_codes 4 = .ok (.invokevirtual 93, 3) := by decide +kernel
theorem dX4_codes_7 : decode cX4_codes 7 = .ok (.ireturn, 1) := by decide +kernel
theorem dX4_joined_0 : decode cX4_joined 0 = .ok (.aload_n 0, 1) := by decide +kernel
theorem dX4_joined_1 : decode cX4_joined 1 = .ok (.iload_n 1, 1) := by decide +kernel
theorem dX4_joined_2 : decode cX4_joined 2 = .ok (.invokevirtual 96, 3) := by decide +kernel
theorem dX4_joined_5 : decode cX4_joined 5 = .ok (.ifCond .ne 6, 3) := by decide +kernel
theorem dX4_joined_8 : decode cX4_joined 8 = .ok (.bipush (-102), 2) := by decide +kernel
theorem dX4_joined_10 : decode cX4_joined 10 = .ok (.ireturn, 1) := by decide +kernel
theorem dX4_joined_11 : decode cX4_joined 11 = .ok (.aload_n 0, 1) := by decide +kernel
theorem dX4_joined_12 : decode cX4_joined 12 = .ok (.iload_n 2, 1) := by decide +kernel
theorem dX4_joined_13 : decode cX4_joined 13 = .ok (.iload_n 3, 1) := by decide +kernel
theorem dX4_joined_14 : decode cX4_joined 14 = .ok (.invokevirtual 47, 3) := by decide +kernel
theorem dX4_joined_17 : decode cX4_joined 17 = .ok (.ifCond .ne 6, 3) := by decide +kernel
theorem dX4_joined_20 : decode cX4_joined 20 = .ok (.bipush (-101), 2) := by decide +kernel
theorem dX4_joined_22 : decode cX4_joined 22 = .ok (.ireturn, 1) := by decide +kernel
theorem dX4_joined_23 : decode cX4_joined 23 = .ok (.aload_n 0, 1) := by decide +kernel
theorem dX4_joined_24 : decode cX4_joined 24 = .ok (.getfield 21, 3) := by decide +kernel
theorem dX4_joined_27 : decode cX4_joined 27 = .ok (.iload_n 1, 1) := by decide +kernel
theorem dX4_joined_28 : decode cX4_joined 28 = .ok (.invokevirtual 99, 3) := by decide +kernel
theorem dX4_joined_31 : decode cX4_joined 31 = .ok (.aload_n 0, 1) := by decide +kernel
theorem dX4_joined_32 : decode cX4_joined 32 = .ok (.getfield 21, 3) := by decide +kernel
theorem dX4_joined_35 : decode cX4_joined 35 = .ok (.iload_n 2, 1) := by decide +kernel
theorem dX4_joined_36 : decode cX4_joined 36 = .ok (.iload_n 3, 1) := by decide +kernel
theorem dX4_joined_37 : decode cX4_joined 37 = .ok (.invokevirtual 102, 3) := by decide +kernel
theorem dX4_joined_40 : decode cX4_joined 40 = .ok (.invokestatic 63, 3) := by decide +kernel
theorem dX4_joined_43 : decode cX4_joined 43 = .ok (.ireturn, 1) := by decide +kernel
theorem dX4_way_0 : decode cX4_way 0 = .ok (.aload_n 0, 1) := by decide +kernel
theorem dX4_way_1 : decode cX4_way 1 = .ok (.iload_n 1, 1) := by decide +kernel
theorem dX4_way_2 : decode cX4_way 2 = .ok (.invokevirtual 96, 3) := by decide +kernel
theorem dX4_way_5 : decode cX4_way 5 = .ok (.ifCond .ne 6, 3) := by decide +kernel
theorem dX4_way_8 : decode cX4_way 8 = .ok (.bipush (-102), 2) := by decide +kernel
theorem dX4_way_10 : decode cX4_way 10 = .ok (.ireturn, 1) := by decide +kernel
theorem dX4_way_11 : decode cX4_way 11 = .ok (.aload_n 0, 1) := by decide +kernel
theorem dX4_way_12 : decode cX4_way 12 = .ok (.iload_n 2, 1) := by decide +kernel
theorem dX4_way_13 : decode cX4_way 13 = .ok (.iload_n 3, 1) := by decide +kernel
theorem dX4_way_14 : decode cX4_way 14 = .ok (.invokevirtual 47, 3) := by decide +kernel
theorem dX4_way_17 : decode cX4_way 17 = .ok (.ifCond .ne 6, 3) := by decide +kernel
theorem dX4_way_20 : decode cX4_way 20 = .ok (.bipush (-101), 2) := by decide +kernel
theorem dX4_way_22 : decode cX4_way 22 = .ok (.ireturn, 1) := by decide +kernel
theorem dX4_way_23 : decode cX4_way 23 = .ok (.aload_n 0, 1) := by decide +kernel
theorem dX4_way_24 : decode cX4_way 24 = .ok (.getfield 21, 3) := by decide +kernel
theorem dX4_way_27 : decode cX4_way 27 = .ok (.iload_n 1, 1) := by decide +kernel
theorem dX4_way_28 : decode cX4_way 28 = .ok (.invokevirtual 105, 3) := by decide +kernel
theorem dX4_way_31 : decode cX4_way 31 = .ok (.aload_n 0, 1) := by decide +kernel
theorem dX4_way_32 : decode cX4_way 32 = .ok (.getfield 21, 3) := by decide +kernel
theorem dX4_way_35 : decode cX4_way 35 = .ok (.getfield 108, 3) := by decide +kernel
theorem dX4_way_38 : decode cX4_way 38 = .ok (.iload_n 2, 1) := by decide +kernel
theorem dX4_way_39 : decode cX4_way 39 = .ok (.aaload, 1) := by decide +kernel
theorem dX4_way_40 : decode cX4_way 40 = .ok (.iload_n 3, 1) := by decide +kernel
theorem dX4_way_41 : decode cX4_way 41 = .ok (.iaload, 1) := by decide +kernel
theorem dX4_way_42 : decode cX4_way 42 = .ok (.ireturn, 1) := by decide +kernel
theorem dX4_stretch_0 : decode cX4_stretch 0 = .ok (.aload_n 0, 1) := by decide +kernel
theorem dX4_stretch_1 : decode cX4_stretch 1 = .ok (.iload_n 1, 1) := by decide +kernel
theorem dX4_stretch_2 : decode cX4_stretch 2 = .ok (.invokevirtual 96, 3) := by decide +kernel
theorem dX4_stretch_5 : decode cX4_stretch 5 = .ok (.ifCond .eq 12, 3) := by decide +kernel
theorem dX4_stretch_8 : decode cX4_stretch 8 = .ok (.iload_n 2, 1) := by decide +kernel
theorem dX4_stretch_9 : decode cX4_stretch 9 = .ok (.ifCond .eq 12, 3) := by decide +kernel
theorem dX4_stretch_12 : decode cX4_stretch 12 = .ok (.iload_n 2, 1) := by decide +kernel
theorem dX4_stretch_13 : decode cX4_stretch 13 = .ok (.iconst 1, 1) := by decide +kernel
theorem dX4_stretch_14 : decode cX4_stretch 14 = .ok (.if_icmp .eq 7, 3) := by decide +kernel
theorem dX4_stretch_17 : decode cX4_stretch 17 = .ok (.ldc2_w 111, 3) := by decide +kernel
theorem dX4_stretch_20 : decode cX4_stretch 20 = .ok (.lreturn, 1) := by decide +kernel
theorem dX4_stretch_21 : decode cX4_stretch 21 = .ok (.aload_n 0, 1) := by decide +kernel
theorem dX4_stretch_22 : decode cX4_stretch 22 = .ok (.getfield 21, 3) := by decide +kernel
theorem dX4_stretch_25 : decode cX4_stretch 25 = .ok (.iload_n 1, 1) := by decide +kernel
theorem dX4_stretch_26 : decode cX4_stretch 26 = .ok (.invokevirtual 105, 3) := by decide +kernel
theorem dX4_stretch_29 : decode cX4_stretch 29 = .ok (.aload_n 0, 1) := by decide +kernel
theorem dX4_stretch_30 : decode cX4_stretch 30 = .ok (.getfield 21, 3) := by decide +kernel
theorem dX4_stretch_33 : decode cX4_stretch 33 = .ok (.invokevirtual 113, 3) := by decide +kernel
theorem dX4_stretch_36 : decode cX4_stretch 36 = .ok (.iload_n 2, 1) := by decide +kernel
theorem dX4_stretch_37 : decode cX4_stretch 37 = .ok (.ifCond .ne 13, 3) := by decide +kernel
theorem dX4_stretch_40 : decode cX4_stretch 40 = .ok (.aload_n 0, 1) := by decide +kernel
theorem dX4_stretch_41 : decode cX4_stretch 41 = .ok (.getfield 21, 3) := by decide +kernel
theorem dX4_stretch_44 : decode cX4_stretch 44 = .ok (.getfield 116, 3) := by decide +kernel
theorem dX4_stretch_47 : decode cX4_stretch 47 = .ok (.goto 10, 3) := by decide +kernel
theorem dX4_stretch_50 : decode cX4_stretch 50 = .ok (.aload_n 0, 1) := by decide +kernel
theorem dX4_stretch_51 : decode cX4_stretch 51 = .ok (.getfield 21, 3) := by decide +kernel
theorem dX4_stretch_54 : decode cX4_stretch 54 = .ok (.getfield 119, 3) := by decide +kernel
theorem dX4_stretch_57 : decode cX4_stretch 57 = .ok (.istore_n 3, 1) := by decide +kernel
theorem dX4_stretch_58 : decode cX4_stretch 58 = .ok (.aload_n 0, 1) := by decide +kernel
theorem dX4_stretch_59 : decode cX4_stretch 59 = .ok (.getfield 21, 3) := by decide +kernel
theorem dX4_stretch_62 : decode cX4_stretch 62 = .ok (.getfield 116, 3) := by decide +kernel
theorem dX4_stretch_65 : decode cX4_stretch 65 = .ok (.aload_n 0, 1) := by decide +kernel
theorem dX4_stretch_66 : decode cX4_stretch 66 = .ok (.getfield 21, 3) := by decide +kernel
theorem dX4_stretch_69 : decode cX4_stretch 69 = .ok (.getfield 119, 3) := by decide +kernel
theorem dX4_stretch_72 : decode cX4_stretch 72 = .ok (.invokestatic 122, 3) := by decide +kernel
theorem dX4_stretch_75 : decode cX4_stretch 75 = .ok (.istore 4, 2) := by decide +kernel
theorem dX4_stretch_77 : decode cX4_stretch 77 = .ok (.iload 4, 2) := by decide +kernel
theorem dX4_stretch_79 : decode cX4_stretch 79 = .ok (.iconst 1, 1) := by decide +kernel
theorem dX4_stretch_80 : decode cX4_stretch 80 = .ok (.if_icmp .le 11, 3) := by decide +kernel
theorem dX4_stretch_83 : decode cX4_stretch 83 = .ok (.iload_n 3, 1) := by decide +kernel
theorem dX4_stretch_84 : decode cX4_stretch 84 = .ok (.iload 4, 2) := by decide +kernel
theorem dX4_stretch_86 : decode cX4_stretch 86 = .ok (.idiv, 1) := by decide +kernel
theorem dX4_stretch_87 : decode cX4_stretch 87 = .ok (.i2l, 1) := by decide +kernel
theorem dX4_stretch_88 : decode cX4_stretch 88 = .ok (.goto 5, 3) := by decide +kernel
theorem dX4_stretch_91 : decode cX4_stretch 91 = .ok (.iload_n 3, 1) := by decide +kernel
theorem dX4_stretch_92 : decode cX4_stretch 92 = .ok (.i2l, 1) := by decide +kernel
theorem dX4_stretch_93 : decode cX4_stretch 93 = .ok (.lreturn, 1) := by decide +kernel
theorem dX4_spread_0 : decode cX4_spread 0 = .ok (.aload_n 0, 1) := by decide +kernel
theorem dX4_spread_1 : decode cX4_spread 1 = .ok (.iload_n 1, 1) := by decide +kernel
theorem dX4_spread_2 : decode cX4_spread 2 = .ok (.invokevirtual 96, 3) := by decide +kernel
theorem dX4_spread_5 : decode cX4_spread 5 = .ok (.ifCond .ne 6, 3) := by decide +kernel
theorem dX4_spread_8 : decode cX4_spread 8 = .ok (.bipush (-102), 2) := by decide +kernel
theorem dX4_spread_10 : decode cX4_spread 10 = .ok (.ireturn, 1) := by decide +kernel
theorem dX4_spread_11 : decode cX4_spread 11 = .ok (.aload_n 0, 1) := by decide +kernel
theorem dX4_spread_12 : decode cX4_spread 12 = .ok (.getfield 21, 3) := by decide +kernel
theorem dX4_spread_15 : decode cX4_spread 15 = .ok (.iload_n 1, 1) := by decide +kernel
theorem dX4_spread_16 : decode cX4_spread 16 = .ok (.invokevirtual 105, 3) := by decide +kernel
theorem dX4_spread_19 : decode cX4_spread 19 = .ok (.aload_n 0, 1) := by decide +kernel
theorem dX4_spread_20 : decode cX4_spread 20 = .ok (.getfield 12, 3) := by decide +kernel
theorem dX4_spread_23 : decode cX4_spread 23 = .ok (.aload_n 0, 1) := by decide +kernel
theorem dX4_spread_24 : decode cX4_spread 24 = .ok (.getfield 21, 3) := by decide +kernel
theorem dX4_spread_27 : decode cX4_spread 27 = .ok (.getfield 108, 3) := by decide +kernel
theorem dX4_spread_30 : decode cX4_spread 30 = .ok (.invokevirtual 126, 3) := by decide +kernel
theorem dX4_spread_33 : decode cX4_spread 33 = .ok (.ireturn, 1) := by decide +kernel
theorem dX4_best_0 : decode cX4_best 0 = .ok (.iload_n 1, 1) := by decide +kernel
theorem dX4_best_1 : decode cX4_best 1 = .ok (.ifCond .eq 11, 3) := by decide +kernel
theorem dX4_best_4 : decode cX4_best 4 = .ok (.iload_n 1, 1) := by decide +kernel
theorem dX4_best_5 : decode cX4_best 5 = .ok (.iconst 1, 1) := by decide +kernel
theorem dX4_best_6 : decode cX4_best 6 = .ok (.if_icmp .eq 6, 3) := by decide +kernel
theorem dX4_best_9 : decode cX4_best 9 = .ok (.bipush (-102), 2) := by decide +kernel
theorem dX4_best_11 : decode cX4_best 11 = .ok (.ireturn, 1) := by decide +kernel
theorem dX4_best_12 : decode cX4_best 12 = .ok (.aload_n 0, 1) := by decide +kernel
theorem dX4_best_13 : decode cX4_best 13 = .ok (.getfield 39, 3) := by decide +kernel
theorem dX4_best_16 : decode cX4_best 16 = .ok (.bipush 60, 2) := by decide +kernel
theorem dX4_best_18 : decode cX4_best 18 = .ok (.if_icmp .lt 6, 3) := by decide +kernel
theorem dX4_best_21 : decode cX4_best 21 = .ok (.bipush (-104), 2) := by decide +kernel
theorem dX4_best_23 : decode cX4_best 23 = .ok (.ireturn, 1) := by decide +kernel
theorem dX4_best_24 : decode cX4_best 24 = .ok (.aload_n 0, 1) := by decide +kernel
theorem dX4_best_25 : decode cX4_best 25 = .ok (.dup, 1) := by decide +kernel
theorem dX4_best_26 : decode cX4_best 26 = .ok (.getfield 39, 3) := by decide +kernel
theorem dX4_best_29 : decode cX4_best 29 = .ok (.iconst 1, 1) := by decide +kernel
theorem dX4_best_30 : decode cX4_best 30 = .ok (.iadd, 1) := by decide +kernel
theorem dX4_best_31 : decode cX4_best 31 = .ok (.putfield 39, 3) := by decide +kernel
theorem dX4_best_34 : decode cX4_best 34 = .ok (.iload_n 1, 1) := by decide +kernel
theorem dX4_best_35 : decode cX4_best 35 = .ok (.ifCond .ne 13, 3) := by decide +kernel
theorem dX4_best_38 : decode cX4_best 38 = .ok (.aload_n 0, 1) := by decide +kernel
theorem dX4_best_39 : decode cX4_best 39 = .ok (.getfield 21, 3) := by decide +kernel
theorem dX4_best_42 : decode cX4_best 42 = .ok (.invokevirtual 129, 3) := by decide +kernel
theorem dX4_best_45 : decode cX4_best 45 = .ok (.goto 10, 3) := by decide +kernel
theorem dX4_best_48 : decode cX4_best 48 = .ok (.aload_n 0, 1) := by decide +kernel
theorem dX4_best_49 : decode cX4_best 49 = .ok (.getfield 21, 3) := by decide +kernel
theorem dX4_best_52 : decode cX4_best 52 = .ok (.invokevirtual 132, 3) := by decide +kernel
theorem dX4_best_55 : decode cX4_best 55 = .ok (.ireturn, 1) := by decide +kernel
theorem dX4_grow_0 : decode cX4_grow 0 = .ok (.aload_n 0, 1) := by decide +kernel
theorem dX4_grow_1 : decode cX4_grow 1 = .ok (.iload_n 1, 1) := by decide +kernel
theorem dX4_grow_2 : decode cX4_grow 2 = .ok (.invokevirtual 96, 3) := by decide +kernel
theorem dX4_grow_5 : decode cX4_grow 5 = .ok (.ifCond .ne 6, 3) := by decide +kernel
theorem dX4_grow_8 : decode cX4_grow 8 = .ok (.bipush (-102), 2) := by decide +kernel
theorem dX4_grow_10 : decode cX4_grow 10 = .ok (.ireturn, 1) := by decide +kernel
theorem dX4_grow_11 : decode cX4_grow 11 = .ok (.aload_n 0, 1) := by decide +kernel
theorem dX4_grow_12 : decode cX4_grow 12 = .ok (.getfield 21, 3) := by decide +kernel
theorem dX4_grow_15 : decode cX4_grow 15 = .ok (.iload_n 1, 1) := by decide +kernel
theorem dX4_grow_16 : decode cX4_grow 16 = .ok (.invokevirtual 105, 3) := by decide +kernel
theorem dX4_grow_19 : decode cX4_grow 19 = .ok (.aload_n 0, 1) := by decide +kernel
theorem dX4_grow_20 : decode cX4_grow 20 = .ok (.getfield 12, 3) := by decide +kernel
theorem dX4_grow_23 : decode cX4_grow 23 = .ok (.aload_n 0, 1) := by decide +kernel
theorem dX4_grow_24 : decode cX4_grow 24 = .ok (.getfield 21, 3) := by decide +kernel
theorem dX4_grow_27 : decode cX4_grow 27 = .ok (.getfield 108, 3) := by decide +kernel
theorem dX4_grow_30 : decode cX4_grow 30 = .ok (.invokevirtual 135, 3) := by decide +kernel
theorem dX4_grow_33 : decode cX4_grow 33 = .ok (.sipush 1000, 3) := by decide +kernel
theorem dX4_grow_36 : decode cX4_grow 36 = .ok (.if_icmp .le 6, 3) := by decide +kernel
theorem dX4_grow_39 : decode cX4_grow 39 = .ok (.bipush (-103), 2) := by decide +kernel
theorem dX4_grow_41 : decode cX4_grow 41 = .ok (.ireturn, 1) := by decide +kernel
theorem dX4_grow_42 : decode cX4_grow 42 = .ok (.aload_n 0, 1) := by decide +kernel
theorem dX4_grow_43 : decode cX4_grow 43 = .ok (.getfield 12, 3) := by decide +kernel
theorem dX4_grow_46 : decode cX4_grow 46 = .ok (.aload_n 0, 1) := by decide +kernel
theorem dX4_grow_47 : decode cX4_grow 47 = .ok (.getfield 21, 3) := by decide +kernel
theorem dX4_grow_50 : decode cX4_grow 50 = .ok (.getfield 108, 3) := by decide +kernel
theorem dX4_grow_53 : decode cX4_grow 53 = .ok (.invokevirtual 79, 3) := by decide +kernel
theorem dX4_grow_56 : decode cX4_grow 56 = .ok (.ireturn, 1) := by decide +kernel
theorem dX4_weight_0 : decode cX4_weight 0 = .ok (.aload_n 0, 1) := by decide +kernel
theorem dX4_weight_1 : decode cX4_weight 1 = .ok (.getfield 28, 3) := by decide +kernel
theorem dX4_weight_4 : decode cX4_weight 4 = .ok (.iload_n 1, 1) := by decide +kernel
theorem dX4_weight_5 : decode cX4_weight 5 = .ok (.invokevirtual 138, 3) := by decide +kernel
theorem dX4_weight_8 : decode cX4_weight 8 = .ok (.ifCond .ne 6, 3) := by decide +kernel
theorem dX4_weight_11 : decode cX4_weight 11 = .ok (.bipush (-102), 2) := by decide +kernel
theorem dX4_weight_13 : decode cX4_weight 13 = .ok (.ireturn, 1) := by decide +kernel
theorem dX4_weight_14 : decode cX4_weight 14 = .ok (.aload_n 0, 1) := by decide +kernel
theorem dX4_weight_15 : decode cX4_weight 15 = .ok (.invokevirtual 67, 3) := by decide +kernel
theorem dX4_weight_18 : decode cX4_weight 18 = .ok (.ifCond .eq 14, 3) := by decide +kernel
theorem dX4_weight_21 : decode cX4_weight 21 = .ok (.aload_n 0, 1) := by decide +kernel
theorem dX4_weight_22 : decode cX4_weight 22 = .ok (.getfield 28, 3) := by decide +kernel
theorem dX4_weight_25 : decode cX4_weight 25 = .ok (.iload_n 1, 1) := by decide +kernel
theorem dX4_weight_26 : decode cX4_weight 26 = .ok (.invokevirtual 141, 3) := by decide +kernel
theorem dX4_weight_29 : decode cX4_weight 29 = .ok (.goto 5, 3) := by decide +kernel
theorem dX4_weight_32 : decode cX4_weight 32 = .ok (.bipush (-103), 2) := by decide +kernel
theorem dX4_weight_34 : decode cX4_weight 34 = .ok (.ireturn, 1) := by decide +kernel
theorem dX4_parts_0 : decode cX4_parts 0 = .ok (.aload_n 0, 1) := by decide +kernel
theorem dX4_parts_1 : decode cX4_parts 1 = .ok (.invokevirtual 67, 3) := by decide +kernel
theorem dX4_parts_4 : decode cX4_parts 4 = .ok (.ifCond .eq 13, 3) := by decide +kernel
theorem dX4_parts_7 : decode cX4_parts 7 = .ok (.aload_n 0, 1) := by decide +kernel
theorem dX4_parts_8 : decode cX4_parts 8 = .ok (.getfield 28, 3) := by decide +kernel
theorem dX4_parts_11 : decode cX4_parts 11 = .ok (.invokevirtual 144, 3) := by decide +kernel
theorem dX4_parts_14 : decode cX4_parts 14 = .ok (.goto 5, 3) := by decide +kernel
theorem dX4_parts_17 : decode cX4_parts 17 = .ok (.bipush (-103), 2) := by decide +kernel
theorem dX4_parts_19 : decode cX4_parts 19 = .ok (.ireturn, 1) := by decide +kernel
theorem dX4_rest_0 : decode cX4_rest 0 = .ok (.aload_n 0, 1) := by decide +kernel
theorem dX4_rest_1 : decode cX4_rest 1 = .ok (.iload_n 1, 1) := by decide +kernel
theorem dX4_rest_2 : decode cX4_rest 2 = .ok (.iload_n 2, 1) := by decide +kernel
theorem dX4_rest_3 : decode cX4_rest 3 = .ok (.invokevirtual 47, 3) := by decide +kernel
theorem dX4_rest_6 : decode cX4_rest 6 = .ok (.ifCond .ne 7, 3) := by decide +kernel
theorem dX4_rest_9 : decode cX4_rest 9 = .ok (.sipush (-10101), 3) := by decide +kernel
theorem dX4_rest_12 : decode cX4_rest 12 = .ok (.ireturn, 1) := by decide +kernel
theorem dX4_rest_13 : decode cX4_rest 13 = .ok (.aload_n 0, 1) := by decide +kernel
theorem dX4_rest_14 : decode cX4_rest 14 = .ok (.invokevirtual 67, 3) := by decide +kernel
theorem dX4_rest_17 : decode cX4_rest 17 = .ok (.ifCond .eq 15, 3) := by decide +kernel
theorem dX4_rest_20 : decode cX4_rest 20 = .ok (.aload_n 0, 1) := by decide +kernel
theorem dX4_rest_21 : decode cX4_rest 21 = .ok (.getfield 28, 3) := by decide +kernel
theorem dX4_rest_24 : decode cX4_rest 24 = .ok (.iload_n 1, 1) := by decide +kernel
theorem dX4_rest_25 : decode cX4_rest 25 = .ok (.iload_n 2, 1) := by decide +kernel
theorem dX4_rest_26 : decode cX4_rest 26 = .ok (.invokevirtual 147, 3) := by decide +kernel
theorem dX4_rest_29 : decode cX4_rest 29 = .ok (.goto 6, 3) := by decide +kernel
theorem dX4_rest_32 : decode cX4_rest 32 = .ok (.sipush (-10103), 3) := by decide +kernel
theorem dX4_rest_35 : decode cX4_rest 35 = .ok (.ireturn, 1) := by decide +kernel
theorem dX4_drawn_0 : decode cX4_drawn 0 = .ok (.aload_n 0, 1) := by decide +kernel
theorem dX4_drawn_1 : decode cX4_drawn 1 = .ok (.iload_n 1, 1) := by decide +kernel
theorem dX4_drawn_2 : decode cX4_drawn 2 = .ok (.iload_n 2, 1) := by decide +kernel
theorem dX4_drawn_3 : decode cX4_drawn 3 = .ok (.invokevirtual 47, 3) := by decide +kernel
theorem dX4_drawn_6 : decode cX4_drawn 6 = .ok (.ifCond .ne 6, 3) := by decide +kernel
theorem dX4_drawn_9 : decode cX4_drawn 9 = .ok (.bipush (-101), 2) := by decide +kernel
theorem dX4_drawn_11 : decode cX4_drawn 11 = .ok (.ireturn, 1) := by decide +kernel
theorem dX4_drawn_12 : decode cX4_drawn 12 = .ok (.iload_n 3, 1) := by decide +kernel
theorem dX4_drawn_13 : decode cX4_drawn 13 = .ok (.invokestatic 86, 3) := by decide +kernel
theorem dX4_drawn_16 : decode cX4_drawn 16 = .ok (.ifCond .eq 16, 3) := by decide +kernel
theorem dX4_drawn_19 : decode cX4_drawn 19 = .ok (.aload_n 0, 1) := by decide +kernel
theorem dX4_drawn_20 : decode cX4_drawn 20 = .ok (.getfield 35, 3) := by decide +kernel
theorem dX4_drawn_23 : decode cX4_drawn 23 = .ok (.iload_n 1, 1) := by decide +kernel
theorem dX4_drawn_24 : decode cX4_drawn 24 = .ok (.iload_n 2, 1) := by decide +kernel
theorem dX4_drawn_25 : decode cX4_drawn 25 = .ok (.iload_n 3, 1) := by decide +kernel
theorem dX4_drawn_26 : decode cX4_drawn 26 = .ok (.invokevirtual 150, 3) := by decide +kernel
theorem dX4_drawn_29 : decode cX4_drawn 29 = .ok (.goto 5, 3) := by decide +kernel
theorem dX4_drawn_32 : decode cX4_drawn 32 = .ok (.bipush (-102), 2) := by decide +kernel
theorem dX4_drawn_34 : decode cX4_drawn 34 = .ok (.ireturn, 1) := by decide +kernel
theorem dX4_goes_0 : decode cX4_goes 0 = .ok (.aload_n 0, 1) := by decide +kernel
theorem dX4_goes_1 : decode cX4_goes 1 = .ok (.iload_n 1, 1) := by decide +kernel
theorem dX4_goes_2 : decode cX4_goes 2 = .ok (.invokevirtual 154, 3) := by decide +kernel
theorem dX4_goes_5 : decode cX4_goes 5 = .ok (.ifCond .ne 6, 3) := by decide +kernel
theorem dX4_goes_8 : decode cX4_goes 8 = .ok (.bipush (-101), 2) := by decide +kernel
theorem dX4_goes_10 : decode cX4_goes 10 = .ok (.ireturn, 1) := by decide +kernel
theorem dX4_goes_11 : decode cX4_goes 11 = .ok (.iload_n 2, 1) := by decide +kernel
theorem dX4_goes_12 : decode cX4_goes 12 = .ok (.ifCond .lt 21, 3) := by decide +kernel
theorem dX4_goes_15 : decode cX4_goes 15 = .ok (.iload_n 2, 1) := by decide +kernel
theorem dX4_goes_16 : decode cX4_goes 16 = .ok (.aload_n 0, 1) := by decide +kernel
theorem dX4_goes_17 : decode cX4_goes 17 = .ok (.getfield 35, 3) := by decide +kernel
theorem dX4_goes_20 : decode cX4_goes 20 = .ok (.invokevirtual 157, 3) := by decide +kernel
theorem dX4_goes_23 : decode cX4_goes 23 = .ok (.if_icmp .ge 10, 3) := by decide +kernel
theorem dX4_goes_26 : decode cX4_goes 26 = .ok (.iload_n 3, 1) := by decide +kernel
theorem dX4_goes_27 : decode cX4_goes 27 = .ok (.invokestatic 86, 3) := by decide +kernel
theorem dX4_goes_30 : decode cX4_goes 30 = .ok (.ifCond .ne 6, 3) := by decide +kernel
theorem dX4_goes_33 : decode cX4_goes 33 = .ok (.bipush (-102), 2) := by decide +kernel
theorem dX4_goes_35 : decode cX4_goes 35 = .ok (.ireturn, 1) := by decide +kernel
theorem dX4_goes_36 : decode cX4_goes 36 = .ok (.aload_n 0, 1) := by decide +kernel
theorem dX4_goes_37 : decode cX4_goes 37 = .ok (.getfield 35, 3) := by decide +kernel
theorem dX4_goes_40 : decode cX4_goes 40 = .ok (.iload_n 1, 1) := by decide +kernel
theorem dX4_goes_41 : decode cX4_goes 41 = .ok (.iload_n 2, 1) := by decide +kernel
theorem dX4_goes_42 : decode cX4_goes 42 = .ok (.iload_n 3, 1) := by decide +kernel
theorem dX4_goes_43 : decode cX4_goes 43 = .ok (.invokevirtual 158, 3) := by decide +kernel
theorem dX4_goes_46 : decode cX4_goes 46 = .ok (.ireturn, 1) := by decide +kernel
theorem dX4_count_0 : decode cX4_count 0 = .ok (.iload_n 1, 1) := by decide +kernel
theorem dX4_count_1 : decode cX4_count 1 = .ok (.tableswitch 74 0 3 #[31, 39, 54, 69], 31) := by decide +kernel
theorem dX4_count_32 : decode cX4_count 32 = .ok (.aload_n 0, 1) := by decide +kernel
theorem dX4_count_33 : decode cX4_count 33 = .ok (.getfield 12, 3) := by decide +kernel
theorem dX4_count_36 : decode cX4_count 36 = .ok (.getfield 161, 3) := by decide +kernel
theorem dX4_count_39 : decode cX4_count 39 = .ok (.ireturn, 1) := by decide +kernel
theorem dX4_count_40 : decode cX4_count 40 = .ok (.aload_n 0, 1) := by decide +kernel
theorem dX4_count_41 : decode cX4_count 41 = .ok (.getfield 12, 3) := by decide +kernel
theorem dX4_count_44 : decode cX4_count 44 = .ok (.aload_n 0, 1) := by decide +kernel
theorem dX4_count_45 : decode cX4_count 45 = .ok (.getfield 12, 3) := by decide +kernel
theorem dX4_count_48 : decode cX4_count 48 = .ok (.getfield 51, 3) := by decide +kernel
theorem dX4_count_51 : decode cX4_count 51 = .ok (.invokevirtual 126, 3) := by decide +kernel
theorem dX4_count_54 : decode cX4_count 54 = .ok (.ireturn, 1) := by decide +kernel
theorem dX4_count_55 : decode cX4_count 55 = .ok (.aload_n 0, 1) := by decide +kernel
theorem dX4_count_56 : decode cX4_count 56 = .ok (.getfield 12, 3) := by decide +kernel
theorem dX4_count_59 : decode cX4_count 59 = .ok (.aload_n 0, 1) := by decide +kernel
theorem dX4_count_60 : decode cX4_count 60 = .ok (.getfield 12, 3) := by decide +kernel
theorem dX4_count_63 : decode cX4_count 63 = .ok (.getfield 51, 3) := by decide +kernel
theorem dX4_count_66 : decode cX4_count 66 = .ok (.invokevirtual 135, 3) := by decide +kernel
theorem dX4_count_69 : decode cX4_count 69 = .ok (.ireturn, 1) := by decide +kernel
theorem dX4_count_70 : decode cX4_count 70 = .ok (.aload_n 0, 1) := by decide +kernel
theorem dX4_count_71 : decode cX4_count 71 = .ok (.getfield 39, 3) := by decide +kernel
theorem dX4_count_74 : decode cX4_count 74 = .ok (.ireturn, 1) := by decide +kernel
theorem dX4_count_75 : decode cX4_count 75 = .ok (.bipush (-102), 2) := by decide +kernel
theorem dX4_count_77 : decode cX4_count 77 = .ok (.ireturn, 1) := by decide +kernel
theorem dX4_digest_0 : decode cX4_digest 0 = .ok (.aload_n 0, 1) := by decide +kernel
theorem dX4_digest_1 : decode cX4_digest 1 = .ok (.getfield 12, 3) := by decide +kernel
theorem dX4_digest_4 : decode cX4_digest 4 = .ok (.iconst 1, 1) := by decide +kernel
theorem dX4_digest_5 : decode cX4_digest 5 = .ok (.invokevirtual 75, 3) := by decide +kernel
theorem dX4_digest_8 : decode cX4_digest 8 = .ok (.astore_n 1, 1) := by decide +kernel
theorem dX4_digest_9 : decode cX4_digest 9 = .ok (.ldc2_w 164, 3) := by decide +kernel
theorem dX4_digest_12 : decode cX4_digest 12 = .ok (.aload_n 0, 1) := by decide +kernel
theorem dX4_digest_13 : decode cX4_digest 13 = .ok (.getfield 12, 3) := by decide +kernel
theorem dX4_digest_16 : decode cX4_digest 16 = .ok (.getfield 161, 3) := by decide +kernel
theorem dX4_digest_19 : decode cX4_digest 19 = .ok (.i2l, 1) := by decide +kernel
theorem dX4_digest_20 : decode cX4_digest 20 = .ok (.invokestatic 166, 3) := by decide +kernel
theorem dX4_digest_23 : decode cX4_digest 23 = .ok (.lstore_n 2, 1) := by decide +kernel
theorem dX4_digest_24 : decode cX4_digest 24 = .ok (.iconst 0, 1) := by decide +kernel
theorem dX4_digest_25 : decode cX4_digest 25 = .ok (.istore 4, 2) := by decide +kernel
theorem dX4_digest_27 : decode cX4_digest 27 = .ok (.iload 4, 2) := by decide +kernel
theorem dX4_digest_29 : decode cX4_digest 29 = .ok (.aload_n 0, 1) := by decide +kernel
theorem dX4_digest_30 : decode cX4_digest 30 = .ok (.getfield 12, 3) := by decide +kernel
theorem dX4_digest_33 : decode cX4_digest 33 = .ok (.getfield 161, 3) := by decide +kernel
theorem dX4_digest_36 : decode cX4_digest 36 = .ok (.if_icmp .ge 65, 3) := by decide +kernel
theorem dX4_digest_39 : decode cX4_digest 39 = .ok (.iload 4, 2) := by decide +kernel
theorem dX4_digest_41 : decode cX4_digest 41 = .ok (.iconst 1, 1) := by decide +kernel
theorem dX4_digest_42 : decode cX4_digest 42 = .ok (.iadd, 1) := by decide +kernel
theorem dX4_digest_43 : decode cX4_digest 43 = .ok (.istore 5, 2) := by decide +kernel
theorem dX4_digest_45 : decode cX4_digest 45 = .ok (.iload 5, 2) := by decide +kernel
theorem dX4_digest_47 : decode cX4_digest 47 = .ok (.aload_n 0, 1) := by decide +kernel
theorem dX4_digest_48 : decode cX4_digest 48 = .ok (.getfield 12, 3) := by decide +kernel
theorem dX4_digest_51 : decode cX4_digest 51 = .ok (.getfield 161, 3) := by decide +kernel
theorem dX4_digest_54 : decode cX4_digest 54 = .ok (.if_icmp .ge 41, 3) := by decide +kernel
theorem dX4_digest_57 : decode cX4_digest 57 = .ok (.lload_n 2, 1) := by decide +kernel
theorem dX4_digest_58 : decode cX4_digest 58 = .ok (.aload_n 0, 1) := by decide +kernel
theorem dX4_digest_59 : decode cX4_digest 59 = .ok (.getfield 12, 3) := by decide +kernel
theorem dX4_digest_62 : decode cX4_digest 62 = .ok (.getfield 51, 3) := by decide +kernel
theorem dX4_digest_65 : decode cX4_digest 65 = .ok (.iload 4, 2) := by decide +kernel
theorem dX4_digest_67 : decode cX4_digest 67 = .ok (.aaload, 1) := by decide +kernel
theorem dX4_digest_68 : decode cX4_digest 68 = .ok (.iload 5, 2) := by decide +kernel
theorem dX4_digest_70 : decode cX4_digest 70 = .ok (.iaload, 1) := by decide +kernel
theorem dX4_digest_71 : decode cX4_digest 71 = .ok (.i2l, 1) := by decide +kernel
theorem dX4_digest_72 : decode cX4_digest 72 = .ok (.invokestatic 166, 3) := by decide +kernel
theorem dX4_digest_75 : decode cX4_digest 75 = .ok (.lstore_n 2, 1) := by decide +kernel
theorem dX4_digest_76 : decode cX4_digest 76 = .ok (.lload_n 2, 1) := by decide +kernel
theorem dX4_digest_77 : decode cX4_digest 77 = .ok (.aload_n 1, 1) := by decide +kernel
theorem dX4_digest_78 : decode cX4_digest 78 = .ok (.iload 4, 2) := by decide +kernel
theorem dX4_digest_80 : decode cX4_digest 80 = .ok (.aaload, 1) := by decide +kernel
theorem dX4_digest_81 : decode cX4_digest 81 = .ok (.iload 5, 2) := by decide +kernel
theorem dX4_digest_83 : decode cX4_digest 83 = .ok (.iaload, 1) := by decide +kernel
theorem dX4_digest_84 : decode cX4_digest 84 = .ok (.i2l, 1) := by decide +kernel
theorem dX4_digest_85 : decode cX4_digest 85 = .ok (.invokestatic 166, 3) := by decide +kernel
theorem dX4_digest_88 : decode cX4_digest 88 = .ok (.lstore_n 2, 1) := by decide +kernel
theorem dX4_digest_89 : decode cX4_digest 89 = .ok (.iinc 5 1, 3) := by decide +kernel
theorem dX4_digest_92 : decode cX4_digest 92 = .ok (.goto (-47), 3) := by decide +kernel
theorem dX4_digest_95 : decode cX4_digest 95 = .ok (.iinc 4 1, 3) := by decide +kernel
theorem dX4_digest_98 : decode cX4_digest 98 = .ok (.goto (-71), 3) := by decide +kernel
theorem dX4_digest_101 : decode cX4_digest 101 = .ok (.lload_n 2, 1) := by decide +kernel
theorem dX4_digest_102 : decode cX4_digest 102 = .ok (.aload_n 0, 1) := by decide +kernel
theorem dX4_digest_103 : decode cX4_digest 103 = .ok (.getfield 39, 3) := by decide +kernel
theorem dX4_digest_106 : decode cX4_digest 106 = .ok (.i2l, 1) := by decide +kernel
theorem dX4_digest_107 : decode cX4_digest 107 = .ok (.invokestatic 166, 3) := by decide +kernel
theorem dX4_digest_110 : decode cX4_digest 110 = .ok (.lreturn, 1) := by decide +kernel
theorem dX4_taken_0 : decode cX4_taken 0 = .ok (.ldc2_w 170, 3) := by decide +kernel
theorem dX4_taken_3 : decode cX4_taken 3 = .ok (.lload_n 0, 1) := by decide +kernel
theorem dX4_taken_4 : decode cX4_taken 4 = .ok (.lmul, 1) := by decide +kernel
theorem dX4_taken_5 : decode cX4_taken 5 = .ok (.lload_n 2, 1) := by decide +kernel
theorem dX4_taken_6 : decode cX4_taken 6 = .ok (.ladd, 1) := by decide +kernel
theorem dX4_taken_7 : decode cX4_taken 7 = .ok (.lreturn, 1) := by decide +kernel
theorem dX4_asAnswer_0 : decode cX4_asAnswer 0 = .ok (.iload_n 0, 1) := by decide +kernel
theorem dX4_asAnswer_1 : decode cX4_asAnswer 1 = .ok (.ifCond .eq 7, 3) := by decide +kernel
theorem dX4_asAnswer_4 : decode cX4_asAnswer 4 = .ok (.iconst 1, 1) := by decide +kernel
theorem dX4_asAnswer_5 : decode cX4_asAnswer 5 = .ok (.goto 4, 3) := by decide +kernel
theorem dX4_asAnswer_8 : decode cX4_asAnswer 8 = .ok (.iconst 0, 1) := by decide +kernel
theorem dX4_asAnswer_9 : decode cX4_asAnswer 9 = .ok (.ireturn, 1) := by decide +kernel
theorem dX4_isKnown_0 : decode cX4_isKnown 0 = .ok (.iload_n 1, 1) := by decide +kernel
theorem dX4_isKnown_1 : decode cX4_isKnown 1 = .ok (.ifCond .lt 18, 3) := by decide +kernel
theorem dX4_isKnown_4 : decode cX4_isKnown 4 = .ok (.iload_n 1, 1) := by decide +kernel
theorem dX4_isKnown_5 : decode cX4_isKnown 5 = .ok (.aload_n 0, 1) := by decide +kernel
theorem dX4_isKnown_6 : decode cX4_isKnown 6 = .ok (.getfield 12, 3) := by decide +kernel
theorem dX4_isKnown_9 : decode cX4_isKnown 9 = .ok (.getfield 161, 3) := by decide +kernel
theorem dX4_isKnown_12 : decode cX4_isKnown 12 = .ok (.if_icmp .ge 7, 3) := by decide +kernel
theorem dX4_isKnown_15 : decode cX4_isKnown 15 = .ok (.iconst 1, 1) := by decide +kernel
theorem dX4_isKnown_16 : decode cX4_isKnown 16 = .ok (.goto 4, 3) := by decide +kernel
theorem dX4_isKnown_19 : decode cX4_isKnown 19 = .ok (.iconst 0, 1) := by decide +kernel
theorem dX4_isKnown_20 : decode cX4_isKnown 20 = .ok (.ireturn, 1) := by decide +kernel
theorem dX4_areKnown_0 : decode cX4_areKnown 0 = .ok (.aload_n 0, 1) := by decide +kernel
theorem dX4_areKnown_1 : decode cX4_areKnown 1 = .ok (.iload_n 1, 1) := by decide +kernel
theorem dX4_areKnown_2 : decode cX4_areKnown 2 = .ok (.invokevirtual 154, 3) := by decide +kernel
theorem dX4_areKnown_5 : decode cX4_areKnown 5 = .ok (.ifCond .eq 15, 3) := by decide +kernel
theorem dX4_areKnown_8 : decode cX4_areKnown 8 = .ok (.aload_n 0, 1) := by decide +kernel
theorem dX4_areKnown_9 : decode cX4_areKnown 9 = .ok (.iload_n 2, 1) := by decide +kernel
theorem dX4_areKnown_10 : decode cX4_areKnown 10 = .ok (.invokevirtual 154, 3) := by decide +kernel
theorem dX4_areKnown_13 : decode cX4_areKnown 13 = .ok (.ifCond .eq 7, 3) := by decide +kernel
theorem dX4_areKnown_16 : decode cX4_areKnown 16 = .ok (.iconst 1, 1) := by decide +kernel
theorem dX4_areKnown_17 : decode cX4_areKnown 17 = .ok (.goto 4, 3) := by decide +kernel
theorem dX4_areKnown_20 : decode cX4_areKnown 20 = .ok (.iconst 0, 1) := by decide +kernel
theorem dX4_areKnown_21 : decode cX4_areKnown 21 = .ok (.ireturn, 1) := by decide +kernel
theorem dX4_isCode_0 : decode cX4_isCode 0 = .ok (.iload_n 1, 1) := by decide +kernel
theorem dX4_isCode_1 : decode cX4_isCode 1 = .ok (.ifCond .lt 18, 3) := by decide +kernel
theorem dX4_isCode_4 : decode cX4_isCode 4 = .ok (.iload_n 1, 1) := by decide +kernel
theorem dX4_isCode_5 : decode cX4_isCode 5 = .ok (.aload_n 0, 1) := by decide +kernel
theorem dX4_isCode_6 : decode cX4_isCode 6 = .ok (.getfield 21, 3) := by decide +kernel
theorem dX4_isCode_9 : decode cX4_isCode 9 = .ok (.invokevirtual 93, 3) := by decide +kernel
theorem dX4_isCode_12 : decode cX4_isCode 12 = .ok (.if_icmp .ge 7, 3) := by decide +kernel
theorem dX4_isCode_15 : decode cX4_isCode 15 = .ok (.iconst 1, 1) := by decide +kernel
theorem dX4_isCode_16 : decode cX4_isCode 16 = .ok (.goto 4, 3) := by decide +kernel
theorem dX4_isCode_19 : decode cX4_isCode 19 = .ok (.iconst 0, 1) := by decide +kernel
theorem dX4_isCode_20 : decode cX4_isCode 20 = .ok (.ireturn, 1) := by decide +kernel
theorem dX4_isReach_0 : decode cX4_isReach 0 = .ok (.iload_n 0, 1) := by decide +kernel
theorem dX4_isReach_1 : decode cX4_isReach 1 = .ok (.ifCond .lt 14, 3) := by decide +kernel
theorem dX4_isReach_4 : decode cX4_isReach 4 = .ok (.iload_n 0, 1) := by decide +kernel
theorem dX4_isReach_5 : decode cX4_isReach 5 = .ok (.sipush 1000, 3) := by decide +kernel
theorem dX4_isReach_8 : decode cX4_isReach 8 = .ok (.if_icmp .gt 7, 3) := by decide +kernel
theorem dX4_isReach_11 : decode cX4_isReach 11 = .ok (.iconst 1, 1) := by decide +kernel
theorem dX4_isReach_12 : decode cX4_isReach 12 = .ok (.goto 4, 3) := by decide +kernel
theorem dX4_isReach_15 : decode cX4_isReach 15 = .ok (.iconst 0, 1) := by decide +kernel
theorem dX4_isReach_16 : decode cX4_isReach 16 = .ok (.ireturn, 1) := by decide +kernel
theorem dX4_isNear_0 : decode cX4_isNear 0 = .ok (.aload_n 0, 1) := by decide +kernel
theorem dX4_isNear_1 : decode cX4_isNear 1 = .ok (.getfield 12, 3) := by decide +kernel
theorem dX4_isNear_4 : decode cX4_isNear 4 = .ok (.iconst 0, 1) := by decide +kernel
theorem dX4_isNear_5 : decode cX4_isNear 5 = .ok (.invokevirtual 59, 3) := by decide +kernel
theorem dX4_isNear_8 : decode cX4_isNear 8 = .ok (.ifCond .ne 7, 3) := by decide +kernel
theorem dX4_isNear_11 : decode cX4_isNear 11 = .ok (.iconst 1, 1) := by decide +kernel
theorem dX4_isNear_12 : decode cX4_isNear 12 = .ok (.goto 4, 3) := by decide +kernel
theorem dX4_isNear_15 : decode cX4_isNear 15 = .ok (.iconst 0, 1) := by decide +kernel
theorem dX4_isNear_16 : decode cX4_isNear 16 = .ok (.ireturn, 1) := by decide +kernel
theorem dX4_greatestDivisor_0 : decode cX4_greatestDivisor 0 = .ok (.iload_n 0, 1) := by decide +kernel
theorem dX4_greatestDivisor_1 : decode cX4_greatestDivisor 1 = .ok (.istore_n 2, 1) := by decide +kernel
theorem dX4_greatestDivisor_2 : decode cX4_greatestDivisor 2 = .ok (.iload_n 1, 1) := by decide +kernel
theorem dX4_greatestDivisor_3 : decode cX4_greatestDivisor 3 = .ok (.istore_n 3, 1) := by decide +kernel
theorem dX4_greatestDivisor_4 : decode cX4_greatestDivisor 4 = .ok (.iconst 0, 1) := by decide +kernel
theorem dX4_greatestDivisor_5 : decode cX4_greatestDivisor 5 = .ok (.istore 4, 2) := by decide +kernel
theorem dX4_greatestDivisor_7 : decode cX4_greatestDivisor 7 = .ok (.iload 4, 2) := by decide +kernel
theorem dX4_greatestDivisor_9 : decode cX4_greatestDivisor 9 = .ok (.bipush 64, 2) := by decide +kernel
theorem dX4_greatestDivisor_11 : decode cX4_greatestDivisor 11 = .ok (.if_icmp .ge 23, 3) := by decide +kernel
theorem dX4_greatestDivisor_14 : decode cX4_greatestDivisor 14 = .ok (.iload_n 3, 1) := by decide +kernel
theorem dX4_greatestDivisor_15 : decode cX4_greatestDivisor 15 = .ok (.ifCond .le 19, 3) := by decide +kernel
theorem dX4_greatestDivisor_18 : decode cX4_greatestDivisor 18 = .ok (.iload_n 2, 1) := by decide +kernel
theorem dX4_greatestDivisor_19 : decode cX4_greatestDivisor 19 = .ok (.iload_n 3, 1) := by decide +kernel
theorem dX4_greatestDivisor_20 : decode cX4_greatestDivisor 20 = .ok (.irem, 1) := by decide +kernel
theorem dX4_greatestDivisor_21 : decode cX4_greatestDivisor 21 = .ok (.istore 5, 2) := by decide +kernel
theorem dX4_greatestDivisor_23 : decode cX4_greatestDivisor 23 = .ok (.iload_n 3, 1) := by decide +kernel
theorem dX4_greatestDivisor_24 : decode cX4_greatestDivisor 24 = .ok (.istore_n 2, 1) := by decide +kernel
theorem dX4_greatestDivisor_25 : decode cX4_greatestDivisor 25 = .ok (.iload 5, 2) := by decide +kernel
theorem dX4_greatestDivisor_27 : decode cX4_greatestDivisor 27 = .ok (.istore_n 3, 1) := by decide +kernel
theorem dX4_greatestDivisor_28 : decode cX4_greatestDivisor 28 = .ok (.iinc 4 1, 3) := by decide +kernel
theorem dX4_greatestDivisor_31 : decode cX4_greatestDivisor 31 = .ok (.goto (-24), 3) := by decide +kernel
theorem dX4_greatestDivisor_34 : decode cX4_greatestDivisor 34 = .ok (.iload_n 2, 1) := by decide +kernel
theorem dX4_greatestDivisor_35 : decode cX4_greatestDivisor 35 = .ok (.ireturn, 1) := by decide +kernel
theorem dJ6_bitCount_0f7a4_0 : decode cJ6_bitCount_0f7a4 0 = .ok (.iload_n 0, 1) := by decide +kernel
theorem dJ6_bitCount_0f7a4_1 : decode cJ6_bitCount_0f7a4 1 = .ok (.iload_n 0, 1) := by decide +kernel
theorem dJ6_bitCount_0f7a4_2 : decode cJ6_bitCount_0f7a4 2 = .ok (.iconst 1, 1) := by decide +kernel
theorem dJ6_bitCount_0f7a4_3 : decode cJ6_bitCount_0f7a4 3 = .ok (.iushr, 1) := by decide +kernel
theorem dJ6_bitCount_0f7a4_4 : decode cJ6_bitCount_0f7a4 4 = .ok (.ldc_w 265, 3) := by decide +kernel
theorem dJ6_bitCount_0f7a4_7 : decode cJ6_bitCount_0f7a4 7 = .ok (.iand, 1) := by decide +kernel
theorem dJ6_bitCount_0f7a4_8 : decode cJ6_bitCount_0f7a4 8 = .ok (.isub, 1) := by decide +kernel
theorem dJ6_bitCount_0f7a4_9 : decode cJ6_bitCount_0f7a4 9 = .ok (.istore_n 0, 1) := by decide +kernel
theorem dJ6_bitCount_0f7a4_10 : decode cJ6_bitCount_0f7a4 10 = .ok (.iload_n 0, 1) := by decide +kernel
theorem dJ6_bitCount_0f7a4_11 : decode cJ6_bitCount_0f7a4 11 = .ok (.ldc_w 266, 3) := by decide +kernel
theorem dJ6_bitCount_0f7a4_14 : decode cJ6_bitCount_0f7a4 14 = .ok (.iand, 1) := by decide +kernel
theorem dJ6_bitCount_0f7a4_15 : decode cJ6_bitCount_0f7a4 15 = .ok (.iload_n 0, 1) := by decide +kernel
theorem dJ6_bitCount_0f7a4_16 : decode cJ6_bitCount_0f7a4 16 = .ok (.iconst 2, 1) := by decide +kernel
theorem dJ6_bitCount_0f7a4_17 : decode cJ6_bitCount_0f7a4 17 = .ok (.iushr, 1) := by decide +kernel
theorem dJ6_bitCount_0f7a4_18 : decode cJ6_bitCount_0f7a4 18 = .ok (.ldc_w 266, 3) := by decide +kernel
theorem dJ6_bitCount_0f7a4_21 : decode cJ6_bitCount_0f7a4 21 = .ok (.iand, 1) := by decide +kernel
theorem dJ6_bitCount_0f7a4_22 : decode cJ6_bitCount_0f7a4 22 = .ok (.iadd, 1) := by decide +kernel
theorem dJ6_bitCount_0f7a4_23 : decode cJ6_bitCount_0f7a4 23 = .ok (.istore_n 0, 1) := by decide +kernel
theorem dJ6_bitCount_0f7a4_24 : decode cJ6_bitCount_0f7a4 24 = .ok (.iload_n 0, 1) := by decide +kernel
theorem dJ6_bitCount_0f7a4_25 : decode cJ6_bitCount_0f7a4 25 = .ok (.iload_n 0, 1) := by decide +kernel
theorem dJ6_bitCount_0f7a4_26 : decode cJ6_bitCount_0f7a4 26 = .ok (.iconst 4, 1) := by decide +kernel
theorem dJ6_bitCount_0f7a4_27 : decode cJ6_bitCount_0f7a4 27 = .ok (.iushr, 1) := by decide +kernel
theorem dJ6_bitCount_0f7a4_28 : decode cJ6_bitCount_0f7a4 28 = .ok (.iadd, 1) := by decide +kernel
theorem dJ6_bitCount_0f7a4_29 : decode cJ6_bitCount_0f7a4 29 = .ok (.ldc_w 267, 3) := by decide +kernel
theorem dJ6_bitCount_0f7a4_32 : decode cJ6_bitCount_0f7a4 32 = .ok (.iand, 1) := by decide +kernel
theorem dJ6_bitCount_0f7a4_33 : decode cJ6_bitCount_0f7a4 33 = .ok (.istore_n 0, 1) := by decide +kernel
theorem dJ6_bitCount_0f7a4_34 : decode cJ6_bitCount_0f7a4 34 = .ok (.iload_n 0, 1) := by decide +kernel
theorem dJ6_bitCount_0f7a4_35 : decode cJ6_bitCount_0f7a4 35 = .ok (.iload_n 0, 1) := by decide +kernel
theorem dJ6_bitCount_0f7a4_36 : decode cJ6_bitCount_0f7a4 36 = .ok (.bipush 8, 2) := by decide +kernel
theorem dJ6_bitCount_0f7a4_38 : decode cJ6_bitCount_0f7a4 38 = .ok (.iushr, 1) := by decide +kernel
theorem dJ6_bitCount_0f7a4_39 : decode cJ6_bitCount_0f7a4 39 = .ok (.iadd, 1) := by decide +kernel
theorem dJ6_bitCount_0f7a4_40 : decode cJ6_bitCount_0f7a4 40 = .ok (.istore_n 0, 1) := by decide +kernel
theorem dJ6_bitCount_0f7a4_41 : decode cJ6_bitCount_0f7a4 41 = .ok (.iload_n 0, 1) := by decide +kernel
theorem dJ6_bitCount_0f7a4_42 : decode cJ6_bitCount_0f7a4 42 = .ok (.iload_n 0, 1) := by decide +kernel
theorem dJ6_bitCount_0f7a4_43 : decode cJ6_bitCount_0f7a4 43 = .ok (.bipush 16, 2) := by decide +kernel
theorem dJ6_bitCount_0f7a4_45 : decode cJ6_bitCount_0f7a4 45 = .ok (.iushr, 1) := by decide +kernel
theorem dJ6_bitCount_0f7a4_46 : decode cJ6_bitCount_0f7a4 46 = .ok (.iadd, 1) := by decide +kernel
theorem dJ6_bitCount_0f7a4_47 : decode cJ6_bitCount_0f7a4 47 = .ok (.istore_n 0, 1) := by decide +kernel
theorem dJ6_bitCount_0f7a4_48 : decode cJ6_bitCount_0f7a4 48 = .ok (.iload_n 0, 1) := by decide +kernel
theorem dJ6_bitCount_0f7a4_49 : decode cJ6_bitCount_0f7a4 49 = .ok (.bipush 63, 2) := by decide +kernel
theorem dJ6_bitCount_0f7a4_51 : decode cJ6_bitCount_0f7a4 51 = .ok (.iand, 1) := by decide +kernel
theorem dJ6_bitCount_0f7a4_52 : decode cJ6_bitCount_0f7a4 52 = .ok (.ireturn, 1) := by decide +kernel
theorem dJ9_max_7cf53_0 : decode cJ9_max_7cf53 0 = .ok (.iload_n 0, 1) := by decide +kernel
theorem dJ9_max_7cf53_1 : decode cJ9_max_7cf53 1 = .ok (.iload_n 1, 1) := by decide +kernel
theorem dJ9_max_7cf53_2 : decode cJ9_max_7cf53 2 = .ok (.if_icmp .lt 7, 3) := by decide +kernel
theorem dJ9_max_7cf53_5 : decode cJ9_max_7cf53 5 = .ok (.iload_n 0, 1) := by decide +kernel
theorem dJ9_max_7cf53_6 : decode cJ9_max_7cf53 6 = .ok (.goto 4, 3) := by decide +kernel
theorem dJ9_max_7cf53_9 : decode cJ9_max_7cf53 9 = .ok (.iload_n 1, 1) := by decide +kernel
theorem dJ9_max_7cf53_10 : decode cJ9_max_7cf53 10 = .ok (.ireturn, 1) := by decide +kernel
theorem dJ9_min_7cf53_0 : decode cJ9_min_7cf53 0 = .ok (.iload_n 0, 1) := by decide +kernel
theorem dJ9_min_7cf53_1 : decode cJ9_min_7cf53 1 = .ok (.iload_n 1, 1) := by decide +kernel
theorem dJ9_min_7cf53_2 : decode cJ9_min_7cf53 2 = .ok (.if_icmp .gt 7, 3) := by decide +kernel
theorem dJ9_min_7cf53_5 : decode cJ9_min_7cf53 5 = .ok (.iload_n 0, 1) := by decide +kernel
theorem dJ9_min_7cf53_6 : decode cJ9_min_7cf53 6 = .ok (.goto 4, 3) := by decide +kernel
theorem dJ9_min_7cf53_9 : decode cJ9_min_7cf53 9 = .ok (.iload_n 1, 1) := by decide +kernel
theorem dJ9_min_7cf53_10 : decode cJ9_min_7cf53 10 = .ok (.ireturn, 1) := by decide +kernel
theorem dJ7_fill_53178_0 : decode cJ7_fill_53178 0 = .ok (.iconst 0, 1) := by decide +kernel
theorem dJ7_fill_53178_1 : decode cJ7_fill_53178 1 = .ok (.istore_n 2, 1) := by decide +kernel
theorem dJ7_fill_53178_2 : decode cJ7_fill_53178 2 = .ok (.aload_n 0, 1) := by decide +kernel
theorem dJ7_fill_53178_3 : decode cJ7_fill_53178 3 = .ok (.arraylength, 1) := by decide +kernel
theorem dJ7_fill_53178_4 : decode cJ7_fill_53178 4 = .ok (.istore_n 3, 1) := by decide +kernel
theorem dJ7_fill_53178_5 : decode cJ7_fill_53178 5 = .ok (.iload_n 2, 1) := by decide +kernel
theorem dJ7_fill_53178_6 : decode cJ7_fill_53178 6 = .ok (.iload_n 3, 1) := by decide +kernel
theorem dJ7_fill_53178_7 : decode cJ7_fill_53178 7 = .ok (.if_icmp .ge 13, 3) := by decide +kernel
theorem dJ7_fill_53178_10 : decode cJ7_fill_53178 10 = .ok (.aload_n 0, 1) := by decide +kernel
theorem dJ7_fill_53178_11 : decode cJ7_fill_53178 11 = .ok (.iload_n 2, 1) := by decide +kernel
theorem dJ7_fill_53178_12 : decode cJ7_fill_53178 12 = .ok (.iload_n 1, 1) := by decide +kernel
theorem dJ7_fill_53178_13 : decode cJ7_fill_53178 13 = .ok (.iastore, 1) := by decide +kernel
theorem dJ7_fill_53178_14 : decode cJ7_fill_53178 14 = .ok (.iinc 2 1, 3) := by decide +kernel
theorem dJ7_fill_53178_17 : decode cJ7_fill_53178 17 = .ok (.goto (-12), 3) := by decide +kernel
theorem dJ7_fill_53178_20 : decode cJ7_fill_53178 20 = .ok (.return_, 1) := by decide +kernel
end
section
theorem dX5_init_0 : decode cX5_init 0 = .ok (.aload_n 0, 1) := by decide +kernel
theorem dX5_init_1 : decode cX5_init 1 = .ok (.invokespecial 1, 3) := by decide +kernel
theorem dX5_init_4 : decode cX5_init 4 = .ok (.aload_n 0, 1) := by decide +kernel
theorem dX5_init_5 : decode cX5_init 5 = .ok (.iconst 2, 1) := by decide +kernel
theorem dX5_init_6 : decode cX5_init 6 = .ok (.putfield 7, 3) := by decide +kernel
theorem dX5_init_9 : decode cX5_init 9 = .ok (.aload_n 0, 1) := by decide +kernel
theorem dX5_init_10 : decode cX5_init 10 = .ok (.bipush 36, 2) := by decide +kernel
theorem dX5_init_12 : decode cX5_init 12 = .ok (.newarray .int, 2) := by decide +kernel
theorem dX5_init_14 : decode cX5_init 14 = .ok (.putfield 13, 3) := by decide +kernel
theorem dX5_init_17 : decode cX5_init 17 = .ok (.aload_n 0, 1) := by decide +kernel
theorem dX5_init_18 : decode cX5_init 18 = .ok (.bipush 36, 2) := by decide +kernel
theorem dX5_init_20 : decode cX5_init 20 = .ok (.newarray .int, 2) := by decide +kernel
theorem dX5_init_22 : decode cX5_init 22 = .ok (.putfield 17, 3) := by decide +kernel
theorem dX5_init_25 : decode cX5_init 25 = .ok (.aload_n 0, 1) := by decide +kernel
theorem dX5_init_26 : decode cX5_init 26 = .ok (.bipush 36, 2) := by decide +kernel
theorem dX5_init_28 : decode cX5_init 28 = .ok (.newarray .boolean, 2) := by decide +kernel
theorem dX5_init_30 : decode cX5_init 30 = .ok (.putfield 20, 3) := by decide +kernel
theorem dX5_init_33 : decode cX5_init 33 = .ok (.aload_n 0, 1) := by decide +kernel
theorem dX5_init_34 : decode cX5_init 34 = .ok (.bipush 6, 2) := by decide +kernel
theorem dX5_init_36 : decode cX5_init 36 = .ok (.newarray .int, 2) := by decide +kernel
theorem dX5_init_38 : decode cX5_init 38 = .ok (.putfield 24, 3) := by decide +kernel
theorem dX5_init_41 : decode cX5_init 41 = .ok (.aload_n 0, 1) := by decide +kernel
theorem dX5_init_42 : decode cX5_init 42 = .ok (.bipush 36, 2) := by decide +kernel
theorem dX5_init_44 : decode cX5_init 44 = .ok (.newarray .int, 2) := by decide +kernel
theorem dX5_init_46 : decode cX5_init 46 = .ok (.putfield 27, 3) := by decide +kernel
theorem dX5_init_49 : decode cX5_init 49 = .ok (.aload_n 0, 1) := by decide +kernel
theorem dX5_init_50 : decode cX5_init 50 = .ok (.bipush 6, 2) := by decide +kernel
theorem dX5_init_52 : decode cX5_init 52 = .ok (.newarray .int, 2) := by decide +kernel
theorem dX5_init_54 : decode cX5_init 54 = .ok (.putfield 30, 3) := by decide +kernel
theorem dX5_init_57 : decode cX5_init 57 = .ok (.aload_n 0, 1) := by decide +kernel
theorem dX5_init_58 : decode cX5_init 58 = .ok (.invokevirtual 33, 3) := by decide +kernel
theorem dX5_init_61 : decode cX5_init 61 = .ok (.return_, 1) := by decide +kernel
theorem dX5_in_0 : decode cX5_in 0 = .ok (.iload_n 0, 1) := by decide +kernel
theorem dX5_in_1 : decode cX5_in 1 = .ok (.iload_n 1, 1) := by decide +kernel
theorem dX5_in_2 : decode cX5_in 2 = .ok (.if_icmp .lt 12, 3) := by decide +kernel
theorem dX5_in_5 : decode cX5_in 5 = .ok (.iload_n 0, 1) := by decide +kernel
theorem dX5_in_6 : decode cX5_in 6 = .ok (.iload_n 2, 1) := by decide +kernel
theorem dX5_in_7 : decode cX5_in 7 = .ok (.if_icmp .gt 7, 3) := by decide +kernel
theorem dX5_in_10 : decode cX5_in 10 = .ok (.iconst 1, 1) := by decide +kernel
theorem dX5_in_11 : decode cX5_in 11 = .ok (.goto 4, 3) := by decide +kernel
theorem dX5_in_14 : decode cX5_in 14 = .ok (.iconst 0, 1) := by decide +kernel
theorem dX5_in_15 : decode cX5_in 15 = .ok (.ireturn, 1) := by decide +kernel
theorem dX5_isPoint_0 : decode cX5_isPoint 0 = .ok (.iload_n 1, 1) := by decide +kernel
theorem dX5_isPoint_1 : decode cX5_isPoint 1 = .ok (.iconst 0, 1) := by decide +kernel
theorem dX5_isPoint_2 : decode cX5_isPoint 2 = .ok (.aload_n 0, 1) := by decide +kernel
theorem dX5_isPoint_3 : decode cX5_isPoint 3 = .ok (.getfield 7, 3) := by decide +kernel
theorem dX5_isPoint_6 : decode cX5_isPoint 6 = .ok (.iconst 1, 1) := by decide +kernel
theorem dX5_isPoint_7 : decode cX5_isPoint 7 = .ok (.isub, 1) := by decide +kernel
theorem dX5_isPoint_8 : decode cX5_isPoint 8 = .ok (.invokestatic 36, 3) := by decide +kernel
theorem dX5_isPoint_11 : decode cX5_isPoint 11 = .ok (.ireturn, 1) := by decide +kernel
theorem dX5_begin_0 : decode cX5_begin 0 = .ok (.iconst 0, 1) := by decide +kernel
theorem dX5_begin_1 : decode cX5_begin 1 = .ok (.istore_n 1, 1) := by decide +kernel
theorem dX5_begin_2 : decode cX5_begin 2 = .ok (.iload_n 1, 1) := by decide +kernel
theorem dX5_begin_3 : decode cX5_begin 3 = .ok (.bipush 6, 2) := by decide +kernel
theorem dX5_begin_5 : decode cX5_begin 5 = .ok (.if_icmp .ge 44, 3) := by decide +kernel
theorem dX5_begin_8 : decode cX5_begin 8 = .ok (.iconst 0, 1) := by decide +kernel
theorem dX5_begin_9 : decode cX5_begin 9 = .ok (.istore_n 2, 1) := by decide +kernel
theorem dX5_begin_10 : decode cX5_begin 10 = .ok (.iload_n 2, 1) := by decide +kernel
theorem dX5_begin_11 : decode cX5_begin 11 = .ok (.bipush 6, 2) := by decide +kernel
theorem dX5_begin_13 : decode cX5_begin 13 = .ok (.if_icmp .ge 30, 3) := by decide +kernel
theorem dX5_begin_16 : decode cX5_begin 16 = .ok (.aload_n 0, 1) := by decide +kernel
theorem dX5_begin_17 : decode cX5_begin 17 = .ok (.getfield 13, 3) := by decide +kernel
theorem dX5_begin_20 : decode cX5_begin 20 = .ok (.bipush 6, 2) := by decide +kernel
theorem dX5_begin_22 : decode cX5_begin 22 = .ok (.iload_n 1, 1) := by decide +kernel
theorem dX5_begin_23 : decode cX5_begin 23 = .ok (.imul, 1) := by decide +kernel
theorem dX5_begin_24 : decode cX5_begin 24 = .ok (.iload_n 2, 1) := by decide +kernel
theorem dX5_begin_25 : decode cX5_begin 25 = .ok (.iadd, 1) := by decide +kernel
theorem dX5_begin_26 : decode cX5_begin 26 = .ok (.iload_n 1, 1) := by decide +kernel
theorem dX5_begin_27 : decode cX5_begin 27 = .ok (.iload_n 2, 1) := by decide +kernel
theorem dX5_begin_28 : decode cX5_begin 28 = .ok (.if_icmp .ne 7, 3) := by decide +kernel
theorem dX5_begin_31 : decode cX5_begin 31 = .ok (.iconst 0, 1) := by decide +kernel
theorem dX5_begin_32 : decode cX5_begin 32 = .ok (.goto 4, 3) := by decide +kernel
theorem dX5_begin_35 : decode cX5_begin 35 = .ok (.iconst 1, 1) := by decide +kernel
theorem dX5_begin_36 : decode cX5_begin 36 = .ok (.iastore, 1) := by decide +kernel
theorem dX5_begin_37 : decode cX5_begin 37 = .ok (.iinc 2 1, 3) := by decide +kernel
theorem dX5_begin_40 : decode cX5_begin 40 = .ok (.goto (-30), 3) := by decide +kernel
theorem dX5_begin_43 : decode cX5_begin 43 = .ok (.iinc 1 1, 3) := by decide +kernel
theorem dX5_begin_46 : decode cX5_begin 46 = .ok (.goto (-44), 3) := by decide +kernel
theorem dX5_begin_49 : decode cX5_begin 49 = .ok (.return_, 1) := by decide +kernel
theorem dX5_greater_0 : decode cX5_greater 0 = .ok (.iload_n 0, 1) := by decide +kernel
theorem dX5_greater_1 : decode cX5_greater 1 = .ok (.iload_n 1, 1) := by decide +kernel
theorem dX5_greater_2 : decode cX5_greater 2 = .ok (.if_icmp .le 7, 3) := by decide +kernel
theorem dX5_greater_5 : decode cX5_greater 5 = .ok (.iload_n 0, 1) := by decide +kernel
theorem dX5_greater_6 : decode cX5_greater 6 = .ok (.goto 4, 3) := by decide +kernel
theorem dX5_greater_9 : decode cX5_greater 9 = .ok (.iload_n 1, 1) := by decide +kernel
theorem dX5_greater_10 : decode cX5_greater 10 = .ok (.ireturn, 1) := by decide +kernel
theorem dX5_points_0 : decode cX5_points 0 = .ok (.iload_n 1, 1) := by decide +kernel
theorem dX5_points_1 : decode cX5_points 1 = .ok (.iconst 2, 1) := by decide +kernel
theorem dX5_points_2 : decode cX5_points 2 = .ok (.bipush 6, 2) := by decide +kernel
theorem dX5_points_4 : decode cX5_points 4 = .ok (.invokestatic 36, 3) := by decide +kernel
theorem dX5_points_7 : decode cX5_points 7 = .ok (.ifCond .ne 6, 3) := by decide +kernel
theorem dX5_points_10 : decode cX5_points 10 = .ok (.bipush (-102), 2) := by decide +kernel
theorem dX5_points_12 : decode cX5_points 12 = .ok (.ireturn, 1) := by decide +kernel
theorem dX5_points_13 : decode cX5_points 13 = .ok (.aload_n 0, 1) := by decide +kernel
theorem dX5_points_14 : decode cX5_points 14 = .ok (.iload_n 1, 1) := by decide +kernel
theorem dX5_points_15 : decode cX5_points 15 = .ok (.putfield 7, 3) := by decide +kernel
theorem dX5_points_18 : decode cX5_points 18 = .ok (.aload_n 0, 1) := by decide +kernel
theorem dX5_points_19 : decode cX5_points 19 = .ok (.invokevirtual 33, 3) := by decide +kernel
theorem dX5_points_22 : decode cX5_points 22 = .ok (.iload_n 1, 1) := by decide +kernel
theorem dX5_points_23 : decode cX5_points 23 = .ok (.ireturn, 1) := by decide +kernel
theorem dX5_set_0 : decode cX5_set 0 = .ok (.aload_n 0, 1) := by decide +kernel
theorem dX5_set_1 : decode cX5_set 1 = .ok (.iload_n 1, 1) := by decide +kernel
theorem dX5_set_2 : decode cX5_set 2 = .ok (.invokevirtual 40, 3) := by decide +kernel
theorem dX5_set_5 : decode cX5_set 5 = .ok (.ifCond .eq 16, 3) := by decide +kernel
theorem dX5_set_8 : decode cX5_set 8 = .ok (.aload_n 0, 1) := by decide +kernel
theorem dX5_set_9 : decode cX5_set 9 = .ok (.iload_n 2, 1) := by decide +kernel
theorem dX5_set_10 : decode cX5_set 10 = .ok (.invokevirtual 40, 3) := by decide +kernel
theorem dX5_set_13 : decode cX5_set 13 = .ok (.ifCond .eq 8, 3) := by decide +kernel
theorem dX5_set_16 : decode cX5_set 16 = .ok (.iload_n 1, 1) := by decide +kernel
theorem dX5_set_17 : decode cX5_set 17 = .ok (.iload_n 2, 1) := by decide +kernel
theorem dX5_set_18 : decode cX5_set 18 = .ok (.if_icmp .ne 6, 3) := by decide +kernel
theorem dX5_set_21 : decode cX5_set 21 = .ok (.bipush (-101), 2) := by decide +kernel
theorem dX5_set_23 : decode cX5_set 23 = .ok (.ireturn, 1) := by decide +kernel
theorem dX5_set_24 : decode cX5_set 24 = .ok (.iload_n 3, 1) := by decide +kernel
theorem dX5_set_25 : decode cX5_set 25 = .ok (.iconst 1, 1) := by decide +kernel
theorem dX5_set_26 : decode cX5_set 26 = .ok (.sipush 1000, 3) := by decide +kernel
theorem dX5_set_29 : decode cX5_set 29 = .ok (.invokestatic 36, 3) := by decide +kernel
theorem dX5_set_32 : decode cX5_set 32 = .ok (.ifCond .ne 6, 3) := by decide +kernel
theorem dX5_set_35 : decode cX5_set 35 = .ok (.bipush (-102), 2) := by decide +kernel
theorem dX5_set_37 : decode cX5_set 37 = .ok (.ireturn, 1) := by decide +kernel
theorem dX5_set_38 : decode cX5_set 38 = .ok (.aload_n 0, 1) := by decide +kernel
theorem dX5_set_39 : decode cX5_set 39 = .ok (.getfield 13, 3) := by decide +kernel
theorem dX5_set_42 : decode cX5_set 42 = .ok (.bipush 6, 2) := by decide +kernel
theorem dX5_set_44 : decode cX5_set 44 = .ok (.iload_n 1, 1) := by decide +kernel
theorem dX5_set_45 : decode cX5_set 45 = .ok (.imul, 1) := by decide +kernel
theorem dX5_set_46 : decode cX5_set 46 = .ok (.iload_n 2, 1) := by decide +kernel
theorem dX5_set_47 : decode cX5_set 47 = .ok (.iadd, 1) := by decide +kernel
theorem dX5_set_48 : decode cX5_set 48 = .ok (.iaload, 1) := by decide +kernel
theorem dX5_set_49 : decode cX5_set 49 = .ok (.istore 4, 2) := by decide +kernel
theorem dX5_set_51 : decode cX5_set 51 = .ok (.aload_n 0, 1) := by decide +kernel
theorem dX5_set_52 : decode cX5_set 52 = .ok (.getfield 13, 3) := by decide +kernel
theorem dX5_set_55 : decode cX5_set 55 = .ok (.bipush 6, 2) := by decide +kernel
theorem dX5_set_57 : decode cX5_set 57 = .ok (.iload_n 1, 1) := by decide +kernel
theorem dX5_set_58 : decode cX5_set 58 = .ok (.imul, 1) := by decide +kernel
theorem dX5_set_59 : decode cX5_set 59 = .ok (.iload_n 2, 1) := by decide +kernel
theorem dX5_set_60 : decode cX5_set 60 = .ok (.iadd, 1) := by decide +kernel
theorem dX5_set_61 : decode cX5_set 61 = .ok (.iload_n 3, 1) := by decide +kernel
theorem dX5_set_62 : decode cX5_set 62 = .ok (.iastore, 1) := by decide +kernel
theorem dX5_set_63 : decode cX5_set 63 = .ok (.aload_n 0, 1) := by decide +kernel
theorem dX5_set_64 : decode cX5_set 64 = .ok (.getfield 13, 3) := by decide +kernel
theorem dX5_set_67 : decode cX5_set 67 = .ok (.bipush 6, 2) := by decide +kernel
theorem dX5_set_69 : decode cX5_set 69 = .ok (.iload_n 2, 1) := by decide +kernel
theorem dX5_set_70 : decode cX5_set 70 = .ok (.imul, 1) := by decide +kernel
theorem dX5_set_71 : decode cX5_set 71 = .ok (.iload_n 1, 1) := by decide +kernel
theorem dX5_set_72 : decode cX5_set 72 = .ok (.iadd, 1) := by decide +kernel
theorem dX5_set_73 : decode cX5_set 73 = .ok (.iload_n 3, 1) := by decide +kernel
theorem dX5_set_74 : decode cX5_set 74 = .ok (.iastore, 1) := by decide +kernel
theorem dX5_set_75 : decode cX5_set 75 = .ok (.iload 4, 2) := by decide +kernel
theorem dX5_set_77 : decode cX5_set 77 = .ok (.ireturn, 1) := by decide +kernel
theorem dX5_d_0 : decode cX5_d 0 = .ok (.aload_n 0, 1) := by decide +kernel
theorem dX5_d_1 : decode cX5_d 1 = .ok (.getfield 13, 3) := by decide +kernel
theorem dX5_d_4 : decode cX5_d 4 = .ok (.bipush 6, 2) := by decide +kernel
theorem dX5_d_6 : decode cX5_d 6 = .ok (.iload_n 1, 1) := by decide +kernel
theorem dX5_d_7 : decode cX5_d 7 = .ok (.imul, 1) := by decide +kernel
theorem dX5_d_8 : decode cX5_d 8 = .ok (.iload_n 2, 1) := by decide +kernel
theorem dX5_d_9 : decode cX5_d 9 = .ok (.iadd, 1) := by decide +kernel
theorem dX5_d_10 : decode cX5_d 10 = .ok (.iaload, 1) := by decide +kernel
theorem dX5_d_11 : decode cX5_d 11 = .ok (.ireturn, 1) := by decide +kernel
theorem dX5_get_0 : decode cX5_get 0 = .ok (.aload_n 0, 1) := by decide +kernel
theorem dX5_get_1 : decode cX5_get 1 = .ok (.iload_n 1, 1) := by decide +kernel
theorem dX5_get_2 : decode cX5_get 2 = .ok (.invokevirtual 40, 3) := by decide +kernel
theorem dX5_get_5 : decode cX5_get 5 = .ok (.ifCond .eq 20, 3) := by decide +kernel
theorem dX5_get_8 : decode cX5_get 8 = .ok (.aload_n 0, 1) := by decide +kernel
theorem dX5_get_9 : decode cX5_get 9 = .ok (.iload_n 2, 1) := by decide +kernel
theorem dX5_get_10 : decode cX5_get 10 = .ok (.invokevirtual 40, 3) := by decide +kernel
theorem dX5_get_13 : decode cX5_get 13 = .ok (.ifCond .eq 12, 3) := by decide +kernel
theorem dX5_get_16 : decode cX5_get 16 = .ok (.aload_n 0, 1) := by decide +kernel
theorem dX5_get_17 : decode cX5_get 17 = .ok (.iload_n 1, 1) := by decide +kernel
theorem dX5_get_18 : decode cX5_get 18 = .ok (.iload_n 2, 1) := by decide +kernel
theorem dX5_get_19 : decode cX5_get 19 = .ok (.invokevirtual 44, 3) := by decide +kernel
theorem dX5_get_22 : decode cX5_get 22 = .ok (.goto 5, 3) := by decide +kernel
theorem dX5_get_25 : decode cX5_get 25 = .ok (.bipush (-101), 2) := by decide +kernel
theorem dX5_get_27 : decode cX5_get 27 = .ok (.ireturn, 1) := by decide +kernel
theorem dX5_areFour_0 : decode cX5_areFour 0 = .ok (.aload_n 0, 1) := by decide +kernel
theorem dX5_areFour_1 : decode cX5_areFour 1 = .ok (.iload_n 1, 1) := by decide +kernel
theorem dX5_areFour_2 : decode cX5_areFour 2 = .ok (.iload_n 2, 1) := by decide +kernel
theorem dX5_areFour_3 : decode cX5_areFour 3 = .ok (.invokevirtual 44, 3) := by decide +kernel
theorem dX5_areFour_6 : decode cX5_areFour 6 = .ok (.aload_n 0, 1) := by decide +kernel
theorem dX5_areFour_7 : decode cX5_areFour 7 = .ok (.iload_n 3, 1) := by decide +kernel
theorem dX5_areFour_8 : decode cX5_areFour 8 = .ok (.iload 4, 2) := by decide +kernel
theorem dX5_areFour_10 : decode cX5_areFour 10 = .ok (.invokevirtual 44, 3) := by decide +kernel
theorem dX5_areFour_13 : decode cX5_areFour 13 = .ok (.iadd, 1) := by decide +kernel
theorem dX5_areFour_14 : decode cX5_areFour 14 = .ok (.istore 5, 2) := by decide +kernel
theorem dX5_areFour_16 : decode cX5_areFour 16 = .ok (.aload_n 0, 1) := by decide +kernel
theorem dX5_areFour_17 : decode cX5_areFour 17 = .ok (.iload_n 1, 1) := by decide +kernel
theorem dX5_areFour_18 : decode cX5_areFour 18 = .ok (.iload_n 3, 1) := by decide +kernel
theorem dX5_areFour_19 : decode cX5_areFour 19 = .ok (.invokevirtual 44, 3) := by decide +kernel
theorem dX5_areFour_22 : decode cX5_areFour 22 = .ok (.aload_n 0, 1) := by decide +kernel
theorem dX5_areFour_23 : decode cX5_areFour 23 = .ok (.iload_n 2, 1) := by decide +kernel
theorem dX5_areFour_24 : decode cX5_areFour 24 = .ok (.iload 4, 2) := by decide +kernel
theorem dX5_areFour_26 : decode cX5_areFour 26 = .ok (.invokevirtual 44, 3) := by decide +kernel
theorem dX5_areFour_29 : decode cX5_areFour 29 = .ok (.iadd, 1) := by decide +kernel
theorem dX5_areFour_30 : decode cX5_areFour 30 = .ok (.istore 6, 2) := by decide +kernel
theorem dX5_areFour_32 : decode cX5_areFour 32 = .ok (.aload_n 0, 1) := by decide +kernel
theorem dX5_areFour_33 : decode cX5_areFour 33 = .ok (.iload_n 1, 1) := by decide +kernel
theorem dX5_areFour_34 : decode cX5_areFour 34 = .ok (.iload 4, 2) := by decide +kernel
theorem dX5_areFour_36 : decode cX5_areFour 36 = .ok (.invokevirtual 44, 3) := by decide +kernel
theorem dX5_areFour_39 : decode cX5_areFour 39 = .ok (.aload_n 0, 1) := by decide +kernel
theorem dX5_areFour_40 : decode cX5_areFour 40 = .ok (.iload_n 2, 1) := by decide +kernel
theorem dX5_areFour_41 : decode cX5_areFour 41 = .ok (.iload_n 3, 1) := by decide +kernel
theorem dX5_areFour_42 : decode cX5_areFour 42 = .ok (.invokevirtual 44, 3) := by decide +kernel
theorem dX5_areFour_45 : decode cX5_areFour 45 = .ok (.iadd, 1) := by decide +kernel
theorem dX5_areFour_46 : decode cX5_areFour 46 = .ok (.istore 7, 2) := by decide +kernel
theorem dX5_areFour_48 : decode cX5_areFour 48 = .ok (.iload 5, 2) := by decide +kernel
theorem dX5_areFour_50 : decode cX5_areFour 50 = .ok (.iload 6, 2) := by decide +kernel
theorem dX5_areFour_52 : decode cX5_areFour 52 = .ok (.iload 7, 2) := by decide +kernel
theorem dX5_areFour_54 : decode cX5_areFour 54 = .ok (.invokestatic 48, 3) := by decide +kernel
theorem dX5_areFour_57 : decode cX5_areFour 57 = .ok (.invokestatic 48, 3) := by decide +kernel
theorem dX5_areFour_60 : decode cX5_areFour 60 = .ok (.istore 8, 2) := by decide +kernel
theorem dX5_areFour_62 : decode cX5_areFour 62 = .ok (.iload 5, 2) := by decide +kernel
theorem dX5_areFour_64 : decode cX5_areFour 64 = .ok (.iload 8, 2) := by decide +kernel
theorem dX5_areFour_66 : decode cX5_areFour 66 = .ok (.if_icmp .ne 7, 3) := by decide +kernel
theorem dX5_areFour_69 : decode cX5_areFour 69 = .ok (.iconst 1, 1) := by decide +kernel
theorem dX5_areFour_70 : decode cX5_areFour 70 = .ok (.goto 4, 3) := by decide +kernel
theorem dX5_areFour_73 : decode cX5_areFour 73 = .ok (.iconst 0, 1) := by decide +kernel
theorem dX5_areFour_74 : decode cX5_areFour 74 = .ok (.iload 6, 2) := by decide +kernel
theorem dX5_areFour_76 : decode cX5_areFour 76 = .ok (.iload 8, 2) := by decide +kernel
theorem dX5_areFour_78 : decode cX5_areFour 78 = .ok (.if_icmp .ne 7, 3) := by decide +kernel
theorem dX5_areFour_81 : decode cX5_areFour 81 = .ok (.iconst 1, 1) := by decide +kernel
theorem dX5_areFour_82 : decode cX5_areFour 82 = .ok (.goto 4, 3) := by decide +kernel
theorem dX5_areFour_85 : decode cX5_areFour 85 = .ok (.iconst 0, 1) := by decide +kernel
theorem dX5_areFour_86 : decode cX5_areFour 86 = .ok (.iadd, 1) := by decide +kernel
theorem dX5_areFour_87 : decode cX5_areFour 87 = .ok (.iload 7, 2) := by decide +kernel
theorem dX5_areFour_89 : decode cX5_areFour 89 = .ok (.iload 8, 2) := by decide +kernel
theorem dX5_areFour_91 : decode cX5_areFour 91 = .ok (.if_icmp .ne 7, 3) := by decide +kernel
theorem dX5_areFour_94 : decode cX5_areFour 94 = .ok (.iconst 1, 1) := by decide +kernel
theorem dX5_areFour_95 : decode cX5_areFour 95 = .ok (.goto 4, 3) := by decide +kernel
theorem dX5_areFour_98 : decode cX5_areFour 98 = .ok (.iconst 0, 1) := by decide +kernel
theorem dX5_areFour_99 : decode cX5_areFour 99 = .ok (.iadd, 1) := by decide +kernel
theorem dX5_areFour_100 : decode cX5_areFour 100 = .ok (.iconst 1, 1) := by decide +kernel
theorem dX5_areFour_101 : decode cX5_areFour 101 = .ok (.if_icmp .le 7, 3) := by decide +kernel
theorem dX5_areFour_104 : decode cX5_areFour 104 = .ok (.iconst 1, 1) := by decide +kernel
theorem dX5_areFour_105 : decode cX5_areFour 105 = .ok (.goto 4, 3) := by decide +kernel
theorem dX5_areFour_108 : decode cX5_areFour 108 = .ok (.iconst 0, 1) := by decide +kernel
theorem dX5_areFour_109 : decode cX5_areFour 109 = .ok (.ireturn, 1) := by decide +kernel
theorem dX5_brokenOf_0 : decode cX5_brokenOf 0 = .ok (.iconst 0, 1) := by decide +kernel
theorem dX5_brokenOf_1 : decode cX5_brokenOf 1 = .ok (.istore_n 2, 1) := by decide +kernel
theorem dX5_brokenOf_2 : decode cX5_brokenOf 2 = .ok (.iconst 0, 1) := by decide +kernel
theorem dX5_brokenOf_3 : decode cX5_brokenOf 3 = .ok (.istore_n 3, 1) := by decide +kernel
theorem dX5_brokenOf_4 : decode cX5_brokenOf 4 = .ok (.iload_n 3, 1) := by decide +kernel
theorem dX5_brokenOf_5 : decode cX5_brokenOf 5 = .ok (.aload_n 0, 1) := by decide +kernel
theorem dX5_brokenOf_6 : decode cX5_brokenOf 6 = .ok (.getfield 7, 3) := by decide +kernel
theorem dX5_brokenOf_9 : decode cX5_brokenOf 9 = .ok (.if_icmp .ge 197, 3) := by decide +kernel
theorem dX5_brokenOf_12 : decode cX5_brokenOf 12 = .ok (.iload_n 3, 1) := by decide +kernel
theorem dX5_brokenOf_13 : decode cX5_brokenOf 13 = .ok (.iconst 1, 1) := by decide +kernel
theorem dX5_brokenOf_14 : decode cX5_brokenOf 14 = .ok (.iadd, 1) := by decide +kernel
theorem dX5_brokenOf_15 : decode cX5_brokenOf 15 = .ok (.istore 4, 2) := by decide +kernel
theorem dX5_brokenOf_17 : decode cX5_brokenOf 17 = .ok (.iload 4, 2) := by decide +kernel
theorem dX5_brokenOf_19 : decode cX5_brokenOf 19 = .ok (.aload_n 0, 1) := by decide +kernel
theorem dX5_brokenOf_20 : decode cX5_brokenOf 20 = .ok (.getfield 7, 3) := by decide +kernel
theorem dX5_brokenOf_23 : decode cX5_brokenOf 23 = .ok (.if_icmp .ge 177, 3) := by decide +kernel
theorem dX5_brokenOf_26 : decode cX5_brokenOf 26 = .ok (.iconst 0, 1) := by decide +kernel
theorem dX5_brokenOf_27 : decode cX5_brokenOf 27 = .ok (.istore 5, 2) := by decide +kernel
theorem dX5_brokenOf_29 : decode cX5_brokenOf 29 = .ok (.iload 5, 2) := by decide +kernel
theorem dX5_brokenOf_31 : decode cX5_brokenOf 31 = .ok (.aload_n 0, 1) := by decide +kernel
theorem dX5_brokenOf_32 : decode cX5_brokenOf 32 = .ok (.getfield 7, 3) := by decide +kernel
theorem dX5_brokenOf_35 : decode cX5_brokenOf 35 = .ok (.if_icmp .ge 90, 3) := by decide +kernel
theorem dX5_brokenOf_38 : decode cX5_brokenOf 38 = .ok (.iload_n 1, 1) := by decide +kernel
theorem dX5_brokenOf_39 : decode cX5_brokenOf 39 = .ok (.iconst 2, 1) := by decide +kernel
theorem dX5_brokenOf_40 : decode cX5_brokenOf 40 = .ok (.if_icmp .ge 85, 3) := by decide +kernel
theorem dX5_brokenOf_43 : decode cX5_brokenOf 43 = .ok (.iload_n 1, 1) := by decide +kernel
theorem dX5_brokenOf_44 : decode cX5_brokenOf 44 = .ok (.ifCond .ne 22, 3) := by decide +kernel
theorem dX5_brokenOf_47 : decode cX5_brokenOf 47 = .ok (.aload_n 0, 1) := by decide +kernel
theorem dX5_brokenOf_48 : decode cX5_brokenOf 48 = .ok (.iload_n 3, 1) := by decide +kernel
theorem dX5_brokenOf_49 : decode cX5_brokenOf 49 = .ok (.iload 5, 2) := by decide +kernel
theorem dX5_brokenOf_51 : decode cX5_brokenOf 51 = .ok (.invokevirtual 44, 3) := by decide +kernel
theorem dX5_brokenOf_54 : decode cX5_brokenOf 54 = .ok (.aload_n 0, 1) := by decide +kernel
theorem dX5_brokenOf_55 : decode cX5_brokenOf 55 = .ok (.iload 5, 2) := by decide +kernel
theorem dX5_brokenOf_57 : decode cX5_brokenOf 57 = .ok (.iload 4, 2) := by decide +kernel
theorem dX5_brokenOf_59 : decode cX5_brokenOf 59 = .ok (.invokevirtual 44, 3) := by decide +kernel
theorem dX5_brokenOf_62 : decode cX5_brokenOf 62 = .ok (.iadd, 1) := by decide +kernel
theorem dX5_brokenOf_63 : decode cX5_brokenOf 63 = .ok (.goto 21, 3) := by decide +kernel
theorem dX5_brokenOf_66 : decode cX5_brokenOf 66 = .ok (.aload_n 0, 1) := by decide +kernel
theorem dX5_brokenOf_67 : decode cX5_brokenOf 67 = .ok (.iload_n 3, 1) := by decide +kernel
theorem dX5_brokenOf_68 : decode cX5_brokenOf 68 = .ok (.iload 5, 2) := by decide +kernel
theorem dX5_brokenOf_70 : decode cX5_brokenOf 70 = .ok (.invokevirtual 44, 3) := by decide +kernel
theorem dX5_brokenOf_73 : decode cX5_brokenOf 73 = .ok (.aload_n 0, 1) := by decide +kernel
theorem dX5_brokenOf_74 : decode cX5_brokenOf 74 = .ok (.iload 5, 2) := by decide +kernel
theorem dX5_brokenOf_76 : decode cX5_brokenOf 76 = .ok (.iload 4, 2) := by decide +kernel
theorem dX5_brokenOf_78 : decode cX5_brokenOf 78 = .ok (.invokevirtual 44, 3) := by decide +kernel
theorem dX5_brokenOf_81 : decode cX5_brokenOf 81 = .ok (.invokestatic 48, 3) := by decide +kernel
theorem dX5_brokenOf_84 : decode cX5_brokenOf 84 = .ok (.istore 6, 2) := by decide +kernel
theorem dX5_brokenOf_86 : decode cX5_brokenOf 86 = .ok (.iload_n 2, 1) := by decide +kernel
theorem dX5_brokenOf_87 : decode cX5_brokenOf 87 = .ok (.iload 5, 2) := by decide +kernel
theorem dX5_brokenOf_89 : decode cX5_brokenOf 89 = .ok (.iload_n 3, 1) := by decide +kernel
theorem dX5_brokenOf_90 : decode cX5_brokenOf 90 = .ok (.if_icmp .eq 26, 3) := by decide +kernel
theorem dX5_brokenOf_93 : decode cX5_brokenOf 93 = .ok (.iload 5, 2) := by decide +kernel
theorem dX5_brokenOf_95 : decode cX5_brokenOf 95 = .ok (.iload 4, 2) := by decide +kernel
theorem dX5_brokenOf_97 : decode cX5_brokenOf 97 = .ok (.if_icmp .eq 19, 3) := by decide +kernel
theorem dX5_brokenOf_100 : decode cX5_brokenOf 100 = .ok (.aload_n 0, 1) := by decide +kernel
theorem dX5_brokenOf_101 : decode cX5_brokenOf 101 = .ok (.iload_n 3, 1) := by decide +kernel
theorem dX5_brokenOf_102 : decode cX5_brokenOf 102 = .ok (.iload 4, 2) := by decide +kernel
theorem dX5_brokenOf_104 : decode cX5_brokenOf 104 = .ok (.invokevirtual 44, 3) := by decide +kernel
theorem dX5_brokenOf_107 : decode cX5_brokenOf 107 = .ok (.iload 6, 2) := by decide +kernel
theorem dX5_brokenOf_109 : decode cX5_brokenOf 109 = .ok (.if_icmp .le 7, 3) := by decide +kernel
theorem dX5_brokenOf_112 : decode cX5_brokenOf 112 = .ok (.iconst 1, 1) := by decide +kernel
theorem dX5_brokenOf_113 : decode cX5_brokenOf 113 = .ok (.goto 4, 3) := by decide +kernel
theorem dX5_brokenOf_116 : decode cX5_brokenOf 116 = .ok (.iconst 0, 1) := by decide +kernel
theorem dX5_brokenOf_117 : decode cX5_brokenOf 117 = .ok (.iadd, 1) := by decide +kernel
theorem dX5_brokenOf_118 : decode cX5_brokenOf 118 = .ok (.istore_n 2, 1) := by decide +kernel
theorem dX5_brokenOf_119 : decode cX5_brokenOf 119 = .ok (.iinc 5 1, 3) := by decide +kernel
theorem dX5_brokenOf_122 : decode cX5_brokenOf 122 = .ok (.goto (-93), 3) := by decide +kernel
theorem dX5_brokenOf_125 : decode cX5_brokenOf 125 = .ok (.iload 4, 2) := by decide +kernel
theorem dX5_brokenOf_127 : decode cX5_brokenOf 127 = .ok (.iconst 1, 1) := by decide +kernel
theorem dX5_brokenOf_128 : decode cX5_brokenOf 128 = .ok (.iadd, 1) := by decide +kernel
theorem dX5_brokenOf_129 : decode cX5_brokenOf 129 = .ok (.istore 5, 2) := by decide +kernel
theorem dX5_brokenOf_131 : decode cX5_brokenOf 131 = .ok (.iload 5, 2) := by decide +kernel
theorem dX5_brokenOf_133 : decode cX5_brokenOf 133 = .ok (.aload_n 0, 1) := by decide +kernel
theorem dX5_brokenOf_134 : decode cX5_brokenOf 134 = .ok (.getfield 7, 3) := by decide +kernel
theorem dX5_brokenOf_137 : decode cX5_brokenOf 137 = .ok (.if_icmp .ge 57, 3) := by decide +kernel
theorem dX5_brokenOf_140 : decode cX5_brokenOf 140 = .ok (.iload_n 1, 1) := by decide +kernel
theorem dX5_brokenOf_141 : decode cX5_brokenOf 141 = .ok (.iconst 2, 1) := by decide +kernel
theorem dX5_brokenOf_142 : decode cX5_brokenOf 142 = .ok (.if_icmp .ne 52, 3) := by decide +kernel
theorem dX5_brokenOf_145 : decode cX5_brokenOf 145 = .ok (.iload 5, 2) := by decide +kernel
theorem dX5_brokenOf_147 : decode cX5_brokenOf 147 = .ok (.iconst 1, 1) := by decide +kernel
theorem dX5_brokenOf_148 : decode cX5_brokenOf 148 = .ok (.iadd, 1) := by decide +kernel
theorem dX5_brokenOf_149 : decode cX5_brokenOf 149 = .ok (.istore 6, 2) := by decide +kernel
theorem dX5_brokenOf_151 : decode cX5_brokenOf 151 = .ok (.iload 6, 2) := by decide +kernel
theorem dX5_brokenOf_153 : decode cX5_brokenOf 153 = .ok (.aload_n 0, 1) := by decide +kernel
theorem dX5_brokenOf_154 : decode cX5_brokenOf 154 = .ok (.getfield 7, 3) := by decide +kernel
theorem dX5_brokenOf_157 : decode cX5_brokenOf 157 = .ok (.if_icmp .ge 31, 3) := by decide +kernel
theorem dX5_brokenOf_160 : decode cX5_brokenOf 160 = .ok (.iload_n 2, 1) := by decide +kernel
theorem dX5_brokenOf_161 : decode cX5_brokenOf 161 = .ok (.aload_n 0, 1) := by decide +kernel
theorem dX5_brokenOf_162 : decode cX5_brokenOf 162 = .ok (.iload_n 3, 1) := by decide +kernel
theorem dX5_brokenOf_163 : decode cX5_brokenOf 163 = .ok (.iload 4, 2) := by decide +kernel
theorem dX5_brokenOf_165 : decode cX5_brokenOf 165 = .ok (.iload 5, 2) := by decide +kernel
theorem dX5_brokenOf_167 : decode cX5_brokenOf 167 = .ok (.iload 6, 2) := by decide +kernel
theorem dX5_brokenOf_169 : decode cX5_brokenOf 169 = .ok (.invokevirtual 51, 3) := by decide +kernel
theorem dX5_brokenOf_172 : decode cX5_brokenOf 172 = .ok (.ifCond .eq 7, 3) := by decide +kernel
theorem dX5_brokenOf_175 : decode cX5_brokenOf 175 = .ok (.iconst 0, 1) := by decide +kernel
theorem dX5_brokenOf_176 : decode cX5_brokenOf 176 = .ok (.goto 4, 3) := by decide +kernel
theorem dX5_brokenOf_179 : decode cX5_brokenOf 179 = .ok (.iconst 1, 1) := by decide +kernel
theorem dX5_brokenOf_180 : decode cX5_brokenOf 180 = .ok (.iadd, 1) := by decide +kernel
theorem dX5_brokenOf_181 : decode cX5_brokenOf 181 = .ok (.istore_n 2, 1) := by decide +kernel
theorem dX5_brokenOf_182 : decode cX5_brokenOf 182 = .ok (.iinc 6 1, 3) := by decide +kernel
theorem dX5_brokenOf_185 : decode cX5_brokenOf 185 = .ok (.goto (-34), 3) := by decide +kernel
theorem dX5_brokenOf_188 : decode cX5_brokenOf 188 = .ok (.iinc 5 1, 3) := by decide +kernel
theorem dX5_brokenOf_191 : decode cX5_brokenOf 191 = .ok (.goto (-60), 3) := by decide +kernel
theorem dX5_brokenOf_194 : decode cX5_brokenOf 194 = .ok (.iinc 4 1, 3) := by decide +kernel
theorem dX5_brokenOf_197 : decode cX5_brokenOf 197 = .ok (.goto (-180), 3) := by decide +kernel
theorem dX5_brokenOf_200 : decode cX5_brokenOf 200 = .ok (.iinc 3 1, 3) := by decide +kernel
theorem dX5_brokenOf_203 : decode cX5_brokenOf 203 = .ok (.goto (-199), 3) := by decide +kernel
theorem dX5_brokenOf_206 : decode cX5_brokenOf 206 = .ok (.iload_n 2, 1) := by decide +kernel
theorem dX5_brokenOf_207 : decode cX5_brokenOf 207 = .ok (.ireturn, 1) := by decide +kernel
theorem dX5_is_0 : decode cX5_is 0 = .ok (.iload_n 1, 1) := by decide +kernel
theorem dX5_is_1 : decode cX5_is 1 = .ok (.iconst 0, 1) := by decide +kernel
theorem dX5_is_2 : decode cX5_is 2 = .ok (.iconst 2, 1) := by decide +kernel
theorem dX5_is_3 : decode cX5_is 3 = .ok (.invokestatic 36, 3) := by decide +kernel
theorem dX5_is_6 : decode cX5_is 6 = .ok (.ifCond .ne 6, 3) := by decide +kernel
theorem dX5_is_9 : decode cX5_is 9 = .ok (.bipush (-102), 2) := by decide +kernel
theorem dX5_is_11 : decode cX5_is 11 = .ok (.ireturn, 1) := by decide +kernel
theorem dX5_is_12 : decode cX5_is 12 = .ok (.aload_n 0, 1) := by decide +kernel
theorem dX5_is_13 : decode cX5_is 13 = .ok (.iload_n 1, 1) := by decide +kernel
theorem dX5_is_14 : decode cX5_is 14 = .ok (.invokevirtual 55, 3) := by decide +kernel
theorem dX5_is_17 : decode cX5_is 17 = .ok (.ifCond .ne 20, 3) := by decide +kernel
theorem dX5_is_20 : decode cX5_is 20 = .ok (.iload_n 1, 1) := by decide +kernel
theorem dX5_is_21 : decode cX5_is 21 = .ok (.iconst 2, 1) := by decide +kernel
theorem dX5_is_22 : decode cX5_is 22 = .ok (.if_icmp .lt 11, 3) := by decide +kernel
theorem dX5_is_25 : decode cX5_is 25 = .ok (.aload_n 0, 1) := by decide +kernel
theorem dX5_is_26 : decode cX5_is 26 = .ok (.iconst 0, 1) := by decide +kernel
theorem dX5_is_27 : decode cX5_is 27 = .ok (.invokevirtual 55, 3) := by decide +kernel
theorem dX5_is_30 : decode cX5_is 30 = .ok (.ifCond .ne 7, 3) := by decide +kernel
theorem dX5_is_33 : decode cX5_is 33 = .ok (.iconst 1, 1) := by decide +kernel
theorem dX5_is_34 : decode cX5_is 34 = .ok (.goto 4, 3) := by decide +kernel
theorem dX5_is_37 : decode cX5_is 37 = .ok (.iconst 0, 1) := by decide +kernel
theorem dX5_is_38 : decode cX5_is 38 = .ok (.ireturn, 1) := by decide +kernel
theorem dX5_broken_0 : decode cX5_broken 0 = .ok (.iload_n 1, 1) := by decide +kernel
theorem dX5_broken_1 : decode cX5_broken 1 = .ok (.iconst 0, 1) := by decide +kernel
theorem dX5_broken_2 : decode cX5_broken 2 = .ok (.iconst 2, 1) := by decide +kernel
theorem dX5_broken_3 : decode cX5_broken 3 = .ok (.invokestatic 36, 3) := by decide +kernel
theorem dX5_broken_6 : decode cX5_broken 6 = .ok (.ifCond .eq 11, 3) := by decide +kernel
theorem dX5_broken_9 : decode cX5_broken 9 = .ok (.aload_n 0, 1) := by decide +kernel
theorem dX5_broken_10 : decode cX5_broken 10 = .ok (.iload_n 1, 1) := by decide +kernel
theorem dX5_broken_11 : decode cX5_broken 11 = .ok (.invokevirtual 55, 3) := by decide +kernel
theorem dX5_broken_14 : decode cX5_broken 14 = .ok (.goto 5, 3) := by decide +kernel
theorem dX5_broken_17 : decode cX5_broken 17 = .ok (.bipush (-102), 2) := by decide +kernel
theorem dX5_broken_19 : decode cX5_broken 19 = .ok (.ireturn, 1) := by decide +kernel
theorem dX5_become_0 : decode cX5_become 0 = .ok (.iconst 0, 1) := by decide +kernel
theorem dX5_become_1 : decode cX5_become 1 = .ok (.istore_n 1, 1) := by decide +kernel
theorem dX5_become_2 : decode cX5_become 2 = .ok (.iconst 0, 1) := by decide +kernel
theorem dX5_become_3 : decode cX5_become 3 = .ok (.istore_n 2, 1) := by decide +kernel
theorem dX5_become_4 : decode cX5_become 4 = .ok (.iload_n 2, 1) := by decide +kernel
theorem dX5_become_5 : decode cX5_become 5 = .ok (.aload_n 0, 1) := by decide +kernel
theorem dX5_become_6 : decode cX5_become 6 = .ok (.getfield 7, 3) := by decide +kernel
theorem dX5_become_9 : decode cX5_become 9 = .ok (.if_icmp .ge 99, 3) := by decide +kernel
theorem dX5_become_12 : decode cX5_become 12 = .ok (.iload_n 2, 1) := by decide +kernel
theorem dX5_become_13 : decode cX5_become 13 = .ok (.iconst 1, 1) := by decide +kernel
theorem dX5_become_14 : decode cX5_become 14 = .ok (.iadd, 1) := by decide +kernel
theorem dX5_become_15 : decode cX5_become 15 = .ok (.istore_n 3, 1) := by decide +kernel
theorem dX5_become_16 : decode cX5_become 16 = .ok (.iload_n 3, 1) := by decide +kernel
theorem dX5_become_17 : decode cX5_become 17 = .ok (.aload_n 0, 1) := by decide +kernel
theorem dX5_become_18 : decode cX5_become 18 = .ok (.getfield 7, 3) := by decide +kernel
theorem dX5_become_21 : decode cX5_become 21 = .ok (.if_icmp .ge 81, 3) := by decide +kernel
theorem dX5_become_24 : decode cX5_become 24 = .ok (.iload_n 1, 1) := by decide +kernel
theorem dX5_become_25 : decode cX5_become 25 = .ok (.aload_n 0, 1) := by decide +kernel
theorem dX5_become_26 : decode cX5_become 26 = .ok (.getfield 17, 3) := by decide +kernel
theorem dX5_become_29 : decode cX5_become 29 = .ok (.bipush 6, 2) := by decide +kernel
theorem dX5_become_31 : decode cX5_become 31 = .ok (.iload_n 2, 1) := by decide +kernel
theorem dX5_become_32 : decode cX5_become 32 = .ok (.imul, 1) := by decide +kernel
theorem dX5_become_33 : decode cX5_become 33 = .ok (.iload_n 3, 1) := by decide +kernel
theorem dX5_become_34 : decode cX5_become 34 = .ok (.iadd, 1) := by decide +kernel
theorem dX5_become_35 : decode cX5_become 35 = .ok (.iaload, 1) := by decide +kernel
theorem dX5_become_36 : decode cX5_become 36 = .ok (.aload_n 0, 1) := by decide +kernel
theorem dX5_become_37 : decode cX5_become 37 = .ok (.iload_n 2, 1) := by decide +kernel
theorem dX5_become_38 : decode cX5_become 38 = .ok (.iload_n 3, 1) := by decide +kernel
theorem dX5_become_39 : decode cX5_become 39 = .ok (.invokevirtual 44, 3) := by decide +kernel
theorem dX5_become_42 : decode cX5_become 42 = .ok (.if_icmp .ne 7, 3) := by decide +kernel
theorem dX5_become_45 : decode cX5_become 45 = .ok (.iconst 0, 1) := by decide +kernel
theorem dX5_become_46 : decode cX5_become 46 = .ok (.goto 4, 3) := by decide +kernel
theorem dX5_become_49 : decode cX5_become 49 = .ok (.iconst 1, 1) := by decide +kernel
theorem dX5_become_50 : decode cX5_become 50 = .ok (.iadd, 1) := by decide +kernel
theorem dX5_become_51 : decode cX5_become 51 = .ok (.istore_n 1, 1) := by decide +kernel
theorem dX5_become_52 : decode cX5_become 52 = .ok (.aload_n 0, 1) := by decide +kernel
theorem dX5_become_53 : decode cX5_become 53 = .ok (.getfield 13, 3) := by decide +kernel
theorem dX5_become_56 : decode cX5_become 56 = .ok (.bipush 6, 2) := by decide +kernel
theorem dX5_become_58 : decode cX5_become 58 = .ok (.iload_n 2, 1) := by decide +kernel
theorem dX5_become_59 : decode cX5_become 59 = .ok (.imul, 1) := by decide +kernel
theorem dX5_become_60 : decode cX5_become 60 = .ok (.iload_n 3, 1) := by decide +kernel
theorem dX5_become_61 : decode cX5_become 61 = .ok (.iadd, 1) := by decide +kernel
theorem dX5_become_62 : decode cX5_become 62 = .ok (.aload_n 0, 1) := by decide +kernel
theorem dX5_become_63 : decode cX5_become 63 = .ok (.getfield 17, 3) := by decide +kernel
theorem dX5_become_66 : decode cX5_become 66 = .ok (.bipush 6, 2) := by decide +kernel
theorem dX5_become_68 : decode cX5_become 68 = .ok (.iload_n 2, 1) := by decide +kernel
theorem dX5_become_69 : decode cX5_become 69 = .ok (.imul, 1) := by decide +kernel
theorem dX5_become_70 : decode cX5_become 70 = .ok (.iload_n 3, 1) := by decide +kernel
theorem dX5_become_71 : decode cX5_become 71 = .ok (.iadd, 1) := by decide +kernel
theorem dX5_become_72 : decode cX5_become 72 = .ok (.iaload, 1) := by decide +kernel
theorem dX5_become_73 : decode cX5_become 73 = .ok (.iastore, 1) := by decide +kernel
theorem dX5_become_74 : decode cX5_become 74 = .ok (.aload_n 0, 1) := by decide +kernel
theorem dX5_become_75 : decode cX5_become 75 = .ok (.getfield 13, 3) := by decide +kernel
theorem dX5_become_78 : decode cX5_become 78 = .ok (.bipush 6, 2) := by decide +kernel
theorem dX5_become_80 : decode cX5_become 80 = .ok (.iload_n 3, 1) := by decide +kernel
theorem dX5_become_81 : decode cX5_become 81 = .ok (.imul, 1) := by decide +kernel
theorem dX5_become_82 : decode cX5_become 82 = .ok (.iload_n 2, 1) := by decide +kernel
theorem dX5_become_83 : decode cX5_become 83 = .ok (.iadd, 1) := by decide +kernel
theorem dX5_become_84 : decode cX5_become 84 = .ok (.aload_n 0, 1) := by decide +kernel
theorem dX5_become_85 : decode cX5_become 85 = .ok (.getfield 17, 3) := by decide +kernel
theorem dX5_become_88 : decode cX5_become 88 = .ok (.bipush 6, 2) := by decide +kernel
theorem dX5_become_90 : decode cX5_become 90 = .ok (.iload_n 2, 1) := by decide +kernel
theorem dX5_become_91 : decode cX5_become 91 = .ok (.imul, 1) := by decide +kernel
theorem dX5_become_92 : decode cX5_become 92 = .ok (.iload_n 3, 1) := by decide +kernel
theorem dX5_become_93 : decode cX5_become 93 = .ok (.iadd, 1) := by decide +kernel
theorem dX5_become_94 : decode cX5_become 94 = .ok (.iaload, 1) := by decide +kernel
theorem dX5_become_95 : decode cX5_become 95 = .ok (.iastore, 1) := by decide +kernel
theorem dX5_become_96 : decode cX5_become 96 = .ok (.iinc 3 1, 3) := by decide +kernel
theorem dX5_become_99 : decode cX5_become 99 = .ok (.goto (-83), 3) := by decide +kernel
theorem dX5_become_102 : decode cX5_become 102 = .ok (.iinc 2 1, 3) := by decide +kernel
theorem dX5_become_105 : decode cX5_become 105 = .ok (.goto (-101), 3) := by decide +kernel
theorem dX5_become_108 : decode cX5_become 108 = .ok (.iload_n 1, 1) := by decide +kernel
theorem dX5_become_109 : decode cX5_become 109 = .ok (.ireturn, 1) := by decide +kernel
theorem dX5_make_0 : decode cX5_make 0 = .ok (.iconst 0, 1) := by decide +kernel
theorem dX5_make_1 : decode cX5_make 1 = .ok (.istore_n 2, 1) := by decide +kernel
theorem dX5_make_2 : decode cX5_make 2 = .ok (.iload_n 2, 1) := by decide +kernel
theorem dX5_make_3 : decode cX5_make 3 = .ok (.bipush 36, 2) := by decide +kernel
theorem dX5_make_5 : decode cX5_make 5 = .ok (.if_icmp .ge 21, 3) := by decide +kernel
theorem dX5_make_8 : decode cX5_make 8 = .ok (.aload_n 0, 1) := by decide +kernel
theorem dX5_make_9 : decode cX5_make 9 = .ok (.getfield 17, 3) := by decide +kernel
theorem dX5_make_12 : decode cX5_make 12 = .ok (.iload_n 2, 1) := by decide +kernel
theorem dX5_make_13 : decode cX5_make 13 = .ok (.aload_n 0, 1) := by decide +kernel
theorem dX5_make_14 : decode cX5_make 14 = .ok (.getfield 13, 3) := by decide +kernel
theorem dX5_make_17 : decode cX5_make 17 = .ok (.iload_n 2, 1) := by decide +kernel
theorem dX5_make_18 : decode cX5_make 18 = .ok (.iaload, 1) := by decide +kernel
theorem dX5_make_19 : decode cX5_make 19 = .ok (.iastore, 1) := by decide +kernel
theorem dX5_make_20 : decode cX5_make 20 = .ok (.iinc 2 1, 3) := by decide +kernel
theorem dX5_make_23 : decode cX5_make 23 = .ok (.goto (-21), 3) := by decide +kernel
theorem dX5_make_26 : decode cX5_make 26 = .ok (.iconst 0, 1) := by decide +kernel
theorem dX5_make_27 : decode cX5_make 27 = .ok (.istore_n 2, 1) := by decide +kernel
theorem dX5_make_28 : decode cX5_make 28 = .ok (.iload_n 2, 1) := by decide +kernel
theorem dX5_make_29 : decode cX5_make 29 = .ok (.aload_n 0, 1) := by decide +kernel
theorem dX5_make_30 : decode cX5_make 30 = .ok (.getfield 7, 3) := by decide +kernel
theorem dX5_make_33 : decode cX5_make 33 = .ok (.if_icmp .ge 148, 3) := by decide +kernel
theorem dX5_make_36 : decode cX5_make 36 = .ok (.iconst 0, 1) := by decide +kernel
theorem dX5_make_37 : decode cX5_make 37 = .ok (.istore_n 3, 1) := by decide +kernel
theorem dX5_make_38 : decode cX5_make 38 = .ok (.iload_n 3, 1) := by decide +kernel
theorem dX5_make_39 : decode cX5_make 39 = .ok (.aload_n 0, 1) := by decide +kernel
theorem dX5_make_40 : decode cX5_make 40 = .ok (.getfield 7, 3) := by decide +kernel
theorem dX5_make_43 : decode cX5_make 43 = .ok (.if_icmp .ge 132, 3) := by decide +kernel
theorem dX5_make_46 : decode cX5_make 46 = .ok (.iconst 0, 1) := by decide +kernel
theorem dX5_make_47 : decode cX5_make 47 = .ok (.istore 4, 2) := by decide +kernel
theorem dX5_make_49 : decode cX5_make 49 = .ok (.iload 4, 2) := by decide +kernel
theorem dX5_make_51 : decode cX5_make 51 = .ok (.aload_n 0, 1) := by decide +kernel
theorem dX5_make_52 : decode cX5_make 52 = .ok (.getfield 7, 3) := by decide +kernel
theorem dX5_make_55 : decode cX5_make 55 = .ok (.if_icmp .ge 114, 3) := by decide +kernel
theorem dX5_make_58 : decode cX5_make 58 = .ok (.iload_n 1, 1) := by decide +kernel
theorem dX5_make_59 : decode cX5_make 59 = .ok (.ifCond .eq 30, 3) := by decide +kernel
theorem dX5_make_62 : decode cX5_make 62 = .ok (.aload_n 0, 1) := by decide +kernel
theorem dX5_make_63 : decode cX5_make 63 = .ok (.getfield 17, 3) := by decide +kernel
theorem dX5_make_66 : decode cX5_make 66 = .ok (.bipush 6, 2) := by decide +kernel
theorem dX5_make_68 : decode cX5_make 68 = .ok (.iload_n 3, 1) := by decide +kernel
theorem dX5_make_69 : decode cX5_make 69 = .ok (.imul, 1) := by decide +kernel
theorem dX5_make_70 : decode cX5_make 70 = .ok (.iload_n 2, 1) := by decide +kernel
theorem dX5_make_71 : decode cX5_make 71 = .ok (.iadd, 1) := by decide +kernel
theorem dX5_make_72 : decode cX5_make 72 = .ok (.iaload, 1) := by decide +kernel
theorem dX5_make_73 : decode cX5_make 73 = .ok (.aload_n 0, 1) := by decide +kernel
theorem dX5_make_74 : decode cX5_make 74 = .ok (.getfield 17, 3) := by decide +kernel
theorem dX5_make_77 : decode cX5_make 77 = .ok (.bipush 6, 2) := by decide +kernel
theorem dX5_make_79 : decode cX5_make 79 = .ok (.iload_n 2, 1) := by decide +kernel
theorem dX5_make_80 : decode cX5_make 80 = .ok (.imul, 1) := by decide +kernel
theorem dX5_make_81 : decode cX5_make 81 = .ok (.iload 4, 2) := by decide +kernel
theorem dX5_make_83 : decode cX5_make 83 = .ok (.iadd, 1) := by decide +kernel
theorem dX5_make_84 : decode cX5_make 84 = .ok (.iaload, 1) := by decide +kernel
theorem dX5_make_85 : decode cX5_make 85 = .ok (.iadd, 1) := by decide +kernel
theorem dX5_make_86 : decode cX5_make 86 = .ok (.goto 29, 3) := by decide +kernel
theorem dX5_make_89 : decode cX5_make 89 = .ok (.aload_n 0, 1) := by decide +kernel
theorem dX5_make_90 : decode cX5_make 90 = .ok (.getfield 17, 3) := by decide +kernel
theorem dX5_make_93 : decode cX5_make 93 = .ok (.bipush 6, 2) := by decide +kernel
theorem dX5_make_95 : decode cX5_make 95 = .ok (.iload_n 3, 1) := by decide +kernel
theorem dX5_make_96 : decode cX5_make 96 = .ok (.imul, 1) := by decide +kernel
theorem dX5_make_97 : decode cX5_make 97 = .ok (.iload_n 2, 1) := by decide +kernel
theorem dX5_make_98 : decode cX5_make 98 = .ok (.iadd, 1) := by decide +kernel
theorem dX5_make_99 : decode cX5_make 99 = .ok (.iaload, 1) := by decide +kernel
theorem dX5_make_100 : decode cX5_make 100 = .ok (.aload_n 0, 1) := by decide +kernel
theorem dX5_make_101 : decode cX5_make 101 = .ok (.getfield 17, 3) := by decide +kernel
theorem dX5_make_104 : decode cX5_make 104 = .ok (.bipush 6, 2) := by decide +kernel
theorem dX5_make_106 : decode cX5_make 106 = .ok (.iload_n 2, 1) := by decide +kernel
theorem dX5_make_107 : decode cX5_make 107 = .ok (.imul, 1) := by decide +kernel
theorem dX5_make_108 : decode cX5_make 108 = .ok (.iload 4, 2) := by decide +kernel
theorem dX5_make_110 : decode cX5_make 110 = .ok (.iadd, 1) := by decide +kernel
theorem dX5_make_111 : decode cX5_make 111 = .ok (.iaload, 1) := by decide +kernel
theorem dX5_make_112 : decode cX5_make 112 = .ok (.invokestatic 48, 3) := by decide +kernel
theorem dX5_make_115 : decode cX5_make 115 = .ok (.istore 5, 2) := by decide +kernel
theorem dX5_make_117 : decode cX5_make 117 = .ok (.aload_n 0, 1) := by decide +kernel
theorem dX5_make_118 : decode cX5_make 118 = .ok (.getfield 17, 3) := by decide +kernel
theorem dX5_make_121 : decode cX5_make 121 = .ok (.bipush 6, 2) := by decide +kernel
theorem dX5_make_123 : decode cX5_make 123 = .ok (.iload_n 3, 1) := by decide +kernel
theorem dX5_make_124 : decode cX5_make 124 = .ok (.imul, 1) := by decide +kernel
theorem dX5_make_125 : decode cX5_make 125 = .ok (.iload 4, 2) := by decide +kernel
theorem dX5_make_127 : decode cX5_make 127 = .ok (.iadd, 1) := by decide +kernel
theorem dX5_make_128 : decode cX5_make 128 = .ok (.iload 5, 2) := by decide +kernel
theorem dX5_make_130 : decode cX5_make 130 = .ok (.aload_n 0, 1) := by decide +kernel
theorem dX5_make_131 : decode cX5_make 131 = .ok (.getfield 17, 3) := by decide +kernel
theorem dX5_make_134 : decode cX5_make 134 = .ok (.bipush 6, 2) := by decide +kernel
theorem dX5_make_136 : decode cX5_make 136 = .ok (.iload_n 3, 1) := by decide +kernel
theorem dX5_make_137 : decode cX5_make 137 = .ok (.imul, 1) := by decide +kernel
theorem dX5_make_138 : decode cX5_make 138 = .ok (.iload 4, 2) := by decide +kernel
theorem dX5_make_140 : decode cX5_make 140 = .ok (.iadd, 1) := by decide +kernel
theorem dX5_make_141 : decode cX5_make 141 = .ok (.iaload, 1) := by decide +kernel
theorem dX5_make_142 : decode cX5_make 142 = .ok (.if_icmp .ge 8, 3) := by decide +kernel
theorem dX5_make_145 : decode cX5_make 145 = .ok (.iload 5, 2) := by decide +kernel
theorem dX5_make_147 : decode cX5_make 147 = .ok (.goto 15, 3) := by decide +kernel
theorem dX5_make_150 : decode cX5_make 150 = .ok (.aload_n 0, 1) := by decide +kernel
theorem dX5_make_151 : decode cX5_make 151 = .ok (.getfield 17, 3) := by decide +kernel
theorem dX5_make_154 : decode cX5_make 154 = .ok (.bipush 6, 2) := by decide +kernel
theorem dX5_make_156 : decode cX5_make 156 = .ok (.iload_n 3, 1) := by decide +kernel
theorem dX5_make_157 : decode cX5_make 157 = .ok (.imul, 1) := by decide +kernel
theorem dX5_make_158 : decode cX5_make 158 = .ok (.iload 4, 2) := by decide +kernel
theorem dX5_make_160 : decode cX5_make 160 = .ok (.iadd, 1) := by decide +kernel
theorem dX5_make_161 : decode cX5_make 161 = .ok (.iaload, 1) := by decide +kernel
theorem dX5_make_162 : decode cX5_make 162 = .ok (.iastore, 1) := by decide +kernel
theorem dX5_make_163 : decode cX5_make 163 = .ok (.iinc 4 1, 3) := by decide +kernel
theorem dX5_make_166 : decode cX5_make 166 = .ok (.goto (-117), 3) := by decide +kernel
theorem dX5_make_169 : decode cX5_make 169 = .ok (.iinc 3 1, 3) := by decide +kernel
theorem dX5_make_172 : decode cX5_make 172 = .ok (.goto (-134), 3) := by decide +kernel
theorem dX5_make_175 : decode cX5_make 175 = .ok (.iinc 2 1, 3) := by decide +kernel
theorem dX5_make_178 : decode cX5_make 178 = .ok (.goto (-150), 3) := by decide +kernel
theorem dX5_make_181 : decode cX5_make 181 = .ok (.return_, 1) := by decide +kernel
theorem dX5_mend_0 : decode cX5_mend 0 = .ok (.aload_n 0, 1) := by decide +kernel
theorem dX5_mend_1 : decode cX5_mend 1 = .ok (.iconst 1, 1) := by decide +kernel
theorem dX5_mend_2 : decode cX5_mend 2 = .ok (.invokevirtual 59, 3) := by decide +kernel
theorem dX5_mend_5 : decode cX5_mend 5 = .ok (.aload_n 0, 1) := by decide +kernel
theorem dX5_mend_6 : decode cX5_mend 6 = .ok (.invokevirtual 63, 3) := by decide +kernel
theorem dX5_mend_9 : decode cX5_mend 9 = .ok (.ireturn, 1) := by decide +kernel
theorem dX5_low_0 : decode cX5_low 0 = .ok (.aload_n 0, 1) := by decide +kernel
theorem dX5_low_1 : decode cX5_low 1 = .ok (.iload_n 1, 1) := by decide +kernel
theorem dX5_low_2 : decode cX5_low 2 = .ok (.invokevirtual 40, 3) := by decide +kernel
theorem dX5_low_5 : decode cX5_low 5 = .ok (.ifCond .eq 11, 3) := by decide +kernel
theorem dX5_low_8 : decode cX5_low 8 = .ok (.aload_n 0, 1) := by decide +kernel
theorem dX5_low_9 : decode cX5_low 9 = .ok (.iload_n 2, 1) := by decide +kernel
theorem dX5_low_10 : decode cX5_low 10 = .ok (.invokevirtual 40, 3) := by decide +kernel
theorem dX5_low_13 : decode cX5_low 13 = .ok (.ifCond .ne 6, 3) := by decide +kernel
theorem dX5_low_16 : decode cX5_low 16 = .ok (.bipush (-101), 2) := by decide +kernel
theorem dX5_low_18 : decode cX5_low 18 = .ok (.ireturn, 1) := by decide +kernel
theorem dX5_low_19 : decode cX5_low 19 = .ok (.aload_n 0, 1) := by decide +kernel
theorem dX5_low_20 : decode cX5_low 20 = .ok (.iconst 0, 1) := by decide +kernel
theorem dX5_low_21 : decode cX5_low 21 = .ok (.invokevirtual 59, 3) := by decide +kernel
theorem dX5_low_24 : decode cX5_low 24 = .ok (.aload_n 0, 1) := by decide +kernel
theorem dX5_low_25 : decode cX5_low 25 = .ok (.getfield 17, 3) := by decide +kernel
theorem dX5_low_28 : decode cX5_low 28 = .ok (.bipush 6, 2) := by decide +kernel
theorem dX5_low_30 : decode cX5_low 30 = .ok (.iload_n 1, 1) := by decide +kernel
theorem dX5_low_31 : decode cX5_low 31 = .ok (.imul, 1) := by decide +kernel
theorem dX5_low_32 : decode cX5_low 32 = .ok (.iload_n 2, 1) := by decide +kernel
theorem dX5_low_33 : decode cX5_low 33 = .ok (.iadd, 1) := by decide +kernel
theorem dX5_low_34 : decode cX5_low 34 = .ok (.iaload, 1) := by decide +kernel
theorem dX5_low_35 : decode cX5_low 35 = .ok (.ireturn, 1) := by decide +kernel
theorem dX5_gap_0 : decode cX5_gap 0 = .ok (.aload_n 0, 1) := by decide +kernel
theorem dX5_gap_1 : decode cX5_gap 1 = .ok (.iconst 0, 1) := by decide +kernel
theorem dX5_gap_2 : decode cX5_gap 2 = .ok (.invokevirtual 59, 3) := by decide +kernel
theorem dX5_gap_5 : decode cX5_gap 5 = .ok (.iconst 0, 1) := by decide +kernel
theorem dX5_gap_6 : decode cX5_gap 6 = .ok (.istore_n 1, 1) := by decide +kernel
theorem dX5_gap_7 : decode cX5_gap 7 = .ok (.iconst 0, 1) := by decide +kernel
theorem dX5_gap_8 : decode cX5_gap 8 = .ok (.istore_n 2, 1) := by decide +kernel
theorem dX5_gap_9 : decode cX5_gap 9 = .ok (.iload_n 2, 1) := by decide +kernel
theorem dX5_gap_10 : decode cX5_gap 10 = .ok (.aload_n 0, 1) := by decide +kernel
theorem dX5_gap_11 : decode cX5_gap 11 = .ok (.getfield 7, 3) := by decide +kernel
theorem dX5_gap_14 : decode cX5_gap 14 = .ok (.if_icmp .ge 48, 3) := by decide +kernel
theorem dX5_gap_17 : decode cX5_gap 17 = .ok (.iconst 0, 1) := by decide +kernel
theorem dX5_gap_18 : decode cX5_gap 18 = .ok (.istore_n 3, 1) := by decide +kernel
theorem dX5_gap_19 : decode cX5_gap 19 = .ok (.iload_n 3, 1) := by decide +kernel
theorem dX5_gap_20 : decode cX5_gap 20 = .ok (.aload_n 0, 1) := by decide +kernel
theorem dX5_gap_21 : decode cX5_gap 21 = .ok (.getfield 7, 3) := by decide +kernel
theorem dX5_gap_24 : decode cX5_gap 24 = .ok (.if_icmp .ge 32, 3) := by decide +kernel
theorem dX5_gap_27 : decode cX5_gap 27 = .ok (.iload_n 1, 1) := by decide +kernel
theorem dX5_gap_28 : decode cX5_gap 28 = .ok (.aload_n 0, 1) := by decide +kernel
theorem dX5_gap_29 : decode cX5_gap 29 = .ok (.iload_n 2, 1) := by decide +kernel
theorem dX5_gap_30 : decode cX5_gap 30 = .ok (.iload_n 3, 1) := by decide +kernel
theorem dX5_gap_31 : decode cX5_gap 31 = .ok (.invokevirtual 44, 3) := by decide +kernel
theorem dX5_gap_34 : decode cX5_gap 34 = .ok (.aload_n 0, 1) := by decide +kernel
theorem dX5_gap_35 : decode cX5_gap 35 = .ok (.getfield 17, 3) := by decide +kernel
theorem dX5_gap_38 : decode cX5_gap 38 = .ok (.bipush 6, 2) := by decide +kernel
theorem dX5_gap_40 : decode cX5_gap 40 = .ok (.iload_n 2, 1) := by decide +kernel
theorem dX5_gap_41 : decode cX5_gap 41 = .ok (.imul, 1) := by decide +kernel
theorem dX5_gap_42 : decode cX5_gap 42 = .ok (.iload_n 3, 1) := by decide +kernel
theorem dX5_gap_43 : decode cX5_gap 43 = .ok (.iadd, 1) := by decide +kernel
theorem dX5_gap_44 : decode cX5_gap 44 = .ok (.iaload, 1) := by decide +kernel
theorem dX5_gap_45 : decode cX5_gap 45 = .ok (.isub, 1) := by decide +kernel
theorem dX5_gap_46 : decode cX5_gap 46 = .ok (.invokestatic 48, 3) := by decide +kernel
theorem dX5_gap_49 : decode cX5_gap 49 = .ok (.istore_n 1, 1) := by decide +kernel
theorem dX5_gap_50 : decode cX5_gap 50 = .ok (.iinc 3 1, 3) := by decide +kernel
theorem dX5_gap_53 : decode cX5_gap 53 = .ok (.goto (-34), 3) := by decide +kernel
theorem dX5_gap_56 : decode cX5_gap 56 = .ok (.iinc 2 1, 3) := by decide +kernel
theorem dX5_gap_59 : decode cX5_gap 59 = .ok (.goto (-50), 3) := by decide +kernel
theorem dX5_gap_62 : decode cX5_gap 62 = .ok (.iload_n 1, 1) := by decide +kernel
theorem dX5_gap_63 : decode cX5_gap 63 = .ok (.ireturn, 1) := by decide +kernel
theorem dX5_groups_0 : decode cX5_groups 0 = .ok (.iload_n 1, 1) := by decide +kernel
theorem dX5_groups_1 : decode cX5_groups 1 = .ok (.iconst 0, 1) := by decide +kernel
theorem dX5_groups_2 : decode cX5_groups 2 = .ok (.sipush 1000, 3) := by decide +kernel
theorem dX5_groups_5 : decode cX5_groups 5 = .ok (.invokestatic 36, 3) := by decide +kernel
theorem dX5_groups_8 : decode cX5_groups 8 = .ok (.ifCond .ne 6, 3) := by decide +kernel
theorem dX5_groups_11 : decode cX5_groups 11 = .ok (.bipush (-102), 2) := by decide +kernel
theorem dX5_groups_13 : decode cX5_groups 13 = .ok (.ireturn, 1) := by decide +kernel
theorem dX5_groups_14 : decode cX5_groups 14 = .ok (.aload_n 0, 1) := by decide +kernel
theorem dX5_groups_15 : decode cX5_groups 15 = .ok (.iconst 0, 1) := by decide +kernel
theorem dX5_groups_16 : decode cX5_groups 16 = .ok (.invokevirtual 59, 3) := by decide +kernel
theorem dX5_groups_19 : decode cX5_groups 19 = .ok (.iconst 0, 1) := by decide +kernel
theorem dX5_groups_20 : decode cX5_groups 20 = .ok (.istore_n 2, 1) := by decide +kernel
theorem dX5_groups_21 : decode cX5_groups 21 = .ok (.iconst 0, 1) := by decide +kernel
theorem dX5_groups_22 : decode cX5_groups 22 = .ok (.istore_n 3, 1) := by decide +kernel
theorem dX5_groups_23 : decode cX5_groups 23 = .ok (.iload_n 3, 1) := by decide +kernel
theorem dX5_groups_24 : decode cX5_groups 24 = .ok (.aload_n 0, 1) := by decide +kernel
theorem dX5_groups_25 : decode cX5_groups 25 = .ok (.getfield 7, 3) := by decide +kernel
theorem dX5_groups_28 : decode cX5_groups 28 = .ok (.if_icmp .ge 68, 3) := by decide +kernel
theorem dX5_groups_31 : decode cX5_groups 31 = .ok (.iconst 1, 1) := by decide +kernel
theorem dX5_groups_32 : decode cX5_groups 32 = .ok (.istore 4, 2) := by decide +kernel
theorem dX5_groups_34 : decode cX5_groups 34 = .ok (.iconst 0, 1) := by decide +kernel
theorem dX5_groups_35 : decode cX5_groups 35 = .ok (.istore 5, 2) := by decide +kernel
theorem dX5_groups_37 : decode cX5_groups 37 = .ok (.iload 5, 2) := by decide +kernel
theorem dX5_groups_39 : decode cX5_groups 39 = .ok (.iload_n 3, 1) := by decide +kernel
theorem dX5_groups_40 : decode cX5_groups 40 = .ok (.if_icmp .ge 37, 3) := by decide +kernel
theorem dX5_groups_43 : decode cX5_groups 43 = .ok (.iload 4, 2) := by decide +kernel
theorem dX5_groups_45 : decode cX5_groups 45 = .ok (.ifCond .eq 23, 3) := by decide +kernel
theorem dX5_groups_48 : decode cX5_groups 48 = .ok (.aload_n 0, 1) := by decide +kernel
theorem dX5_groups_49 : decode cX5_groups 49 = .ok (.getfield 17, 3) := by decide +kernel
theorem dX5_groups_52 : decode cX5_groups 52 = .ok (.bipush 6, 2) := by decide +kernel
theorem dX5_groups_54 : decode cX5_groups 54 = .ok (.iload_n 3, 1) := by decide +kernel
theorem dX5_groups_55 : decode cX5_groups 55 = .ok (.imul, 1) := by decide +kernel
theorem dX5_groups_56 : decode cX5_groups 56 = .ok (.iload 5, 2) := by decide +kernel
theorem dX5_groups_58 : decode cX5_groups 58 = .ok (.iadd, 1) := by decide +kernel
theorem dX5_groups_59 : decode cX5_groups 59 = .ok (.iaload, 1) := by decide +kernel
theorem dX5_groups_60 : decode cX5_groups 60 = .ok (.iload_n 1, 1) := by decide +kernel
theorem dX5_groups_61 : decode cX5_groups 61 = .ok (.if_icmp .le 7, 3) := by decide +kernel
theorem dX5_groups_64 : decode cX5_groups 64 = .ok (.iconst 1, 1) := by decide +kernel
theorem dX5_groups_65 : decode cX5_groups 65 = .ok (.goto 4, 3) := by decide +kernel
theorem dX5_groups_68 : decode cX5_groups 68 = .ok (.iconst 0, 1) := by decide +kernel
theorem dX5_groups_69 : decode cX5_groups 69 = .ok (.istore 4, 2) := by decide +kernel
theorem dX5_groups_71 : decode cX5_groups 71 = .ok (.iinc 5 1, 3) := by decide +kernel
theorem dX5_groups_74 : decode cX5_groups 74 = .ok (.goto (-37), 3) := by decide +kernel
theorem dX5_groups_77 : decode cX5_groups 77 = .ok (.iload_n 2, 1) := by decide +kernel
theorem dX5_groups_78 : decode cX5_groups 78 = .ok (.iload 4, 2) := by decide +kernel
theorem dX5_groups_80 : decode cX5_groups 80 = .ok (.ifCond .eq 7, 3) := by decide +kernel
theorem dX5_groups_83 : decode cX5_groups 83 = .ok (.iconst 1, 1) := by decide +kernel
theorem dX5_groups_84 : decode cX5_groups 84 = .ok (.goto 4, 3) := by decide +kernel
theorem dX5_groups_87 : decode cX5_groups 87 = .ok (.iconst 0, 1) := by decide +kernel
theorem dX5_groups_88 : decode cX5_groups 88 = .ok (.iadd, 1) := by decide +kernel
theorem dX5_groups_89 : decode cX5_groups 89 = .ok (.istore_n 2, 1) := by decide +kernel
theorem dX5_groups_90 : decode cX5_groups 90 = .ok (.iinc 3 1, 3) := by decide +kernel
theorem dX5_groups_93 : decode cX5_groups 93 = .ok (.goto (-70), 3) := by decide +kernel
theorem dX5_groups_96 : decode cX5_groups 96 = .ok (.iload_n 2, 1) := by decide +kernel
theorem dX5_groups_97 : decode cX5_groups 97 = .ok (.ireturn, 1) := by decide +kernel
theorem dX5_lower_0 : decode cX5_lower 0 = .ok (.aload_n 0, 1) := by decide +kernel
theorem dX5_lower_1 : decode cX5_lower 1 = .ok (.iconst 0, 1) := by decide +kernel
theorem dX5_lower_2 : decode cX5_lower 2 = .ok (.invokevirtual 59, 3) := by decide +kernel
theorem dX5_lower_5 : decode cX5_lower 5 = .ok (.aload_n 0, 1) := by decide +kernel
theorem dX5_lower_6 : decode cX5_lower 6 = .ok (.invokevirtual 63, 3) := by decide +kernel
theorem dX5_lower_9 : decode cX5_lower 9 = .ok (.ireturn, 1) := by decide +kernel
theorem dX5_codeMany_0 : decode cX5_codeMany 0 = .ok (.iconst 1, 1) := by decide +kernel
theorem dX5_codeMany_1 : decode cX5_codeMany 1 = .ok (.istore_n 1, 1) := by decide +kernel
theorem dX5_codeMany_2 : decode cX5_codeMany 2 = .ok (.iconst 2, 1) := by decide +kernel
theorem dX5_codeMany_3 : decode cX5_codeMany 3 = .ok (.istore_n 2, 1) := by decide +kernel
theorem dX5_codeMany_4 : decode cX5_codeMany 4 = .ok (.iload_n 2, 1) := by decide +kernel
theorem dX5_codeMany_5 : decode cX5_codeMany 5 = .ok (.aload_n 0, 1) := by decide +kernel
theorem dX5_codeMany_6 : decode cX5_codeMany 6 = .ok (.getfield 7, 3) := by decide +kernel
theorem dX5_codeMany_9 : decode cX5_codeMany 9 = .ok (.if_icmp .ge 16, 3) := by decide +kernel
theorem dX5_codeMany_12 : decode cX5_codeMany 12 = .ok (.iload_n 1, 1) := by decide +kernel
theorem dX5_codeMany_13 : decode cX5_codeMany 13 = .ok (.aload_n 0, 1) := by decide +kernel
theorem dX5_codeMany_14 : decode cX5_codeMany 14 = .ok (.getfield 7, 3) := by decide +kernel
theorem dX5_codeMany_17 : decode cX5_codeMany 17 = .ok (.imul, 1) := by decide +kernel
theorem dX5_codeMany_18 : decode cX5_codeMany 18 = .ok (.istore_n 1, 1) := by decide +kernel
theorem dX5_codeMany_19 : decode cX5_codeMany 19 = .ok (.iinc 2 1, 3) := by decide +kernel
theorem dX5_codeMany_22 : decode cX5_codeMany 22 = .ok (.goto (-18), 3) := by decide +kernel
theorem dX5_codeMany_25 : decode cX5_codeMany 25 = .ok (.iload_n 1, 1) := by decide +kernel
theorem dX5_codeMany_26 : decode cX5_codeMany 26 = .ok (.ireturn, 1) := by decide +kernel
theorem dX5_codes_0 : decode cX5_codes 0 = .ok (.aload_n 0, 1) := by decide +kernel
theorem dX5_codes_1 : decode cX5_codes 1 = .ok (.invokevirtual 67, 3) := by decide +kernel
theorem dX5_codes_4 : decode cX5_codes 4 = .ok (.ireturn, 1) := by decide +kernel
theorem dX5_isCode_0 : decode cX5_isCode 0 = .ok (.iload_n 1, 1) := by decide +kernel
theorem dX5_isCode_1 : decode cX5_isCode 1 = .ok (.iconst 0, 1) := by decide +kernel
theorem dX5_isCode_2 : decode cX5_isCode 2 = .ok (.aload_n 0, 1) := by decide +kernel
theorem dX5_isCode_3 : decode cX5_isCode 3 = .ok (.invokevirtual 67, 3) := by decide +kernel
theorem dX5_isCode_6 : decode cX5_isCode 6 = .ok (.iconst 1, 1) := by decide +kernel
theorem dX5_isCode_7 : decode cX5_isCode 7 = .ok (.isub, 1) := by decide +kernel
theorem dX5_isCode_8 : decode cX5_isCode 8 = .ok (.invokestatic 36, 3) := by decide +kernel
theorem dX5_isCode_11 : decode cX5_isCode 11 = .ok (.ireturn, 1) := by decide +kernel
theorem dX5_join_0 : decode cX5_join 0 = .ok (.aload_n 0, 1) := by decide +kernel
theorem dX5_join_1 : decode cX5_join 1 = .ok (.getfield 20, 3) := by decide +kernel
theorem dX5_join_4 : decode cX5_join 4 = .ok (.bipush 6, 2) := by decide +kernel
theorem dX5_join_6 : decode cX5_join 6 = .ok (.iload_n 1, 1) := by decide +kernel
theorem dX5_join_7 : decode cX5_join 7 = .ok (.imul, 1) := by decide +kernel
theorem dX5_join_8 : decode cX5_join 8 = .ok (.iload_n 2, 1) := by decide +kernel
theorem dX5_join_9 : decode cX5_join 9 = .ok (.iadd, 1) := by decide +kernel
theorem dX5_join_10 : decode cX5_join 10 = .ok (.iconst 1, 1) := by decide +kernel
theorem dX5_join_11 : decode cX5_join 11 = .ok (.bastore, 1) := by decide +kernel
theorem dX5_join_12 : decode cX5_join 12 = .ok (.aload_n 0, 1) := by decide +kernel
theorem dX5_join_13 : decode cX5_join 13 = .ok (.getfield 20, 3) := by decide +kernel
theorem dX5_join_16 : decode cX5_join 16 = .ok (.bipush 6, 2) := by decide +kernel
theorem dX5_join_18 : decode cX5_join 18 = .ok (.iload_n 2, 1) := by decide +kernel
theorem dX5_join_19 : decode cX5_join 19 = .ok (.imul, 1) := by decide +kernel
theorem dX5_join_20 : decode cX5_join 20 = .ok (.iload_n 1, 1) := by decide +kernel
theorem dX5_join_21 : decode cX5_join 21 = .ok (.iadd, 1) := by decide +kernel
theorem dX5_join_22 : decode cX5_join 22 = .ok (.iconst 1, 1) := by decide +kernel
theorem dX5_join_23 : decode cX5_join 23 = .ok (.bastore, 1) := by decide +kernel
theorem dX5_join_24 : decode cX5_join 24 = .ok (.aload_n 0, 1) := by decide +kernel
theorem dX5_join_25 : decode cX5_join 25 = .ok (.getfield 24, 3) := by decide +kernel
theorem dX5_join_28 : decode cX5_join 28 = .ok (.iload_n 1, 1) := by decide +kernel
theorem dX5_join_29 : decode cX5_join 29 = .ok (.dup2, 1) := by decide +kernel
theorem dX5_join_30 : decode cX5_join 30 = .ok (.iaload, 1) := by decide +kernel
theorem dX5_join_31 : decode cX5_join 31 = .ok (.iconst 1, 1) := by decide +kernel
theorem dX5_join_32 : decode cX5_join 32 = .ok (.isub, 1) := by decide +kernel
theorem dX5_join_33 : decode cX5_join 33 = .ok (.iastore, 1) := by decide +kernel
theorem dX5_join_34 : decode cX5_join 34 = .ok (.aload_n 0, 1) := by decide +kernel
theorem dX5_join_35 : decode cX5_join 35 = .ok (.getfield 24, 3) := by decide +kernel
theorem dX5_join_38 : decode cX5_join 38 = .ok (.iload_n 2, 1) := by decide +kernel
theorem dX5_join_39 : decode cX5_join 39 = .ok (.dup2, 1) := by decide +kernel
theorem dX5_join_40 : decode cX5_join 40 = .ok (.iaload, 1) := by decide +kernel
theorem dX5_join_41 : decode cX5_join 41 = .ok (.iconst 1, 1) := by decide +kernel
theorem dX5_join_42 : decode cX5_join 42 = .ok (.isub, 1) := by decide +kernel
theorem dX5_join_43 : decode cX5_join 43 = .ok (.iastore, 1) := by decide +kernel
theorem dX5_join_44 : decode cX5_join 44 = .ok (.return_, 1) := by decide +kernel
theorem dX5_leaf_0 : decode cX5_leaf 0 = .ok (.iconst 0, 1) := by decide +kernel
theorem dX5_leaf_1 : decode cX5_leaf 1 = .ok (.istore_n 1, 1) := by decide +kernel
theorem dX5_leaf_2 : decode cX5_leaf 2 = .ok (.aload_n 0, 1) := by decide +kernel
theorem dX5_leaf_3 : decode cX5_leaf 3 = .ok (.getfield 24, 3) := by decide +kernel
theorem dX5_leaf_6 : decode cX5_leaf 6 = .ok (.iload_n 1, 1) := by decide +kernel
theorem dX5_leaf_7 : decode cX5_leaf 7 = .ok (.iaload, 1) := by decide +kernel
theorem dX5_leaf_8 : decode cX5_leaf 8 = .ok (.iconst 1, 1) := by decide +kernel
theorem dX5_leaf_9 : decode cX5_leaf 9 = .ok (.if_icmp .eq 9, 3) := by decide +kernel
theorem dX5_leaf_12 : decode cX5_leaf 12 = .ok (.iinc 1 1, 3) := by decide +kernel
theorem dX5_leaf_15 : decode cX5_leaf 15 = .ok (.goto (-13), 3) := by decide +kernel
theorem dX5_leaf_18 : decode cX5_leaf 18 = .ok (.iload_n 1, 1) := by decide +kernel
theorem dX5_leaf_19 : decode cX5_leaf 19 = .ok (.ireturn, 1) := by decide +kernel
theorem dX5_lay_0 : decode cX5_lay 0 = .ok (.iconst 0, 1) := by decide +kernel
theorem dX5_lay_1 : decode cX5_lay 1 = .ok (.istore_n 2, 1) := by decide +kernel
theorem dX5_lay_2 : decode cX5_lay 2 = .ok (.iload_n 2, 1) := by decide +kernel
theorem dX5_lay_3 : decode cX5_lay 3 = .ok (.bipush 36, 2) := by decide +kernel
theorem dX5_lay_5 : decode cX5_lay 5 = .ok (.if_icmp .ge 16, 3) := by decide +kernel
theorem dX5_lay_8 : decode cX5_lay 8 = .ok (.aload_n 0, 1) := by decide +kernel
theorem dX5_lay_9 : decode cX5_lay 9 = .ok (.getfield 20, 3) := by decide +kernel
theorem dX5_lay_12 : decode cX5_lay 12 = .ok (.iload_n 2, 1) := by decide +kernel
theorem dX5_lay_13 : decode cX5_lay 13 = .ok (.iconst 0, 1) := by decide +kernel
theorem dX5_lay_14 : decode cX5_lay 14 = .ok (.bastore, 1) := by decide +kernel
theorem dX5_lay_15 : decode cX5_lay 15 = .ok (.iinc 2 1, 3) := by decide +kernel
theorem dX5_lay_18 : decode cX5_lay 18 = .ok (.goto (-16), 3) := by decide +kernel
theorem dX5_lay_21 : decode cX5_lay 21 = .ok (.iconst 0, 1) := by decide +kernel
theorem dX5_lay_22 : decode cX5_lay 22 = .ok (.istore_n 2, 1) := by decide +kernel
theorem dX5_lay_23 : decode cX5_lay 23 = .ok (.iload_n 2, 1) := by decide +kernel
theorem dX5_lay_24 : decode cX5_lay 24 = .ok (.aload_n 0, 1) := by decide +kernel
theorem dX5_lay_25 : decode cX5_lay 25 = .ok (.getfield 7, 3) := by decide +kernel
theorem dX5_lay_28 : decode cX5_lay 28 = .ok (.if_icmp .ge 16, 3) := by decide +kernel
theorem dX5_lay_31 : decode cX5_lay 31 = .ok (.aload_n 0, 1) := by decide +kernel
theorem dX5_lay_32 : decode cX5_lay 32 = .ok (.getfield 24, 3) := by decide +kernel
theorem dX5_lay_35 : decode cX5_lay 35 = .ok (.iload_n 2, 1) := by decide +kernel
theorem dX5_lay_36 : decode cX5_lay 36 = .ok (.iconst 1, 1) := by decide +kernel
theorem dX5_lay_37 : decode cX5_lay 37 = .ok (.iastore, 1) := by decide +kernel
theorem dX5_lay_38 : decode cX5_lay 38 = .ok (.iinc 2 1, 3) := by decide +kernel
theorem dX5_lay_41 : decode cX5_lay 41 = .ok (.goto (-18), 3) := by decide +kernel
theorem dX5_lay_44 : decode cX5_lay 44 = .ok (.iload_n 1, 1) := by decide +kernel
theorem dX5_lay_45 : decode cX5_lay 45 = .ok (.istore_n 2, 1) := by decide +kernel
theorem dX5_lay_46 : decode cX5_lay 46 = .ok (.iconst 2, 1) := by decide +kernel
theorem dX5_lay_47 : decode cX5_lay 47 = .ok (.istore_n 3, 1) := by decide +kernel
theorem dX5_lay_48 : decode cX5_lay 48 = .ok (.iload_n 3, 1) := by decide +kernel
theorem dX5_lay_49 : decode cX5_lay 49 = .ok (.aload_n 0, 1) := by decide +kernel
theorem dX5_lay_50 : decode cX5_lay 50 = .ok (.getfield 7, 3) := by decide +kernel
theorem dX5_lay_53 : decode cX5_lay 53 = .ok (.if_icmp .ge 31, 3) := by decide +kernel
theorem dX5_lay_56 : decode cX5_lay 56 = .ok (.aload_n 0, 1) := by decide +kernel
theorem dX5_lay_57 : decode cX5_lay 57 = .ok (.getfield 24, 3) := by decide +kernel
theorem dX5_lay_60 : decode cX5_lay 60 = .ok (.iload_n 2, 1) := by decide +kernel
theorem dX5_lay_61 : decode cX5_lay 61 = .ok (.aload_n 0, 1) := by decide +kernel
theorem dX5_lay_62 : decode cX5_lay 62 = .ok (.getfield 7, 3) := by decide +kernel
theorem dX5_lay_65 : decode cX5_lay 65 = .ok (.irem, 1) := by decide +kernel
theorem dX5_lay_66 : decode cX5_lay 66 = .ok (.dup2, 1) := by decide +kernel
theorem dX5_lay_67 : decode cX5_lay 67 = .ok (.iaload, 1) := by decide +kernel
theorem dX5_lay_68 : decode cX5_lay 68 = .ok (.iconst 1, 1) := by decide +kernel
theorem dX5_lay_69 : decode cX5_lay 69 = .ok (.iadd, 1) := by decide +kernel
theorem dX5_lay_70 : decode cX5_lay 70 = .ok (.iastore, 1) := by decide +kernel
theorem dX5_lay_71 : decode cX5_lay 71 = .ok (.iload_n 2, 1) := by decide +kernel
theorem dX5_lay_72 : decode cX5_lay 72 = .ok (.aload_n 0, 1) := by decide +kernel
theorem dX5_lay_73 : decode cX5_lay 73 = .ok (.getfield 7, 3) := by decide +kernel
theorem dX5_lay_76 : decode cX5_lay 76 = .ok (.idiv, 1) := by decide +kernel
theorem dX5_lay_77 : decode cX5_lay 77 = .ok (.istore_n 2, 1) := by decide +kernel
theorem dX5_lay_78 : decode cX5_lay 78 = .ok (.iinc 3 1, 3) := by decide +kernel
theorem dX5_lay_81 : decode cX5_lay 81 = .ok (.goto (-33), 3) := by decide +kernel
theorem dX5_lay_84 : decode cX5_lay 84 = .ok (.aload_n 0, 1) := by decide +kernel
theorem dX5_lay_85 : decode cX5_lay 85 = .ok (.invokevirtual 67, 3) := by decide +kernel
theorem dX5_lay_88 : decode cX5_lay 88 = .ok (.istore_n 3, 1) := by decide +kernel
theorem dX5_lay_89 : decode cX5_lay 89 = .ok (.iconst 2, 1) := by decide +kernel
theorem dX5_lay_90 : decode cX5_lay 90 = .ok (.istore 4, 2) := by decide +kernel
theorem dX5_lay_92 : decode cX5_lay 92 = .ok (.iload 4, 2) := by decide +kernel
theorem dX5_lay_94 : decode cX5_lay 94 = .ok (.aload_n 0, 1) := by decide +kernel
theorem dX5_lay_95 : decode cX5_lay 95 = .ok (.getfield 7, 3) := by decide +kernel
theorem dX5_lay_98 : decode cX5_lay 98 = .ok (.if_icmp .ge 32, 3) := by decide +kernel
theorem dX5_lay_101 : decode cX5_lay 101 = .ok (.iload_n 3, 1) := by decide +kernel
theorem dX5_lay_102 : decode cX5_lay 102 = .ok (.aload_n 0, 1) := by decide +kernel
theorem dX5_lay_103 : decode cX5_lay 103 = .ok (.getfield 7, 3) := by decide +kernel
theorem dX5_lay_106 : decode cX5_lay 106 = .ok (.idiv, 1) := by decide +kernel
theorem dX5_lay_107 : decode cX5_lay 107 = .ok (.istore_n 3, 1) := by decide +kernel
theorem dX5_lay_108 : decode cX5_lay 108 = .ok (.aload_n 0, 1) := by decide +kernel
theorem dX5_lay_109 : decode cX5_lay 109 = .ok (.aload_n 0, 1) := by decide +kernel
theorem dX5_lay_110 : decode cX5_lay 110 = .ok (.invokevirtual 70, 3) := by decide +kernel
theorem dX5_lay_113 : decode cX5_lay 113 = .ok (.iload_n 1, 1) := by decide +kernel
theorem dX5_lay_114 : decode cX5_lay 114 = .ok (.iload_n 3, 1) := by decide +kernel
theorem dX5_lay_115 : decode cX5_lay 115 = .ok (.idiv, 1) := by decide +kernel
theorem dX5_lay_116 : decode cX5_lay 116 = .ok (.aload_n 0, 1) := by decide +kernel
theorem dX5_lay_117 : decode cX5_lay 117 = .ok (.getfield 7, 3) := by decide +kernel
theorem dX5_lay_120 : decode cX5_lay 120 = .ok (.irem, 1) := by decide +kernel
theorem dX5_lay_121 : decode cX5_lay 121 = .ok (.invokevirtual 73, 3) := by decide +kernel
theorem dX5_lay_124 : decode cX5_lay 124 = .ok (.iinc 4 1, 3) := by decide +kernel
theorem dX5_lay_127 : decode cX5_lay 127 = .ok (.goto (-35), 3) := by decide +kernel
theorem dX5_lay_130 : decode cX5_lay 130 = .ok (.aload_n 0, 1) := by decide +kernel
theorem dX5_lay_131 : decode cX5_lay 131 = .ok (.invokevirtual 70, 3) := by decide +kernel
theorem dX5_lay_134 : decode cX5_lay 134 = .ok (.istore 4, 2) := by decide +kernel
theorem dX5_lay_136 : decode cX5_lay 136 = .ok (.aload_n 0, 1) := by decide +kernel
theorem dX5_lay_137 : decode cX5_lay 137 = .ok (.getfield 24, 3) := by decide +kernel
theorem dX5_lay_140 : decode cX5_lay 140 = .ok (.iload 4, 2) := by decide +kernel
theorem dX5_lay_142 : decode cX5_lay 142 = .ok (.iconst 0, 1) := by decide +kernel
theorem dX5_lay_143 : decode cX5_lay 143 = .ok (.iastore, 1) := by decide +kernel
theorem dX5_lay_144 : decode cX5_lay 144 = .ok (.aload_n 0, 1) := by decide +kernel
theorem dX5_lay_145 : decode cX5_lay 145 = .ok (.invokevirtual 70, 3) := by decide +kernel
theorem dX5_lay_148 : decode cX5_lay 148 = .ok (.istore 5, 2) := by decide +kernel
theorem dX5_lay_150 : decode cX5_lay 150 = .ok (.aload_n 0, 1) := by decide +kernel
theorem dX5_lay_151 : decode cX5_lay 151 = .ok (.getfield 24, 3) := by decide +kernel
theorem dX5_lay_154 : decode cX5_lay 154 = .ok (.iload 4, 2) := by decide +kernel
theorem dX5_lay_156 : decode cX5_lay 156 = .ok (.iconst 1, 1) := by decide +kernel
theorem dX5_lay_157 : decode cX5_lay 157 = .ok (.iastore, 1) := by decide +kernel
theorem dX5_lay_158 : decode cX5_lay 158 = .ok (.aload_n 0, 1) := by decide +kernel
theorem dX5_lay_159 : decode cX5_lay 159 = .ok (.iload 4, 2) := by decide +kernel
theorem dX5_lay_161 : decode cX5_lay 161 = .ok (.iload 5, 2) := by decide +kernel
theorem dX5_lay_163 : decode cX5_lay 163 = .ok (.invokevirtual 73, 3) := by decide +kernel
theorem dX5_lay_166 : decode cX5_lay 166 = .ok (.return_, 1) := by decide +kernel
theorem dX5_go_0 : decode cX5_go 0 = .ok (.aload_n 0, 1) := by decide +kernel
theorem dX5_go_1 : decode cX5_go 1 = .ok (.iload_n 1, 1) := by decide +kernel
theorem dX5_go_2 : decode cX5_go 2 = .ok (.invokevirtual 77, 3) := by decide +kernel
theorem dX5_go_5 : decode cX5_go 5 = .ok (.iconst 0, 1) := by decide +kernel
theorem dX5_go_6 : decode cX5_go 6 = .ok (.istore_n 2, 1) := by decide +kernel
theorem dX5_go_7 : decode cX5_go 7 = .ok (.iload_n 2, 1) := by decide +kernel
theorem dX5_go_8 : decode cX5_go 8 = .ok (.aload_n 0, 1) := by decide +kernel
theorem dX5_go_9 : decode cX5_go 9 = .ok (.getfield 7, 3) := by decide +kernel
theorem dX5_go_12 : decode cX5_go 12 = .ok (.if_icmp .ge 70, 3) := by decide +kernel
theorem dX5_go_15 : decode cX5_go 15 = .ok (.iconst 0, 1) := by decide +kernel
theorem dX5_go_16 : decode cX5_go 16 = .ok (.istore_n 3, 1) := by decide +kernel
theorem dX5_go_17 : decode cX5_go 17 = .ok (.iload_n 3, 1) := by decide +kernel
theorem dX5_go_18 : decode cX5_go 18 = .ok (.aload_n 0, 1) := by decide +kernel
theorem dX5_go_19 : decode cX5_go 19 = .ok (.getfield 7, 3) := by decide +kernel
theorem dX5_go_22 : decode cX5_go 22 = .ok (.if_icmp .ge 54, 3) := by decide +kernel
theorem dX5_go_25 : decode cX5_go 25 = .ok (.aload_n 0, 1) := by decide +kernel
theorem dX5_go_26 : decode cX5_go 26 = .ok (.getfield 27, 3) := by decide +kernel
theorem dX5_go_29 : decode cX5_go 29 = .ok (.bipush 6, 2) := by decide +kernel
theorem dX5_go_31 : decode cX5_go 31 = .ok (.iload_n 2, 1) := by decide +kernel
theorem dX5_go_32 : decode cX5_go 32 = .ok (.imul, 1) := by decide +kernel
theorem dX5_go_33 : decode cX5_go 33 = .ok (.iload_n 3, 1) := by decide +kernel
theorem dX5_go_34 : decode cX5_go 34 = .ok (.iadd, 1) := by decide +kernel
theorem dX5_go_35 : decode cX5_go 35 = .ok (.iload_n 2, 1) := by decide +kernel
theorem dX5_go_36 : decode cX5_go 36 = .ok (.iload_n 3, 1) := by decide +kernel
theorem dX5_go_37 : decode cX5_go 37 = .ok (.if_icmp .ne 7, 3) := by decide +kernel
theorem dX5_go_40 : decode cX5_go 40 = .ok (.iconst 0, 1) := by decide +kernel
theorem dX5_go_41 : decode cX5_go 41 = .ok (.goto 28, 3) := by decide +kernel
theorem dX5_go_44 : decode cX5_go 44 = .ok (.aload_n 0, 1) := by decide +kernel
theorem dX5_go_45 : decode cX5_go 45 = .ok (.getfield 20, 3) := by decide +kernel
theorem dX5_go_48 : decode cX5_go 48 = .ok (.bipush 6, 2) := by decide +kernel
theorem dX5_go_50 : decode cX5_go 50 = .ok (.iload_n 2, 1) := by decide +kernel
theorem dX5_go_51 : decode cX5_go 51 = .ok (.imul, 1) := by decide +kernel
theorem dX5_go_52 : decode cX5_go 52 = .ok (.iload_n 3, 1) := by decide +kernel
theorem dX5_go_53 : decode cX5_go 53 = .ok (.iadd, 1) := by decide +kernel
theorem dX5_go_54 : decode cX5_go 54 = .ok (.baload, 1) := by decide +kernel
theorem dX5_go_55 : decode cX5_go 55 = .ok (.ifCond .eq 12, 3) := by decide +kernel
theorem dX5_go_58 : decode cX5_go 58 = .ok (.aload_n 0, 1) := by decide +kernel
theorem dX5_go_59 : decode cX5_go 59 = .ok (.iload_n 2, 1) := by decide +kernel
theorem dX5_go_60 : decode cX5_go 60 = .ok (.iload_n 3, 1) := by decide +kernel
theorem dX5_go_61 : decode cX5_go 61 = .ok (.invokevirtual 44, 3) := by decide +kernel
theorem dX5_go_64 : decode cX5_go 64 = .ok (.goto 5, 3) := by decide +kernel
theorem dX5_go_67 : decode cX5_go 67 = .ok (.ldc 81, 2) := by decide +kernel
theorem dX5_go_69 : decode cX5_go 69 = .ok (.iastore, 1) := by decide +kernel
theorem dX5_go_70 : decode cX5_go 70 = .ok (.iinc 3 1, 3) := by decide +kernel
theorem dX5_go_73 : decode cX5_go 73 = .ok (.goto (-56), 3) := by decide +kernel
theorem dX5_go_76 : decode cX5_go 76 = .ok (.iinc 2 1, 3) := by decide +kernel
theorem dX5_go_79 : decode cX5_go 79 = .ok (.goto (-72), 3) := by decide +kernel
theorem dX5_go_82 : decode cX5_go 82 = .ok (.iconst 0, 1) := by decide +kernel
theorem dX5_go_83 : decode cX5_go 83 = .ok (.istore_n 2, 1) := by decide +kernel
theorem dX5_go_84 : decode cX5_go 84 = .ok (.iload_n 2, 1) := by decide +kernel
theorem dX5_go_85 : decode cX5_go 85 = .ok (.aload_n 0, 1) := by decide +kernel
theorem dX5_go_86 : decode cX5_go 86 = .ok (.getfield 7, 3) := by decide +kernel
theorem dX5_go_89 : decode cX5_go 89 = .ok (.if_icmp .ge 115, 3) := by decide +kernel
theorem dX5_go_92 : decode cX5_go 92 = .ok (.iconst 0, 1) := by decide +kernel
theorem dX5_go_93 : decode cX5_go 93 = .ok (.istore_n 3, 1) := by decide +kernel
theorem dX5_go_94 : decode cX5_go 94 = .ok (.iload_n 3, 1) := by decide +kernel
theorem dX5_go_95 : decode cX5_go 95 = .ok (.aload_n 0, 1) := by decide +kernel
theorem dX5_go_96 : decode cX5_go 96 = .ok (.getfield 7, 3) := by decide +kernel
theorem dX5_go_99 : decode cX5_go 99 = .ok (.if_icmp .ge 99, 3) := by decide +kernel
theorem dX5_go_102 : decode cX5_go 102 = .ok (.iconst 0, 1) := by decide +kernel
theorem dX5_go_103 : decode cX5_go 103 = .ok (.istore 4, 2) := by decide +kernel
theorem dX5_go_105 : decode cX5_go 105 = .ok (.iload 4, 2) := by decide +kernel
theorem dX5_go_107 : decode cX5_go 107 = .ok (.aload_n 0, 1) := by decide +kernel
theorem dX5_go_108 : decode cX5_go 108 = .ok (.getfield 7, 3) := by decide +kernel
theorem dX5_go_111 : decode cX5_go 111 = .ok (.if_icmp .ge 81, 3) := by decide +kernel
theorem dX5_go_114 : decode cX5_go 114 = .ok (.aload_n 0, 1) := by decide +kernel
theorem dX5_go_115 : decode cX5_go 115 = .ok (.getfield 27, 3) := by decide +kernel
theorem dX5_go_118 : decode cX5_go 118 = .ok (.bipush 6, 2) := by decide +kernel
theorem dX5_go_120 : decode cX5_go 120 = .ok (.iload_n 3, 1) := by decide +kernel
theorem dX5_go_121 : decode cX5_go 121 = .ok (.imul, 1) := by decide +kernel
theorem dX5_go_122 : decode cX5_go 122 = .ok (.iload_n 2, 1) := by decide +kernel
theorem dX5_go_123 : decode cX5_go 123 = .ok (.iadd, 1) := by decide +kernel
theorem dX5_go_124 : decode cX5_go 124 = .ok (.iaload, 1) := by decide +kernel
theorem dX5_go_125 : decode cX5_go 125 = .ok (.aload_n 0, 1) := by decide +kernel
theorem dX5_go_126 : decode cX5_go 126 = .ok (.getfield 27, 3) := by decide +kernel
theorem dX5_go_129 : decode cX5_go 129 = .ok (.bipush 6, 2) := by decide +kernel
theorem dX5_go_131 : decode cX5_go 131 = .ok (.iload_n 2, 1) := by decide +kernel
theorem dX5_go_132 : decode cX5_go 132 = .ok (.imul, 1) := by decide +kernel
theorem dX5_go_133 : decode cX5_go 133 = .ok (.iload 4, 2) := by decide +kernel
theorem dX5_go_135 : decode cX5_go 135 = .ok (.iadd, 1) := by decide +kernel
theorem dX5_go_136 : decode cX5_go 136 = .ok (.iaload, 1) := by decide +kernel
theorem dX5_go_137 : decode cX5_go 137 = .ok (.iadd, 1) := by decide +kernel
theorem dX5_go_138 : decode cX5_go 138 = .ok (.istore 5, 2) := by decide +kernel
theorem dX5_go_140 : decode cX5_go 140 = .ok (.aload_n 0, 1) := by decide +kernel
theorem dX5_go_141 : decode cX5_go 141 = .ok (.getfield 27, 3) := by decide +kernel
theorem dX5_go_144 : decode cX5_go 144 = .ok (.bipush 6, 2) := by decide +kernel
theorem dX5_go_146 : decode cX5_go 146 = .ok (.iload_n 3, 1) := by decide +kernel
theorem dX5_go_147 : decode cX5_go 147 = .ok (.imul, 1) := by decide +kernel
theorem dX5_go_148 : decode cX5_go 148 = .ok (.iload 4, 2) := by decide +kernel
theorem dX5_go_150 : decode cX5_go 150 = .ok (.iadd, 1) := by decide +kernel
theorem dX5_go_151 : decode cX5_go 151 = .ok (.iload 5, 2) := by decide +kernel
theorem dX5_go_153 : decode cX5_go 153 = .ok (.aload_n 0, 1) := by decide +kernel
theorem dX5_go_154 : decode cX5_go 154 = .ok (.getfield 27, 3) := by decide +kernel
theorem dX5_go_157 : decode cX5_go 157 = .ok (.bipush 6, 2) := by decide +kernel
theorem dX5_go_159 : decode cX5_go 159 = .ok (.iload_n 3, 1) := by decide +kernel
theorem dX5_go_160 : decode cX5_go 160 = .ok (.imul, 1) := by decide +kernel
theorem dX5_go_161 : decode cX5_go 161 = .ok (.iload 4, 2) := by decide +kernel
theorem dX5_go_163 : decode cX5_go 163 = .ok (.iadd, 1) := by decide +kernel
theorem dX5_go_164 : decode cX5_go 164 = .ok (.iaload, 1) := by decide +kernel
theorem dX5_go_165 : decode cX5_go 165 = .ok (.if_icmp .ge 8, 3) := by decide +kernel
theorem dX5_go_168 : decode cX5_go 168 = .ok (.iload 5, 2) := by decide +kernel
theorem dX5_go_170 : decode cX5_go 170 = .ok (.goto 15, 3) := by decide +kernel
theorem dX5_go_173 : decode cX5_go 173 = .ok (.aload_n 0, 1) := by decide +kernel
theorem dX5_go_174 : decode cX5_go 174 = .ok (.getfield 27, 3) := by decide +kernel
theorem dX5_go_177 : decode cX5_go 177 = .ok (.bipush 6, 2) := by decide +kernel
theorem dX5_go_179 : decode cX5_go 179 = .ok (.iload_n 3, 1) := by decide +kernel
theorem dX5_go_180 : decode cX5_go 180 = .ok (.imul, 1) := by decide +kernel
theorem dX5_go_181 : decode cX5_go 181 = .ok (.iload 4, 2) := by decide +kernel
theorem dX5_go_183 : decode cX5_go 183 = .ok (.iadd, 1) := by decide +kernel
theorem dX5_go_184 : decode cX5_go 184 = .ok (.iaload, 1) := by decide +kernel
theorem dX5_go_185 : decode cX5_go 185 = .ok (.iastore, 1) := by decide +kernel
theorem dX5_go_186 : decode cX5_go 186 = .ok (.iinc 4 1, 3) := by decide +kernel
theorem dX5_go_189 : decode cX5_go 189 = .ok (.goto (-84), 3) := by decide +kernel
theorem dX5_go_192 : decode cX5_go 192 = .ok (.iinc 3 1, 3) := by decide +kernel
theorem dX5_go_195 : decode cX5_go 195 = .ok (.goto (-101), 3) := by decide +kernel
theorem dX5_go_198 : decode cX5_go 198 = .ok (.iinc 2 1, 3) := by decide +kernel
theorem dX5_go_201 : decode cX5_go 201 = .ok (.goto (-117), 3) := by decide +kernel
theorem dX5_go_204 : decode cX5_go 204 = .ok (.return_, 1) := by decide +kernel
theorem dX5_joined_0 : decode cX5_joined 0 = .ok (.aload_n 0, 1) := by decide +kernel
theorem dX5_joined_1 : decode cX5_joined 1 = .ok (.iload_n 1, 1) := by decide +kernel
theorem dX5_joined_2 : decode cX5_joined 2 = .ok (.invokevirtual 82, 3) := by decide +kernel
theorem dX5_joined_5 : decode cX5_joined 5 = .ok (.ifCond .ne 6, 3) := by decide +kernel
theorem dX5_joined_8 : decode cX5_joined 8 = .ok (.bipush (-102), 2) := by decide +kernel
theorem dX5_joined_10 : decode cX5_joined 10 = .ok (.ireturn, 1) := by decide +kernel
theorem dX5_joined_11 : decode cX5_joined 11 = .ok (.aload_n 0, 1) := by decide +kernel
theorem dX5_joined_12 : decode cX5_joined 12 = .ok (.iload_n 2, 1) := by decide +kernel
theorem dX5_joined_13 : decode cX5_joined 13 = .ok (.invokevirtual 40, 3) := by decide +kernel
theorem dX5_joined_16 : decode cX5_joined 16 = .ok (.ifCond .eq 11, 3) := by decide +kernel
theorem dX5_joined_19 : decode cX5_joined 19 = .ok (.aload_n 0, 1) := by decide +kernel
theorem dX5_joined_20 : decode cX5_joined 20 = .ok (.iload_n 3, 1) := by decide +kernel
theorem dX5_joined_21 : decode cX5_joined 21 = .ok (.invokevirtual 40, 3) := by decide +kernel
theorem dX5_joined_24 : decode cX5_joined 24 = .ok (.ifCond .ne 6, 3) := by decide +kernel
theorem dX5_joined_27 : decode cX5_joined 27 = .ok (.bipush (-101), 2) := by decide +kernel
theorem dX5_joined_29 : decode cX5_joined 29 = .ok (.ireturn, 1) := by decide +kernel
theorem dX5_joined_30 : decode cX5_joined 30 = .ok (.aload_n 0, 1) := by decide +kernel
theorem dX5_joined_31 : decode cX5_joined 31 = .ok (.iload_n 1, 1) := by decide +kernel
theorem dX5_joined_32 : decode cX5_joined 32 = .ok (.invokevirtual 77, 3) := by decide +kernel
theorem dX5_joined_35 : decode cX5_joined 35 = .ok (.aload_n 0, 1) := by decide +kernel
theorem dX5_joined_36 : decode cX5_joined 36 = .ok (.getfield 20, 3) := by decide +kernel
theorem dX5_joined_39 : decode cX5_joined 39 = .ok (.bipush 6, 2) := by decide +kernel
theorem dX5_joined_41 : decode cX5_joined 41 = .ok (.iload_n 2, 1) := by decide +kernel
theorem dX5_joined_42 : decode cX5_joined 42 = .ok (.imul, 1) := by decide +kernel
theorem dX5_joined_43 : decode cX5_joined 43 = .ok (.iload_n 3, 1) := by decide +kernel
theorem dX5_joined_44 : decode cX5_joined 44 = .ok (.iadd, 1) := by decide +kernel
theorem dX5_joined_45 : decode cX5_joined 45 = .ok (.baload, 1) := by decide +kernel
theorem dX5_joined_46 : decode cX5_joined 46 = .ok (.ifCond .eq 7, 3) := by decide +kernel
theorem dX5_joined_49 : decode cX5_joined 49 = .ok (.iconst 1, 1) := by decide +kernel
theorem dX5_joined_50 : decode cX5_joined 50 = .ok (.goto 4, 3) := by decide +kernel
theorem dX5_joined_53 : decode cX5_joined 53 = .ok (.iconst 0, 1) := by decide +kernel
theorem dX5_joined_54 : decode cX5_joined 54 = .ok (.ireturn, 1) := by decide +kernel
theorem dX5_way_0 : decode cX5_way 0 = .ok (.aload_n 0, 1) := by decide +kernel
theorem dX5_way_1 : decode cX5_way 1 = .ok (.iload_n 1, 1) := by decide +kernel
theorem dX5_way_2 : decode cX5_way 2 = .ok (.invokevirtual 82, 3) := by decide +kernel
theorem dX5_way_5 : decode cX5_way 5 = .ok (.ifCond .ne 6, 3) := by decide +kernel
theorem dX5_way_8 : decode cX5_way 8 = .ok (.bipush (-102), 2) := by decide +kernel
theorem dX5_way_10 : decode cX5_way 10 = .ok (.ireturn, 1) := by decide +kernel
theorem dX5_way_11 : decode cX5_way 11 = .ok (.aload_n 0, 1) := by decide +kernel
theorem dX5_way_12 : decode cX5_way 12 = .ok (.iload_n 2, 1) := by decide +kernel
theorem dX5_way_13 : decode cX5_way 13 = .ok (.invokevirtual 40, 3) := by decide +kernel
theorem dX5_way_16 : decode cX5_way 16 = .ok (.ifCond .eq 11, 3) := by decide +kernel
theorem dX5_way_19 : decode cX5_way 19 = .ok (.aload_n 0, 1) := by decide +kernel
theorem dX5_way_20 : decode cX5_way 20 = .ok (.iload_n 3, 1) := by decide +kernel
theorem dX5_way_21 : decode cX5_way 21 = .ok (.invokevirtual 40, 3) := by decide +kernel
theorem dX5_way_24 : decode cX5_way 24 = .ok (.ifCond .ne 6, 3) := by decide +kernel
theorem dX5_way_27 : decode cX5_way 27 = .ok (.bipush (-101), 2) := by decide +kernel
theorem dX5_way_29 : decode cX5_way 29 = .ok (.ireturn, 1) := by decide +kernel
theorem dX5_way_30 : decode cX5_way 30 = .ok (.aload_n 0, 1) := by decide +kernel
theorem dX5_way_31 : decode cX5_way 31 = .ok (.iload_n 1, 1) := by decide +kernel
theorem dX5_way_32 : decode cX5_way 32 = .ok (.invokevirtual 85, 3) := by decide +kernel
theorem dX5_way_35 : decode cX5_way 35 = .ok (.aload_n 0, 1) := by decide +kernel
theorem dX5_way_36 : decode cX5_way 36 = .ok (.getfield 27, 3) := by decide +kernel
theorem dX5_way_39 : decode cX5_way 39 = .ok (.bipush 6, 2) := by decide +kernel
theorem dX5_way_41 : decode cX5_way 41 = .ok (.iload_n 2, 1) := by decide +kernel
theorem dX5_way_42 : decode cX5_way 42 = .ok (.imul, 1) := by decide +kernel
theorem dX5_way_43 : decode cX5_way 43 = .ok (.iload_n 3, 1) := by decide +kernel
theorem dX5_way_44 : decode cX5_way 44 = .ok (.iadd, 1) := by decide +kernel
theorem dX5_way_45 : decode cX5_way 45 = .ok (.iaload, 1) := by decide +kernel
theorem dX5_way_46 : decode cX5_way 46 = .ok (.ireturn, 1) := by decide +kernel
theorem dX5_stretchNow_0 : decode cX5_stretchNow 0 = .ok (.aload_n 0, 1) := by decide +kernel
theorem dX5_stretchNow_1 : decode cX5_stretchNow 1 = .ok (.lconst 0, 1) := by decide +kernel
theorem dX5_stretchNow_2 : decode cX5_stretchNow 2 = .ok (.putfield 88, 3) := by decide +kernel
theorem dX5_stretchNow_5 : decode cX5_stretchNow 5 = .ok (.aload_n 0, 1) := by decide +kernel
theorem dX5_stretchNow_6 : decode cX5_stretchNow 6 = .ok (.lconst 1, 1) := by decide +kernel
theorem dX5_stretchNow_7 : decode cX5_stretchNow 7 = .ok (.putfield 92, 3) := by decide +kernel
theorem dX5_stretchNow_10 : decode cX5_stretchNow 10 = .ok (.iconst 0, 1) := by decide +kernel
theorem dX5_stretchNow_11 : decode cX5_stretchNow 11 = .ok (.istore_n 1, 1) := by decide +kernel
theorem dX5_stretchNow_12 : decode cX5_stretchNow 12 = .ok (.iload_n 1, 1) := by decide +kernel
theorem dX5_stretchNow_13 : decode cX5_stretchNow 13 = .ok (.aload_n 0, 1) := by decide +kernel
theorem dX5_stretchNow_14 : decode cX5_stretchNow 14 = .ok (.getfield 7, 3) := by decide +kernel
theorem dX5_stretchNow_17 : decode cX5_stretchNow 17 = .ok (.if_icmp .ge 87, 3) := by decide +kernel
theorem dX5_stretchNow_20 : decode cX5_stretchNow 20 = .ok (.iload_n 1, 1) := by decide +kernel
theorem dX5_stretchNow_21 : decode cX5_stretchNow 21 = .ok (.iconst 1, 1) := by decide +kernel
theorem dX5_stretchNow_22 : decode cX5_stretchNow 22 = .ok (.iadd, 1) := by decide +kernel
theorem dX5_stretchNow_23 : decode cX5_stretchNow 23 = .ok (.istore_n 2, 1) := by decide +kernel
theorem dX5_stretchNow_24 : decode cX5_stretchNow 24 = .ok (.iload_n 2, 1) := by decide +kernel
theorem dX5_stretchNow_25 : decode cX5_stretchNow 25 = .ok (.aload_n 0, 1) := by decide +kernel
theorem dX5_stretchNow_26 : decode cX5_stretchNow 26 = .ok (.getfield 7, 3) := by decide +kernel
theorem dX5_stretchNow_29 : decode cX5_stretchNow 29 = .ok (.if_icmp .ge 69, 3) := by decide +kernel
theorem dX5_stretchNow_32 : decode cX5_stretchNow 32 = .ok (.aload_n 0, 1) := by decide +kernel
theorem dX5_stretchNow_33 : decode cX5_stretchNow 33 = .ok (.getfield 27, 3) := by decide +kernel
theorem dX5_stretchNow_36 : decode cX5_stretchNow 36 = .ok (.bipush 6, 2) := by decide +kernel
theorem dX5_stretchNow_38 : decode cX5_stretchNow 38 = .ok (.iload_n 1, 1) := by decide +kernel
theorem dX5_stretchNow_39 : decode cX5_stretchNow 39 = .ok (.imul, 1) := by decide +kernel
theorem dX5_stretchNow_40 : decode cX5_stretchNow 40 = .ok (.iload_n 2, 1) := by decide +kernel
theorem dX5_stretchNow_41 : decode cX5_stretchNow 41 = .ok (.iadd, 1) := by decide +kernel
theorem dX5_stretchNow_42 : decode cX5_stretchNow 42 = .ok (.iaload, 1) := by decide +kernel
theorem dX5_stretchNow_43 : decode cX5_stretchNow 43 = .ok (.i2l, 1) := by decide +kernel
theorem dX5_stretchNow_44 : decode cX5_stretchNow 44 = .ok (.aload_n 0, 1) := by decide +kernel
theorem dX5_stretchNow_45 : decode cX5_stretchNow 45 = .ok (.getfield 92, 3) := by decide +kernel
theorem dX5_stretchNow_48 : decode cX5_stretchNow 48 = .ok (.lmul, 1) := by decide +kernel
theorem dX5_stretchNow_49 : decode cX5_stretchNow 49 = .ok (.aload_n 0, 1) := by decide +kernel
theorem dX5_stretchNow_50 : decode cX5_stretchNow 50 = .ok (.getfield 88, 3) := by decide +kernel
theorem dX5_stretchNow_53 : decode cX5_stretchNow 53 = .ok (.aload_n 0, 1) := by decide +kernel
theorem dX5_stretchNow_54 : decode cX5_stretchNow 54 = .ok (.iload_n 1, 1) := by decide +kernel
theorem dX5_stretchNow_55 : decode cX5_stretchNow 55 = .ok (.iload_n 2, 1) := by decide +kernel
theorem dX5_stretchNow_56 : decode cX5_stretchNow 56 = .ok (.invokevirtual 44, 3) := by decide +kernel
theorem dX5_stretchNow_59 : decode cX5_stretchNow 59 = .ok (.i2l, 1) := by decide +kernel
theorem dX5_stretchNow_60 : decode cX5_stretchNow 60 = .ok (.lmul, 1) := by decide +kernel
theorem dX5_stretchNow_61 : decode cX5_stretchNow 61 = .ok (.lcmp, 1) := by decide +kernel
theorem dX5_stretchNow_62 : decode cX5_stretchNow 62 = .ok (.ifCond .le 30, 3) := by decide +kernel
theorem dX5_stretchNow_65 : decode cX5_stretchNow 65 = .ok (.aload_n 0, 1) := by decide +kernel
theorem dX5_stretchNow_66 : decode cX5_stretchNow 66 = .ok (.aload_n 0, 1) := by decide +kernel
theorem dX5_stretchNow_67 : decode cX5_stretchNow 67 = .ok (.getfield 27, 3) := by decide +kernel
theorem dX5_stretchNow_70 : decode cX5_stretchNow 70 = .ok (.bipush 6, 2) := by decide +kernel
theorem dX5_stretchNow_72 : decode cX5_stretchNow 72 = .ok (.iload_n 1, 1) := by decide +kernel
theorem dX5_stretchNow_73 : decode cX5_stretchNow 73 = .ok (.imul, 1) := by decide +kernel
theorem dX5_stretchNow_74 : decode cX5_stretchNow 74 = .ok (.iload_n 2, 1) := by decide +kernel
theorem dX5_stretchNow_75 : decode cX5_stretchNow 75 = .ok (.iadd, 1) := by decide +kernel
theorem dX5_stretchNow_76 : decode cX5_stretchNow 76 = .ok (.iaload, 1) := by decide +kernel
theorem dX5_stretchNow_77 : decode cX5_stretchNow 77 = .ok (.i2l, 1) := by decide +kernel
theorem dX5_stretchNow_78 : decode cX5_stretchNow 78 = .ok (.putfield 88, 3) := by decide +kernel
theorem dX5_stretchNow_81 : decode cX5_stretchNow 81 = .ok (.aload_n 0, 1) := by decide +kernel
theorem dX5_stretchNow_82 : decode cX5_stretchNow 82 = .ok (.aload_n 0, 1) := by decide +kernel
theorem dX5_stretchNow_83 : decode cX5_stretchNow 83 = .ok (.iload_n 1, 1) := by decide +kernel
theorem dX5_stretchNow_84 : decode cX5_stretchNow 84 = .ok (.iload_n 2, 1) := by decide +kernel
theorem dX5_stretchNow_85 : decode cX5_stretchNow 85 = .ok (.invokevirtual 44, 3) := by decide +kernel
theorem dX5_stretchNow_88 : decode cX5_stretchNow 88 = .ok (.i2l, 1) := by decide +kernel
theorem dX5_stretchNow_89 : decode cX5_stretchNow 89 = .ok (.putfield 92, 3) := by decide +kernel
theorem dX5_stretchNow_92 : decode cX5_stretchNow 92 = .ok (.iinc 2 1, 3) := by decide +kernel
theorem dX5_stretchNow_95 : decode cX5_stretchNow 95 = .ok (.goto (-71), 3) := by decide +kernel
theorem dX5_stretchNow_98 : decode cX5_stretchNow 98 = .ok (.iinc 1 1, 3) := by decide +kernel
theorem dX5_stretchNow_101 : decode cX5_stretchNow 101 = .ok (.goto (-89), 3) := by decide +kernel
theorem dX5_stretchNow_104 : decode cX5_stretchNow 104 = .ok (.return_, 1) := by decide +kernel
theorem dX5_spreadNow_0 : decode cX5_spreadNow 0 = .ok (.iconst 0, 1) := by decide +kernel
theorem dX5_spreadNow_1 : decode cX5_spreadNow 1 = .ok (.istore_n 1, 1) := by decide +kernel
theorem dX5_spreadNow_2 : decode cX5_spreadNow 2 = .ok (.iconst 0, 1) := by decide +kernel
theorem dX5_spreadNow_3 : decode cX5_spreadNow 3 = .ok (.istore_n 2, 1) := by decide +kernel
theorem dX5_spreadNow_4 : decode cX5_spreadNow 4 = .ok (.iload_n 2, 1) := by decide +kernel
theorem dX5_spreadNow_5 : decode cX5_spreadNow 5 = .ok (.aload_n 0, 1) := by decide +kernel
theorem dX5_spreadNow_6 : decode cX5_spreadNow 6 = .ok (.getfield 7, 3) := by decide +kernel
theorem dX5_spreadNow_9 : decode cX5_spreadNow 9 = .ok (.if_icmp .ge 41, 3) := by decide +kernel
theorem dX5_spreadNow_12 : decode cX5_spreadNow 12 = .ok (.iload_n 2, 1) := by decide +kernel
theorem dX5_spreadNow_13 : decode cX5_spreadNow 13 = .ok (.iconst 1, 1) := by decide +kernel
theorem dX5_spreadNow_14 : decode cX5_spreadNow 14 = .ok (.iadd, 1) := by decide +kernel
theorem dX5_spreadNow_15 : decode cX5_spreadNow 15 = .ok (.istore_n 3, 1) := by decide +kernel
theorem dX5_spreadNow_16 : decode cX5_spreadNow 16 = .ok (.iload_n 3, 1) := by decide +kernel
theorem dX5_spreadNow_17 : decode cX5_spreadNow 17 = .ok (.aload_n 0, 1) := by decide +kernel
theorem dX5_spreadNow_18 : decode cX5_spreadNow 18 = .ok (.getfield 7, 3) := by decide +kernel
theorem dX5_spreadNow_21 : decode cX5_spreadNow 21 = .ok (.if_icmp .ge 23, 3) := by decide +kernel
theorem dX5_spreadNow_24 : decode cX5_spreadNow 24 = .ok (.iload_n 1, 1) := by decide +kernel
theorem dX5_spreadNow_25 : decode cX5_spreadNow 25 = .ok (.aload_n 0, 1) := by decide +kernel
theorem dX5_spreadNow_26 : decode cX5_spreadNow 26 = .ok (.getfield 27, 3) := by decide +kernel
theorem dX5_spreadNow_29 : decode cX5_spreadNow 29 = .ok (.bipush 6, 2) := by decide +kernel
theorem dX5_spreadNow_31 : decode cX5_spreadNow 31 = .ok (.iload_n 2, 1) := by decide +kernel
theorem dX5_spreadNow_32 : decode cX5_spreadNow 32 = .ok (.imul, 1) := by decide +kernel
theorem dX5_spreadNow_33 : decode cX5_spreadNow 33 = .ok (.iload_n 3, 1) := by decide +kernel
theorem dX5_spreadNow_34 : decode cX5_spreadNow 34 = .ok (.iadd, 1) := by decide +kernel
theorem dX5_spreadNow_35 : decode cX5_spreadNow 35 = .ok (.iaload, 1) := by decide +kernel
theorem dX5_spreadNow_36 : decode cX5_spreadNow 36 = .ok (.iadd, 1) := by decide +kernel
theorem dX5_spreadNow_37 : decode cX5_spreadNow 37 = .ok (.istore_n 1, 1) := by decide +kernel
theorem dX5_spreadNow_38 : decode cX5_spreadNow 38 = .ok (.iinc 3 1, 3) := by decide +kernel
theorem dX5_spreadNow_41 : decode cX5_spreadNow 41 = .ok (.goto (-25), 3) := by decide +kernel
theorem dX5_spreadNow_44 : decode cX5_spreadNow 44 = .ok (.iinc 2 1, 3) := by decide +kernel
theorem dX5_spreadNow_47 : decode cX5_spreadNow 47 = .ok (.goto (-43), 3) := by decide +kernel
theorem dX5_spreadNow_50 : decode cX5_spreadNow 50 = .ok (.iload_n 1, 1) := by decide +kernel
theorem dX5_spreadNow_51 : decode cX5_spreadNow 51 = .ok (.ireturn, 1) := by decide +kernel
theorem dX5_stretch_0 : decode cX5_stretch 0 = .ok (.aload_n 0, 1) := by decide +kernel
theorem dX5_stretch_1 : decode cX5_stretch 1 = .ok (.iload_n 1, 1) := by decide +kernel
theorem dX5_stretch_2 : decode cX5_stretch 2 = .ok (.invokevirtual 82, 3) := by decide +kernel
theorem dX5_stretch_5 : decode cX5_stretch 5 = .ok (.ifCond .eq 12, 3) := by decide +kernel
theorem dX5_stretch_8 : decode cX5_stretch 8 = .ok (.iload_n 2, 1) := by decide +kernel
theorem dX5_stretch_9 : decode cX5_stretch 9 = .ok (.iconst 0, 1) := by decide +kernel
theorem dX5_stretch_10 : decode cX5_stretch 10 = .ok (.iconst 1, 1) := by decide +kernel
theorem dX5_stretch_11 : decode cX5_stretch 11 = .ok (.invokestatic 36, 3) := by decide +kernel
theorem dX5_stretch_14 : decode cX5_stretch 14 = .ok (.ifCond .ne 7, 3) := by decide +kernel
theorem dX5_stretch_17 : decode cX5_stretch 17 = .ok (.ldc2_w 95, 3) := by decide +kernel
theorem dX5_stretch_20 : decode cX5_stretch 20 = .ok (.lreturn, 1) := by decide +kernel
theorem dX5_stretch_21 : decode cX5_stretch 21 = .ok (.aload_n 0, 1) := by decide +kernel
theorem dX5_stretch_22 : decode cX5_stretch 22 = .ok (.iload_n 1, 1) := by decide +kernel
theorem dX5_stretch_23 : decode cX5_stretch 23 = .ok (.invokevirtual 85, 3) := by decide +kernel
theorem dX5_stretch_26 : decode cX5_stretch 26 = .ok (.aload_n 0, 1) := by decide +kernel
theorem dX5_stretch_27 : decode cX5_stretch 27 = .ok (.invokevirtual 97, 3) := by decide +kernel
theorem dX5_stretch_30 : decode cX5_stretch 30 = .ok (.aload_n 0, 1) := by decide +kernel
theorem dX5_stretch_31 : decode cX5_stretch 31 = .ok (.getfield 88, 3) := by decide +kernel
theorem dX5_stretch_34 : decode cX5_stretch 34 = .ok (.lstore_n 3, 1) := by decide +kernel
theorem dX5_stretch_35 : decode cX5_stretch 35 = .ok (.aload_n 0, 1) := by decide +kernel
theorem dX5_stretch_36 : decode cX5_stretch 36 = .ok (.getfield 92, 3) := by decide +kernel
theorem dX5_stretch_39 : decode cX5_stretch 39 = .ok (.lstore 5, 2) := by decide +kernel
theorem dX5_stretch_41 : decode cX5_stretch 41 = .ok (.lload 5, 2) := by decide +kernel
theorem dX5_stretch_43 : decode cX5_stretch 43 = .ok (.lconst 0, 1) := by decide +kernel
theorem dX5_stretch_44 : decode cX5_stretch 44 = .ok (.lcmp, 1) := by decide +kernel
theorem dX5_stretch_45 : decode cX5_stretch 45 = .ok (.ifCond .eq 19, 3) := by decide +kernel
theorem dX5_stretch_48 : decode cX5_stretch 48 = .ok (.lload_n 3, 1) := by decide +kernel
theorem dX5_stretch_49 : decode cX5_stretch 49 = .ok (.lload 5, 2) := by decide +kernel
theorem dX5_stretch_51 : decode cX5_stretch 51 = .ok (.lrem, 1) := by decide +kernel
theorem dX5_stretch_52 : decode cX5_stretch 52 = .ok (.lstore 7, 2) := by decide +kernel
theorem dX5_stretch_54 : decode cX5_stretch 54 = .ok (.lload 5, 2) := by decide +kernel
theorem dX5_stretch_56 : decode cX5_stretch 56 = .ok (.lstore_n 3, 1) := by decide +kernel
theorem dX5_stretch_57 : decode cX5_stretch 57 = .ok (.lload 7, 2) := by decide +kernel
theorem dX5_stretch_59 : decode cX5_stretch 59 = .ok (.lstore 5, 2) := by decide +kernel
theorem dX5_stretch_61 : decode cX5_stretch 61 = .ok (.goto (-20), 3) := by decide +kernel
theorem dX5_stretch_64 : decode cX5_stretch 64 = .ok (.iload_n 2, 1) := by decide +kernel
theorem dX5_stretch_65 : decode cX5_stretch 65 = .ok (.ifCond .ne 12, 3) := by decide +kernel
theorem dX5_stretch_68 : decode cX5_stretch 68 = .ok (.aload_n 0, 1) := by decide +kernel
theorem dX5_stretch_69 : decode cX5_stretch 69 = .ok (.getfield 88, 3) := by decide +kernel
theorem dX5_stretch_72 : decode cX5_stretch 72 = .ok (.lload_n 3, 1) := by decide +kernel
theorem dX5_stretch_73 : decode cX5_stretch 73 = .ok (.ldiv, 1) := by decide +kernel
theorem dX5_stretch_74 : decode cX5_stretch 74 = .ok (.goto 9, 3) := by decide +kernel
theorem dX5_stretch_77 : decode cX5_stretch 77 = .ok (.aload_n 0, 1) := by decide +kernel
theorem dX5_stretch_78 : decode cX5_stretch 78 = .ok (.getfield 92, 3) := by decide +kernel
theorem dX5_stretch_81 : decode cX5_stretch 81 = .ok (.lload_n 3, 1) := by decide +kernel
theorem dX5_stretch_82 : decode cX5_stretch 82 = .ok (.ldiv, 1) := by decide +kernel
theorem dX5_stretch_83 : decode cX5_stretch 83 = .ok (.lreturn, 1) := by decide +kernel
theorem dX5_spread_0 : decode cX5_spread 0 = .ok (.aload_n 0, 1) := by decide +kernel
theorem dX5_spread_1 : decode cX5_spread 1 = .ok (.iload_n 1, 1) := by decide +kernel
theorem dX5_spread_2 : decode cX5_spread 2 = .ok (.invokevirtual 82, 3) := by decide +kernel
theorem dX5_spread_5 : decode cX5_spread 5 = .ok (.ifCond .ne 6, 3) := by decide +kernel
theorem dX5_spread_8 : decode cX5_spread 8 = .ok (.bipush (-102), 2) := by decide +kernel
theorem dX5_spread_10 : decode cX5_spread 10 = .ok (.ireturn, 1) := by decide +kernel
theorem dX5_spread_11 : decode cX5_spread 11 = .ok (.aload_n 0, 1) := by decide +kernel
theorem dX5_spread_12 : decode cX5_spread 12 = .ok (.iload_n 1, 1) := by decide +kernel
theorem dX5_spread_13 : decode cX5_spread 13 = .ok (.invokevirtual 85, 3) := by decide +kernel
theorem dX5_spread_16 : decode cX5_spread 16 = .ok (.aload_n 0, 1) := by decide +kernel
theorem dX5_spread_17 : decode cX5_spread 17 = .ok (.invokevirtual 100, 3) := by decide +kernel
theorem dX5_spread_20 : decode cX5_spread 20 = .ok (.ireturn, 1) := by decide +kernel
theorem dX5_best_0 : decode cX5_best 0 = .ok (.iload_n 1, 1) := by decide +kernel
theorem dX5_best_1 : decode cX5_best 1 = .ok (.iconst 0, 1) := by decide +kernel
theorem dX5_best_2 : decode cX5_best 2 = .ok (.iconst 1, 1) := by decide +kernel
theorem dX5_best_3 : decode cX5_best 3 = .ok (.invokestatic 36, 3) := by decide +kernel
theorem dX5_best_6 : decode cX5_best 6 = .ok (.ifCond .ne 6, 3) := by decide +kernel
theorem dX5_best_9 : decode cX5_best 9 = .ok (.bipush (-102), 2) := by decide +kernel
theorem dX5_best_11 : decode cX5_best 11 = .ok (.ireturn, 1) := by decide +kernel
theorem dX5_best_12 : decode cX5_best 12 = .ok (.aload_n 0, 1) := by decide +kernel
theorem dX5_best_13 : decode cX5_best 13 = .ok (.getfield 103, 3) := by decide +kernel
theorem dX5_best_16 : decode cX5_best 16 = .ok (.bipush 60, 2) := by decide +kernel
theorem dX5_best_18 : decode cX5_best 18 = .ok (.if_icmp .ne 6, 3) := by decide +kernel
theorem dX5_best_21 : decode cX5_best 21 = .ok (.bipush (-104), 2) := by decide +kernel
theorem dX5_best_23 : decode cX5_best 23 = .ok (.ireturn, 1) := by decide +kernel
theorem dX5_best_24 : decode cX5_best 24 = .ok (.aload_n 0, 1) := by decide +kernel
theorem dX5_best_25 : decode cX5_best 25 = .ok (.dup, 1) := by decide +kernel
theorem dX5_best_26 : decode cX5_best 26 = .ok (.getfield 103, 3) := by decide +kernel
theorem dX5_best_29 : decode cX5_best 29 = .ok (.iconst 1, 1) := by decide +kernel
theorem dX5_best_30 : decode cX5_best 30 = .ok (.iadd, 1) := by decide +kernel
theorem dX5_best_31 : decode cX5_best 31 = .ok (.putfield 103, 3) := by decide +kernel
theorem dX5_best_34 : decode cX5_best 34 = .ok (.iconst (-1), 1) := by decide +kernel
theorem dX5_best_35 : decode cX5_best 35 = .ok (.istore_n 2, 1) := by decide +kernel
theorem dX5_best_36 : decode cX5_best 36 = .ok (.lconst 0, 1) := by decide +kernel
theorem dX5_best_37 : decode cX5_best 37 = .ok (.lstore_n 3, 1) := by decide +kernel
theorem dX5_best_38 : decode cX5_best 38 = .ok (.lconst 1, 1) := by decide +kernel
theorem dX5_best_39 : decode cX5_best 39 = .ok (.lstore 5, 2) := by decide +kernel
theorem dX5_best_41 : decode cX5_best 41 = .ok (.iconst 0, 1) := by decide +kernel
theorem dX5_best_42 : decode cX5_best 42 = .ok (.istore 7, 2) := by decide +kernel
theorem dX5_best_44 : decode cX5_best 44 = .ok (.iload 7, 2) := by decide +kernel
theorem dX5_best_46 : decode cX5_best 46 = .ok (.aload_n 0, 1) := by decide +kernel
theorem dX5_best_47 : decode cX5_best 47 = .ok (.invokevirtual 67, 3) := by decide +kernel
theorem dX5_best_50 : decode cX5_best 50 = .ok (.if_icmp .ge 79, 3) := by decide +kernel
theorem dX5_best_53 : decode cX5_best 53 = .ok (.aload_n 0, 1) := by decide +kernel
theorem dX5_best_54 : decode cX5_best 54 = .ok (.iload 7, 2) := by decide +kernel
theorem dX5_best_56 : decode cX5_best 56 = .ok (.invokevirtual 85, 3) := by decide +kernel
theorem dX5_best_59 : decode cX5_best 59 = .ok (.aload_n 0, 1) := by decide +kernel
theorem dX5_best_60 : decode cX5_best 60 = .ok (.invokevirtual 97, 3) := by decide +kernel
theorem dX5_best_63 : decode cX5_best 63 = .ok (.iload_n 1, 1) := by decide +kernel
theorem dX5_best_64 : decode cX5_best 64 = .ok (.ifCond .ne 10, 3) := by decide +kernel
theorem dX5_best_67 : decode cX5_best 67 = .ok (.aload_n 0, 1) := by decide +kernel
theorem dX5_best_68 : decode cX5_best 68 = .ok (.getfield 88, 3) := by decide +kernel
theorem dX5_best_71 : decode cX5_best 71 = .ok (.goto 8, 3) := by decide +kernel
theorem dX5_best_74 : decode cX5_best 74 = .ok (.aload_n 0, 1) := by decide +kernel
theorem dX5_best_75 : decode cX5_best 75 = .ok (.invokevirtual 100, 3) := by decide +kernel
theorem dX5_best_78 : decode cX5_best 78 = .ok (.i2l, 1) := by decide +kernel
theorem dX5_best_79 : decode cX5_best 79 = .ok (.lstore 8, 2) := by decide +kernel
theorem dX5_best_81 : decode cX5_best 81 = .ok (.iload_n 1, 1) := by decide +kernel
theorem dX5_best_82 : decode cX5_best 82 = .ok (.ifCond .ne 10, 3) := by decide +kernel
theorem dX5_best_85 : decode cX5_best 85 = .ok (.aload_n 0, 1) := by decide +kernel
theorem dX5_best_86 : decode cX5_best 86 = .ok (.getfield 92, 3) := by decide +kernel
theorem dX5_best_89 : decode cX5_best 89 = .ok (.goto 4, 3) := by decide +kernel
theorem dX5_best_92 : decode cX5_best 92 = .ok (.lconst 1, 1) := by decide +kernel
theorem dX5_best_93 : decode cX5_best 93 = .ok (.lstore 10, 2) := by decide +kernel
theorem dX5_best_95 : decode cX5_best 95 = .ok (.iload_n 2, 1) := by decide +kernel
theorem dX5_best_96 : decode cX5_best 96 = .ok (.iconst (-1), 1) := by decide +kernel
theorem dX5_best_97 : decode cX5_best 97 = .ok (.if_icmp .eq 16, 3) := by decide +kernel
theorem dX5_best_100 : decode cX5_best 100 = .ok (.lload 8, 2) := by decide +kernel
theorem dX5_best_102 : decode cX5_best 102 = .ok (.lload 5, 2) := by decide +kernel
theorem dX5_best_104 : decode cX5_best 104 = .ok (.lmul, 1) := by decide +kernel
theorem dX5_best_105 : decode cX5_best 105 = .ok (.lload_n 3, 1) := by decide +kernel
theorem dX5_best_106 : decode cX5_best 106 = .ok (.lload 10, 2) := by decide +kernel
theorem dX5_best_108 : decode cX5_best 108 = .ok (.lmul, 1) := by decide +kernel
theorem dX5_best_109 : decode cX5_best 109 = .ok (.lcmp, 1) := by decide +kernel
theorem dX5_best_110 : decode cX5_best 110 = .ok (.ifCond .ge 13, 3) := by decide +kernel
theorem dX5_best_113 : decode cX5_best 113 = .ok (.iload 7, 2) := by decide +kernel
theorem dX5_best_115 : decode cX5_best 115 = .ok (.istore_n 2, 1) := by decide +kernel
theorem dX5_best_116 : decode cX5_best 116 = .ok (.lload 8, 2) := by decide +kernel
theorem dX5_best_118 : decode cX5_best 118 = .ok (.lstore_n 3, 1) := by decide +kernel
theorem dX5_best_119 : decode cX5_best 119 = .ok (.lload 10, 2) := by decide +kernel
theorem dX5_best_121 : decode cX5_best 121 = .ok (.lstore 5, 2) := by decide +kernel
theorem dX5_best_123 : decode cX5_best 123 = .ok (.iinc 7 1, 3) := by decide +kernel
theorem dX5_best_126 : decode cX5_best 126 = .ok (.goto (-82), 3) := by decide +kernel
theorem dX5_best_129 : decode cX5_best 129 = .ok (.iload_n 2, 1) := by decide +kernel
theorem dX5_best_130 : decode cX5_best 130 = .ok (.ireturn, 1) := by decide +kernel
theorem dX5_grow_0 : decode cX5_grow 0 = .ok (.aload_n 0, 1) := by decide +kernel
theorem dX5_grow_1 : decode cX5_grow 1 = .ok (.iload_n 1, 1) := by decide +kernel
theorem dX5_grow_2 : decode cX5_grow 2 = .ok (.invokevirtual 82, 3) := by decide +kernel
theorem dX5_grow_5 : decode cX5_grow 5 = .ok (.ifCond .ne 6, 3) := by decide +kernel
theorem dX5_grow_8 : decode cX5_grow 8 = .ok (.bipush (-102), 2) := by decide +kernel
theorem dX5_grow_10 : decode cX5_grow 10 = .ok (.ireturn, 1) := by decide +kernel
theorem dX5_grow_11 : decode cX5_grow 11 = .ok (.aload_n 0, 1) := by decide +kernel
theorem dX5_grow_12 : decode cX5_grow 12 = .ok (.iload_n 1, 1) := by decide +kernel
theorem dX5_grow_13 : decode cX5_grow 13 = .ok (.invokevirtual 85, 3) := by decide +kernel
theorem dX5_grow_16 : decode cX5_grow 16 = .ok (.iconst 1, 1) := by decide +kernel
theorem dX5_grow_17 : decode cX5_grow 17 = .ok (.istore_n 2, 1) := by decide +kernel
theorem dX5_grow_18 : decode cX5_grow 18 = .ok (.iconst 0, 1) := by decide +kernel
theorem dX5_grow_19 : decode cX5_grow 19 = .ok (.istore_n 3, 1) := by decide +kernel
theorem dX5_grow_20 : decode cX5_grow 20 = .ok (.iload_n 3, 1) := by decide +kernel
theorem dX5_grow_21 : decode cX5_grow 21 = .ok (.aload_n 0, 1) := by decide +kernel
theorem dX5_grow_22 : decode cX5_grow 22 = .ok (.getfield 7, 3) := by decide +kernel
theorem dX5_grow_25 : decode cX5_grow 25 = .ok (.if_icmp .ge 79, 3) := by decide +kernel
theorem dX5_grow_28 : decode cX5_grow 28 = .ok (.iconst 0, 1) := by decide +kernel
theorem dX5_grow_29 : decode cX5_grow 29 = .ok (.istore 4, 2) := by decide +kernel
theorem dX5_grow_31 : decode cX5_grow 31 = .ok (.iload 4, 2) := by decide +kernel
theorem dX5_grow_33 : decode cX5_grow 33 = .ok (.aload_n 0, 1) := by decide +kernel
theorem dX5_grow_34 : decode cX5_grow 34 = .ok (.getfield 7, 3) := by decide +kernel
theorem dX5_grow_37 : decode cX5_grow 37 = .ok (.if_icmp .ge 61, 3) := by decide +kernel
theorem dX5_grow_40 : decode cX5_grow 40 = .ok (.iload_n 2, 1) := by decide +kernel
theorem dX5_grow_41 : decode cX5_grow 41 = .ok (.ifCond .eq 25, 3) := by decide +kernel
theorem dX5_grow_44 : decode cX5_grow 44 = .ok (.aload_n 0, 1) := by decide +kernel
theorem dX5_grow_45 : decode cX5_grow 45 = .ok (.getfield 27, 3) := by decide +kernel
theorem dX5_grow_48 : decode cX5_grow 48 = .ok (.bipush 6, 2) := by decide +kernel
theorem dX5_grow_50 : decode cX5_grow 50 = .ok (.iload_n 3, 1) := by decide +kernel
theorem dX5_grow_51 : decode cX5_grow 51 = .ok (.imul, 1) := by decide +kernel
theorem dX5_grow_52 : decode cX5_grow 52 = .ok (.iload 4, 2) := by decide +kernel
theorem dX5_grow_54 : decode cX5_grow 54 = .ok (.iadd, 1) := by decide +kernel
theorem dX5_grow_55 : decode cX5_grow 55 = .ok (.iaload, 1) := by decide +kernel
theorem dX5_grow_56 : decode cX5_grow 56 = .ok (.sipush 1000, 3) := by decide +kernel
theorem dX5_grow_59 : decode cX5_grow 59 = .ok (.if_icmp .gt 7, 3) := by decide +kernel
theorem dX5_grow_62 : decode cX5_grow 62 = .ok (.iconst 1, 1) := by decide +kernel
theorem dX5_grow_63 : decode cX5_grow 63 = .ok (.goto 4, 3) := by decide +kernel
theorem dX5_grow_66 : decode cX5_grow 66 = .ok (.iconst 0, 1) := by decide +kernel
theorem dX5_grow_67 : decode cX5_grow 67 = .ok (.istore_n 2, 1) := by decide +kernel
theorem dX5_grow_68 : decode cX5_grow 68 = .ok (.aload_n 0, 1) := by decide +kernel
theorem dX5_grow_69 : decode cX5_grow 69 = .ok (.getfield 17, 3) := by decide +kernel
theorem dX5_grow_72 : decode cX5_grow 72 = .ok (.bipush 6, 2) := by decide +kernel
theorem dX5_grow_74 : decode cX5_grow 74 = .ok (.iload_n 3, 1) := by decide +kernel
theorem dX5_grow_75 : decode cX5_grow 75 = .ok (.imul, 1) := by decide +kernel
theorem dX5_grow_76 : decode cX5_grow 76 = .ok (.iload 4, 2) := by decide +kernel
theorem dX5_grow_78 : decode cX5_grow 78 = .ok (.iadd, 1) := by decide +kernel
theorem dX5_grow_79 : decode cX5_grow 79 = .ok (.aload_n 0, 1) := by decide +kernel
theorem dX5_grow_80 : decode cX5_grow 80 = .ok (.getfield 27, 3) := by decide +kernel
theorem dX5_grow_83 : decode cX5_grow 83 = .ok (.bipush 6, 2) := by decide +kernel
theorem dX5_grow_85 : decode cX5_grow 85 = .ok (.iload_n 3, 1) := by decide +kernel
theorem dX5_grow_86 : decode cX5_grow 86 = .ok (.imul, 1) := by decide +kernel
theorem dX5_grow_87 : decode cX5_grow 87 = .ok (.iload 4, 2) := by decide +kernel
theorem dX5_grow_89 : decode cX5_grow 89 = .ok (.iadd, 1) := by decide +kernel
theorem dX5_grow_90 : decode cX5_grow 90 = .ok (.iaload, 1) := by decide +kernel
theorem dX5_grow_91 : decode cX5_grow 91 = .ok (.iastore, 1) := by decide +kernel
theorem dX5_grow_92 : decode cX5_grow 92 = .ok (.iinc 4 1, 3) := by decide +kernel
theorem dX5_grow_95 : decode cX5_grow 95 = .ok (.goto (-64), 3) := by decide +kernel
theorem dX5_grow_98 : decode cX5_grow 98 = .ok (.iinc 3 1, 3) := by decide +kernel
theorem dX5_grow_101 : decode cX5_grow 101 = .ok (.goto (-81), 3) := by decide +kernel
theorem dX5_grow_104 : decode cX5_grow 104 = .ok (.iload_n 2, 1) := by decide +kernel
theorem dX5_grow_105 : decode cX5_grow 105 = .ok (.ifCond .eq 10, 3) := by decide +kernel
theorem dX5_grow_108 : decode cX5_grow 108 = .ok (.aload_n 0, 1) := by decide +kernel
theorem dX5_grow_109 : decode cX5_grow 109 = .ok (.invokevirtual 63, 3) := by decide +kernel
theorem dX5_grow_112 : decode cX5_grow 112 = .ok (.goto 5, 3) := by decide +kernel
theorem dX5_grow_115 : decode cX5_grow 115 = .ok (.bipush (-103), 2) := by decide +kernel
theorem dX5_grow_117 : decode cX5_grow 117 = .ok (.ireturn, 1) := by decide +kernel
theorem dX5_isPart_0 : decode cX5_isPart 0 = .ok (.iload_n 1, 1) := by decide +kernel
theorem dX5_isPart_1 : decode cX5_isPart 1 = .ok (.iconst 1, 1) := by decide +kernel
theorem dX5_isPart_2 : decode cX5_isPart 2 = .ok (.iconst 1, 1) := by decide +kernel
theorem dX5_isPart_3 : decode cX5_isPart 3 = .ok (.aload_n 0, 1) := by decide +kernel
theorem dX5_isPart_4 : decode cX5_isPart 4 = .ok (.getfield 7, 3) := by decide +kernel
theorem dX5_isPart_7 : decode cX5_isPart 7 = .ok (.ishl, 1) := by decide +kernel
theorem dX5_isPart_8 : decode cX5_isPart 8 = .ok (.iconst 2, 1) := by decide +kernel
theorem dX5_isPart_9 : decode cX5_isPart 9 = .ok (.isub, 1) := by decide +kernel
theorem dX5_isPart_10 : decode cX5_isPart 10 = .ok (.invokestatic 36, 3) := by decide +kernel
theorem dX5_isPart_13 : decode cX5_isPart 13 = .ok (.ifCond .eq 14, 3) := by decide +kernel
theorem dX5_isPart_16 : decode cX5_isPart 16 = .ok (.iload_n 1, 1) := by decide +kernel
theorem dX5_isPart_17 : decode cX5_isPart 17 = .ok (.iconst 1, 1) := by decide +kernel
theorem dX5_isPart_18 : decode cX5_isPart 18 = .ok (.iand, 1) := by decide +kernel
theorem dX5_isPart_19 : decode cX5_isPart 19 = .ok (.iconst 1, 1) := by decide +kernel
theorem dX5_isPart_20 : decode cX5_isPart 20 = .ok (.if_icmp .ne 7, 3) := by decide +kernel
theorem dX5_isPart_23 : decode cX5_isPart 23 = .ok (.iconst 1, 1) := by decide +kernel
theorem dX5_isPart_24 : decode cX5_isPart 24 = .ok (.goto 4, 3) := by decide +kernel
theorem dX5_isPart_27 : decode cX5_isPart 27 = .ok (.iconst 0, 1) := by decide +kernel
theorem dX5_isPart_28 : decode cX5_isPart 28 = .ok (.ireturn, 1) := by decide +kernel
theorem dX5_weightOf_0 : decode cX5_weightOf 0 = .ok (.ldc 81, 2) := by decide +kernel
theorem dX5_weightOf_2 : decode cX5_weightOf 2 = .ok (.istore_n 2, 1) := by decide +kernel
theorem dX5_weightOf_3 : decode cX5_weightOf 3 = .ok (.iconst 0, 1) := by decide +kernel
theorem dX5_weightOf_4 : decode cX5_weightOf 4 = .ok (.istore_n 3, 1) := by decide +kernel
theorem dX5_weightOf_5 : decode cX5_weightOf 5 = .ok (.iload_n 3, 1) := by decide +kernel
theorem dX5_weightOf_6 : decode cX5_weightOf 6 = .ok (.aload_n 0, 1) := by decide +kernel
theorem dX5_weightOf_7 : decode cX5_weightOf 7 = .ok (.getfield 7, 3) := by decide +kernel
theorem dX5_weightOf_10 : decode cX5_weightOf 10 = .ok (.if_icmp .ge 194, 3) := by decide +kernel
theorem dX5_weightOf_13 : decode cX5_weightOf 13 = .ok (.iload_n 3, 1) := by decide +kernel
theorem dX5_weightOf_14 : decode cX5_weightOf 14 = .ok (.istore 4, 2) := by decide +kernel
theorem dX5_weightOf_16 : decode cX5_weightOf 16 = .ok (.iload 4, 2) := by decide +kernel
theorem dX5_weightOf_18 : decode cX5_weightOf 18 = .ok (.aload_n 0, 1) := by decide +kernel
theorem dX5_weightOf_19 : decode cX5_weightOf 19 = .ok (.getfield 7, 3) := by decide +kernel
theorem dX5_weightOf_22 : decode cX5_weightOf 22 = .ok (.if_icmp .ge 176, 3) := by decide +kernel
theorem dX5_weightOf_25 : decode cX5_weightOf 25 = .ok (.iconst 0, 1) := by decide +kernel
theorem dX5_weightOf_26 : decode cX5_weightOf 26 = .ok (.istore 5, 2) := by decide +kernel
theorem dX5_weightOf_28 : decode cX5_weightOf 28 = .ok (.iload 5, 2) := by decide +kernel
theorem dX5_weightOf_30 : decode cX5_weightOf 30 = .ok (.aload_n 0, 1) := by decide +kernel
theorem dX5_weightOf_31 : decode cX5_weightOf 31 = .ok (.getfield 7, 3) := by decide +kernel
theorem dX5_weightOf_34 : decode cX5_weightOf 34 = .ok (.if_icmp .ge 158, 3) := by decide +kernel
theorem dX5_weightOf_37 : decode cX5_weightOf 37 = .ok (.iload 5, 2) := by decide +kernel
theorem dX5_weightOf_39 : decode cX5_weightOf 39 = .ok (.istore 6, 2) := by decide +kernel
theorem dX5_weightOf_41 : decode cX5_weightOf 41 = .ok (.iload 6, 2) := by decide +kernel
theorem dX5_weightOf_43 : decode cX5_weightOf 43 = .ok (.aload_n 0, 1) := by decide +kernel
theorem dX5_weightOf_44 : decode cX5_weightOf 44 = .ok (.getfield 7, 3) := by decide +kernel
theorem dX5_weightOf_47 : decode cX5_weightOf 47 = .ok (.if_icmp .ge 139, 3) := by decide +kernel
theorem dX5_weightOf_50 : decode cX5_weightOf 50 = .ok (.iload_n 1, 1) := by decide +kernel
theorem dX5_weightOf_51 : decode cX5_weightOf 51 = .ok (.iload_n 3, 1) := by decide +kernel
theorem dX5_weightOf_52 : decode cX5_weightOf 52 = .ok (.ishr, 1) := by decide +kernel
theorem dX5_weightOf_53 : decode cX5_weightOf 53 = .ok (.iload_n 1, 1) := by decide +kernel
theorem dX5_weightOf_54 : decode cX5_weightOf 54 = .ok (.iload 4, 2) := by decide +kernel
theorem dX5_weightOf_56 : decode cX5_weightOf 56 = .ok (.ishr, 1) := by decide +kernel
theorem dX5_weightOf_57 : decode cX5_weightOf 57 = .ok (.iand, 1) := by decide +kernel
theorem dX5_weightOf_58 : decode cX5_weightOf 58 = .ok (.iconst 1, 1) := by decide +kernel
theorem dX5_weightOf_59 : decode cX5_weightOf 59 = .ok (.iand, 1) := by decide +kernel
theorem dX5_weightOf_60 : decode cX5_weightOf 60 = .ok (.iconst 1, 1) := by decide +kernel
theorem dX5_weightOf_61 : decode cX5_weightOf 61 = .ok (.if_icmp .ne 21, 3) := by decide +kernel
theorem dX5_weightOf_64 : decode cX5_weightOf 64 = .ok (.iload_n 1, 1) := by decide +kernel
theorem dX5_weightOf_65 : decode cX5_weightOf 65 = .ok (.iload 5, 2) := by decide +kernel
theorem dX5_weightOf_67 : decode cX5_weightOf 67 = .ok (.ishr, 1) := by decide +kernel
theorem dX5_weightOf_68 : decode cX5_weightOf 68 = .ok (.iload_n 1, 1) := by decide +kernel
theorem dX5_weightOf_69 : decode cX5_weightOf 69 = .ok (.iload 6, 2) := by decide +kernel
theorem dX5_weightOf_71 : decode cX5_weightOf 71 = .ok (.ishr, 1) := by decide +kernel
theorem dX5_weightOf_72 : decode cX5_weightOf 72 = .ok (.ior, 1) := by decide +kernel
theorem dX5_weightOf_73 : decode cX5_weightOf 73 = .ok (.iconst 1, 1) := by decide +kernel
theorem dX5_weightOf_74 : decode cX5_weightOf 74 = .ok (.iand, 1) := by decide +kernel
theorem dX5_weightOf_75 : decode cX5_weightOf 75 = .ok (.ifCond .ne 7, 3) := by decide +kernel
theorem dX5_weightOf_78 : decode cX5_weightOf 78 = .ok (.iconst 1, 1) := by decide +kernel
theorem dX5_weightOf_79 : decode cX5_weightOf 79 = .ok (.goto 4, 3) := by decide +kernel
theorem dX5_weightOf_82 : decode cX5_weightOf 82 = .ok (.iconst 0, 1) := by decide +kernel
theorem dX5_weightOf_83 : decode cX5_weightOf 83 = .ok (.istore 7, 2) := by decide +kernel
theorem dX5_weightOf_85 : decode cX5_weightOf 85 = .ok (.iload 7, 2) := by decide +kernel
theorem dX5_weightOf_87 : decode cX5_weightOf 87 = .ok (.ifCond .eq 93, 3) := by decide +kernel
theorem dX5_weightOf_90 : decode cX5_weightOf 90 = .ok (.aload_n 0, 1) := by decide +kernel
theorem dX5_weightOf_91 : decode cX5_weightOf 91 = .ok (.iload_n 3, 1) := by decide +kernel
theorem dX5_weightOf_92 : decode cX5_weightOf 92 = .ok (.iload 4, 2) := by decide +kernel
theorem dX5_weightOf_94 : decode cX5_weightOf 94 = .ok (.invokevirtual 44, 3) := by decide +kernel
theorem dX5_weightOf_97 : decode cX5_weightOf 97 = .ok (.aload_n 0, 1) := by decide +kernel
theorem dX5_weightOf_98 : decode cX5_weightOf 98 = .ok (.iload 5, 2) := by decide +kernel
theorem dX5_weightOf_100 : decode cX5_weightOf 100 = .ok (.iload 6, 2) := by decide +kernel
theorem dX5_weightOf_102 : decode cX5_weightOf 102 = .ok (.invokevirtual 44, 3) := by decide +kernel
theorem dX5_weightOf_105 : decode cX5_weightOf 105 = .ok (.iadd, 1) := by decide +kernel
theorem dX5_weightOf_106 : decode cX5_weightOf 106 = .ok (.aload_n 0, 1) := by decide +kernel
theorem dX5_weightOf_107 : decode cX5_weightOf 107 = .ok (.iload_n 3, 1) := by decide +kernel
theorem dX5_weightOf_108 : decode cX5_weightOf 108 = .ok (.iload 5, 2) := by decide +kernel
theorem dX5_weightOf_110 : decode cX5_weightOf 110 = .ok (.invokevirtual 44, 3) := by decide +kernel
theorem dX5_weightOf_113 : decode cX5_weightOf 113 = .ok (.aload_n 0, 1) := by decide +kernel
theorem dX5_weightOf_114 : decode cX5_weightOf 114 = .ok (.iload 4, 2) := by decide +kernel
theorem dX5_weightOf_116 : decode cX5_weightOf 116 = .ok (.iload 6, 2) := by decide +kernel
theorem dX5_weightOf_118 : decode cX5_weightOf 118 = .ok (.invokevirtual 44, 3) := by decide +kernel
theorem dX5_weightOf_121 : decode cX5_weightOf 121 = .ok (.iadd, 1) := by decide +kernel
theorem dX5_weightOf_122 : decode cX5_weightOf 122 = .ok (.aload_n 0, 1) := by decide +kernel
theorem dX5_weightOf_123 : decode cX5_weightOf 123 = .ok (.iload_n 3, 1) := by decide +kernel
theorem dX5_weightOf_124 : decode cX5_weightOf 124 = .ok (.iload 6, 2) := by decide +kernel
theorem dX5_weightOf_126 : decode cX5_weightOf 126 = .ok (.invokevirtual 44, 3) := by decide +kernel
theorem dX5_weightOf_129 : decode cX5_weightOf 129 = .ok (.aload_n 0, 1) := by decide +kernel
theorem dX5_weightOf_130 : decode cX5_weightOf 130 = .ok (.iload 4, 2) := by decide +kernel
theorem dX5_weightOf_132 : decode cX5_weightOf 132 = .ok (.iload 5, 2) := by decide +kernel
theorem dX5_weightOf_134 : decode cX5_weightOf 134 = .ok (.invokevirtual 44, 3) := by decide +kernel
theorem dX5_weightOf_137 : decode cX5_weightOf 137 = .ok (.iadd, 1) := by decide +kernel
theorem dX5_weightOf_138 : decode cX5_weightOf 138 = .ok (.invokestatic 48, 3) := by decide +kernel
theorem dX5_weightOf_141 : decode cX5_weightOf 141 = .ok (.invokestatic 48, 3) := by decide +kernel
theorem dX5_weightOf_144 : decode cX5_weightOf 144 = .ok (.istore 8, 2) := by decide +kernel
theorem dX5_weightOf_146 : decode cX5_weightOf 146 = .ok (.iload 8, 2) := by decide +kernel
theorem dX5_weightOf_148 : decode cX5_weightOf 148 = .ok (.aload_n 0, 1) := by decide +kernel
theorem dX5_weightOf_149 : decode cX5_weightOf 149 = .ok (.iload_n 3, 1) := by decide +kernel
theorem dX5_weightOf_150 : decode cX5_weightOf 150 = .ok (.iload 4, 2) := by decide +kernel
theorem dX5_weightOf_152 : decode cX5_weightOf 152 = .ok (.invokevirtual 44, 3) := by decide +kernel
theorem dX5_weightOf_155 : decode cX5_weightOf 155 = .ok (.isub, 1) := by decide +kernel
theorem dX5_weightOf_156 : decode cX5_weightOf 156 = .ok (.aload_n 0, 1) := by decide +kernel
theorem dX5_weightOf_157 : decode cX5_weightOf 157 = .ok (.iload 5, 2) := by decide +kernel
theorem dX5_weightOf_159 : decode cX5_weightOf 159 = .ok (.iload 6, 2) := by decide +kernel
theorem dX5_weightOf_161 : decode cX5_weightOf 161 = .ok (.invokevirtual 44, 3) := by decide +kernel
theorem dX5_weightOf_164 : decode cX5_weightOf 164 = .ok (.isub, 1) := by decide +kernel
theorem dX5_weightOf_165 : decode cX5_weightOf 165 = .ok (.istore 9, 2) := by decide +kernel
theorem dX5_weightOf_167 : decode cX5_weightOf 167 = .ok (.iload 9, 2) := by decide +kernel
theorem dX5_weightOf_169 : decode cX5_weightOf 169 = .ok (.iload_n 2, 1) := by decide +kernel
theorem dX5_weightOf_170 : decode cX5_weightOf 170 = .ok (.if_icmp .ge 8, 3) := by decide +kernel
theorem dX5_weightOf_173 : decode cX5_weightOf 173 = .ok (.iload 9, 2) := by decide +kernel
theorem dX5_weightOf_175 : decode cX5_weightOf 175 = .ok (.goto 4, 3) := by decide +kernel
theorem dX5_weightOf_178 : decode cX5_weightOf 178 = .ok (.iload_n 2, 1) := by decide +kernel
theorem dX5_weightOf_179 : decode cX5_weightOf 179 = .ok (.istore_n 2, 1) := by decide +kernel
theorem dX5_weightOf_180 : decode cX5_weightOf 180 = .ok (.iinc 6 1, 3) := by decide +kernel
theorem dX5_weightOf_183 : decode cX5_weightOf 183 = .ok (.goto (-142), 3) := by decide +kernel
theorem dX5_weightOf_186 : decode cX5_weightOf 186 = .ok (.iinc 5 1, 3) := by decide +kernel
theorem dX5_weightOf_189 : decode cX5_weightOf 189 = .ok (.goto (-161), 3) := by decide +kernel
theorem dX5_weightOf_192 : decode cX5_weightOf 192 = .ok (.iinc 4 1, 3) := by decide +kernel
theorem dX5_weightOf_195 : decode cX5_weightOf 195 = .ok (.goto (-179), 3) := by decide +kernel
theorem dX5_weightOf_198 : decode cX5_weightOf 198 = .ok (.iinc 3 1, 3) := by decide +kernel
theorem dX5_weightOf_201 : decode cX5_weightOf 201 = .ok (.goto (-196), 3) := by decide +kernel
theorem dX5_weightOf_204 : decode cX5_weightOf 204 = .ok (.iload_n 2, 1) := by decide +kernel
theorem dX5_weightOf_205 : decode cX5_weightOf 205 = .ok (.ireturn, 1) := by decide +kernel
theorem dX5_weight_0 : decode cX5_weight 0 = .ok (.aload_n 0, 1) := by decide +kernel
theorem dX5_weight_1 : decode cX5_weight 1 = .ok (.iload_n 1, 1) := by decide +kernel
theorem dX5_weight_2 : decode cX5_weight 2 = .ok (.invokevirtual 106, 3) := by decide +kernel
theorem dX5_weight_5 : decode cX5_weight 5 = .ok (.ifCond .ne 6, 3) := by decide +kernel
theorem dX5_weight_8 : decode cX5_weight 8 = .ok (.bipush (-102), 2) := by decide +kernel
theorem dX5_weight_10 : decode cX5_weight 10 = .ok (.ireturn, 1) := by decide +kernel
theorem dX5_weight_11 : decode cX5_weight 11 = .ok (.aload_n 0, 1) := by decide +kernel
theorem dX5_weight_12 : decode cX5_weight 12 = .ok (.iconst 0, 1) := by decide +kernel
theorem dX5_weight_13 : decode cX5_weight 13 = .ok (.invokevirtual 55, 3) := by decide +kernel
theorem dX5_weight_16 : decode cX5_weight 16 = .ok (.ifCond .le 8, 3) := by decide +kernel
theorem dX5_weight_19 : decode cX5_weight 19 = .ok (.bipush (-103), 2) := by decide +kernel
theorem dX5_weight_21 : decode cX5_weight 21 = .ok (.goto 8, 3) := by decide +kernel
theorem dX5_weight_24 : decode cX5_weight 24 = .ok (.aload_n 0, 1) := by decide +kernel
theorem dX5_weight_25 : decode cX5_weight 25 = .ok (.iload_n 1, 1) := by decide +kernel
theorem dX5_weight_26 : decode cX5_weight 26 = .ok (.invokevirtual 109, 3) := by decide +kernel
theorem dX5_weight_29 : decode cX5_weight 29 = .ok (.ireturn, 1) := by decide +kernel
theorem dX5_parts_0 : decode cX5_parts 0 = .ok (.aload_n 0, 1) := by decide +kernel
theorem dX5_parts_1 : decode cX5_parts 1 = .ok (.iconst 0, 1) := by decide +kernel
theorem dX5_parts_2 : decode cX5_parts 2 = .ok (.invokevirtual 55, 3) := by decide +kernel
theorem dX5_parts_5 : decode cX5_parts 5 = .ok (.ifCond .le 6, 3) := by decide +kernel
theorem dX5_parts_8 : decode cX5_parts 8 = .ok (.bipush (-103), 2) := by decide +kernel
theorem dX5_parts_10 : decode cX5_parts 10 = .ok (.ireturn, 1) := by decide +kernel
theorem dX5_parts_11 : decode cX5_parts 11 = .ok (.iconst 0, 1) := by decide +kernel
theorem dX5_parts_12 : decode cX5_parts 12 = .ok (.istore_n 1, 1) := by decide +kernel
theorem dX5_parts_13 : decode cX5_parts 13 = .ok (.iconst 1, 1) := by decide +kernel
theorem dX5_parts_14 : decode cX5_parts 14 = .ok (.istore_n 2, 1) := by decide +kernel
theorem dX5_parts_15 : decode cX5_parts 15 = .ok (.iload_n 2, 1) := by decide +kernel
theorem dX5_parts_16 : decode cX5_parts 16 = .ok (.iconst 1, 1) := by decide +kernel
theorem dX5_parts_17 : decode cX5_parts 17 = .ok (.aload_n 0, 1) := by decide +kernel
theorem dX5_parts_18 : decode cX5_parts 18 = .ok (.getfield 7, 3) := by decide +kernel
theorem dX5_parts_21 : decode cX5_parts 21 = .ok (.ishl, 1) := by decide +kernel
theorem dX5_parts_22 : decode cX5_parts 22 = .ok (.iconst 1, 1) := by decide +kernel
theorem dX5_parts_23 : decode cX5_parts 23 = .ok (.isub, 1) := by decide +kernel
theorem dX5_parts_24 : decode cX5_parts 24 = .ok (.if_icmp .ge 25, 3) := by decide +kernel
theorem dX5_parts_27 : decode cX5_parts 27 = .ok (.iload_n 1, 1) := by decide +kernel
theorem dX5_parts_28 : decode cX5_parts 28 = .ok (.aload_n 0, 1) := by decide +kernel
theorem dX5_parts_29 : decode cX5_parts 29 = .ok (.iload_n 2, 1) := by decide +kernel
theorem dX5_parts_30 : decode cX5_parts 30 = .ok (.invokevirtual 109, 3) := by decide +kernel
theorem dX5_parts_33 : decode cX5_parts 33 = .ok (.ifCond .le 7, 3) := by decide +kernel
theorem dX5_parts_36 : decode cX5_parts 36 = .ok (.iconst 1, 1) := by decide +kernel
theorem dX5_parts_37 : decode cX5_parts 37 = .ok (.goto 4, 3) := by decide +kernel
theorem dX5_parts_40 : decode cX5_parts 40 = .ok (.iconst 0, 1) := by decide +kernel
theorem dX5_parts_41 : decode cX5_parts 41 = .ok (.iadd, 1) := by decide +kernel
theorem dX5_parts_42 : decode cX5_parts 42 = .ok (.istore_n 1, 1) := by decide +kernel
theorem dX5_parts_43 : decode cX5_parts 43 = .ok (.iinc 2 2, 3) := by decide +kernel
theorem dX5_parts_46 : decode cX5_parts 46 = .ok (.goto (-31), 3) := by decide +kernel
theorem dX5_parts_49 : decode cX5_parts 49 = .ok (.iload_n 1, 1) := by decide +kernel
theorem dX5_parts_50 : decode cX5_parts 50 = .ok (.ireturn, 1) := by decide +kernel
theorem dX5_rest_0 : decode cX5_rest 0 = .ok (.aload_n 0, 1) := by decide +kernel
theorem dX5_rest_1 : decode cX5_rest 1 = .ok (.iload_n 1, 1) := by decide +kernel
theorem dX5_rest_2 : decode cX5_rest 2 = .ok (.invokevirtual 40, 3) := by decide +kernel
theorem dX5_rest_5 : decode cX5_rest 5 = .ok (.ifCond .eq 11, 3) := by decide +kernel
theorem dX5_rest_8 : decode cX5_rest 8 = .ok (.aload_n 0, 1) := by decide +kernel
theorem dX5_rest_9 : decode cX5_rest 9 = .ok (.iload_n 2, 1) := by decide +kernel
theorem dX5_rest_10 : decode cX5_rest 10 = .ok (.invokevirtual 40, 3) := by decide +kernel
theorem dX5_rest_13 : decode cX5_rest 13 = .ok (.ifCond .ne 7, 3) := by decide +kernel
theorem dX5_rest_16 : decode cX5_rest 16 = .ok (.sipush (-10101), 3) := by decide +kernel
theorem dX5_rest_19 : decode cX5_rest 19 = .ok (.ireturn, 1) := by decide +kernel
theorem dX5_rest_20 : decode cX5_rest 20 = .ok (.aload_n 0, 1) := by decide +kernel
theorem dX5_rest_21 : decode cX5_rest 21 = .ok (.iconst 0, 1) := by decide +kernel
theorem dX5_rest_22 : decode cX5_rest 22 = .ok (.invokevirtual 55, 3) := by decide +kernel
theorem dX5_rest_25 : decode cX5_rest 25 = .ok (.ifCond .le 7, 3) := by decide +kernel
theorem dX5_rest_28 : decode cX5_rest 28 = .ok (.sipush (-10103), 3) := by decide +kernel
theorem dX5_rest_31 : decode cX5_rest 31 = .ok (.ireturn, 1) := by decide +kernel
theorem dX5_rest_32 : decode cX5_rest 32 = .ok (.iconst 2, 1) := by decide +kernel
theorem dX5_rest_33 : decode cX5_rest 33 = .ok (.aload_n 0, 1) := by decide +kernel
theorem dX5_rest_34 : decode cX5_rest 34 = .ok (.iload_n 1, 1) := by decide +kernel
theorem dX5_rest_35 : decode cX5_rest 35 = .ok (.iload_n 2, 1) := by decide +kernel
theorem dX5_rest_36 : decode cX5_rest 36 = .ok (.invokevirtual 44, 3) := by decide +kernel
theorem dX5_rest_39 : decode cX5_rest 39 = .ok (.imul, 1) := by decide +kernel
theorem dX5_rest_40 : decode cX5_rest 40 = .ok (.istore_n 3, 1) := by decide +kernel
theorem dX5_rest_41 : decode cX5_rest 41 = .ok (.iconst 1, 1) := by decide +kernel
theorem dX5_rest_42 : decode cX5_rest 42 = .ok (.istore 4, 2) := by decide +kernel
theorem dX5_rest_44 : decode cX5_rest 44 = .ok (.iload 4, 2) := by decide +kernel
theorem dX5_rest_46 : decode cX5_rest 46 = .ok (.iconst 1, 1) := by decide +kernel
theorem dX5_rest_47 : decode cX5_rest 47 = .ok (.aload_n 0, 1) := by decide +kernel
theorem dX5_rest_48 : decode cX5_rest 48 = .ok (.getfield 7, 3) := by decide +kernel
theorem dX5_rest_51 : decode cX5_rest 51 = .ok (.ishl, 1) := by decide +kernel
theorem dX5_rest_52 : decode cX5_rest 52 = .ok (.iconst 1, 1) := by decide +kernel
theorem dX5_rest_53 : decode cX5_rest 53 = .ok (.isub, 1) := by decide +kernel
theorem dX5_rest_54 : decode cX5_rest 54 = .ok (.if_icmp .ge 37, 3) := by decide +kernel
theorem dX5_rest_57 : decode cX5_rest 57 = .ok (.iload_n 3, 1) := by decide +kernel
theorem dX5_rest_58 : decode cX5_rest 58 = .ok (.iload 4, 2) := by decide +kernel
theorem dX5_rest_60 : decode cX5_rest 60 = .ok (.iload_n 1, 1) := by decide +kernel
theorem dX5_rest_61 : decode cX5_rest 61 = .ok (.ishr, 1) := by decide +kernel
theorem dX5_rest_62 : decode cX5_rest 62 = .ok (.iload 4, 2) := by decide +kernel
theorem dX5_rest_64 : decode cX5_rest 64 = .ok (.iload_n 2, 1) := by decide +kernel
theorem dX5_rest_65 : decode cX5_rest 65 = .ok (.ishr, 1) := by decide +kernel
theorem dX5_rest_66 : decode cX5_rest 66 = .ok (.ixor, 1) := by decide +kernel
theorem dX5_rest_67 : decode cX5_rest 67 = .ok (.iconst 1, 1) := by decide +kernel
theorem dX5_rest_68 : decode cX5_rest 68 = .ok (.iand, 1) := by decide +kernel
theorem dX5_rest_69 : decode cX5_rest 69 = .ok (.iconst 1, 1) := by decide +kernel
theorem dX5_rest_70 : decode cX5_rest 70 = .ok (.if_icmp .ne 12, 3) := by decide +kernel
theorem dX5_rest_73 : decode cX5_rest 73 = .ok (.aload_n 0, 1) := by decide +kernel
theorem dX5_rest_74 : decode cX5_rest 74 = .ok (.iload 4, 2) := by decide +kernel
theorem dX5_rest_76 : decode cX5_rest 76 = .ok (.invokevirtual 109, 3) := by decide +kernel
theorem dX5_rest_79 : decode cX5_rest 79 = .ok (.goto 4, 3) := by decide +kernel
theorem dX5_rest_82 : decode cX5_rest 82 = .ok (.iconst 0, 1) := by decide +kernel
theorem dX5_rest_83 : decode cX5_rest 83 = .ok (.isub, 1) := by decide +kernel
theorem dX5_rest_84 : decode cX5_rest 84 = .ok (.istore_n 3, 1) := by decide +kernel
theorem dX5_rest_85 : decode cX5_rest 85 = .ok (.iinc 4 2, 3) := by decide +kernel
theorem dX5_rest_88 : decode cX5_rest 88 = .ok (.goto (-44), 3) := by decide +kernel
theorem dX5_rest_91 : decode cX5_rest 91 = .ok (.iload_n 3, 1) := by decide +kernel
theorem dX5_rest_92 : decode cX5_rest 92 = .ok (.ireturn, 1) := by decide +kernel
theorem dX5_orders_0 : decode cX5_orders 0 = .ok (.iconst 1, 1) := by decide +kernel
theorem dX5_orders_1 : decode cX5_orders 1 = .ok (.istore_n 1, 1) := by decide +kernel
theorem dX5_orders_2 : decode cX5_orders 2 = .ok (.iconst 2, 1) := by decide +kernel
theorem dX5_orders_3 : decode cX5_orders 3 = .ok (.istore_n 2, 1) := by decide +kernel
theorem dX5_orders_4 : decode cX5_orders 4 = .ok (.iload_n 2, 1) := by decide +kernel
theorem dX5_orders_5 : decode cX5_orders 5 = .ok (.aload_n 0, 1) := by decide +kernel
theorem dX5_orders_6 : decode cX5_orders 6 = .ok (.getfield 7, 3) := by decide +kernel
theorem dX5_orders_9 : decode cX5_orders 9 = .ok (.if_icmp .gt 13, 3) := by decide +kernel
theorem dX5_orders_12 : decode cX5_orders 12 = .ok (.iload_n 1, 1) := by decide +kernel
theorem dX5_orders_13 : decode cX5_orders 13 = .ok (.iload_n 2, 1) := by decide +kernel
theorem dX5_orders_14 : decode cX5_orders 14 = .ok (.imul, 1) := by decide +kernel
theorem dX5_orders_15 : decode cX5_orders 15 = .ok (.istore_n 1, 1) := by decide +kernel
theorem dX5_orders_16 : decode cX5_orders 16 = .ok (.iinc 2 1, 3) := by decide +kernel
theorem dX5_orders_19 : decode cX5_orders 19 = .ok (.goto (-15), 3) := by decide +kernel
theorem dX5_orders_22 : decode cX5_orders 22 = .ok (.iload_n 1, 1) := by decide +kernel
theorem dX5_orders_23 : decode cX5_orders 23 = .ok (.ireturn, 1) := by decide +kernel
theorem dX5_draw_0 : decode cX5_draw 0 = .ok (.iload_n 1, 1) := by decide +kernel
theorem dX5_draw_1 : decode cX5_draw 1 = .ok (.istore_n 2, 1) := by decide +kernel
theorem dX5_draw_2 : decode cX5_draw 2 = .ok (.aload_n 0, 1) := by decide +kernel
theorem dX5_draw_3 : decode cX5_draw 3 = .ok (.invokevirtual 112, 3) := by decide +kernel
theorem dX5_draw_6 : decode cX5_draw 6 = .ok (.istore_n 3, 1) := by decide +kernel
theorem dX5_draw_7 : decode cX5_draw 7 = .ok (.iconst 0, 1) := by decide +kernel
theorem dX5_draw_8 : decode cX5_draw 8 = .ok (.istore 4, 2) := by decide +kernel
theorem dX5_draw_10 : decode cX5_draw 10 = .ok (.iconst 0, 1) := by decide +kernel
theorem dX5_draw_11 : decode cX5_draw 11 = .ok (.istore 5, 2) := by decide +kernel
theorem dX5_draw_13 : decode cX5_draw 13 = .ok (.iload 5, 2) := by decide +kernel
theorem dX5_draw_15 : decode cX5_draw 15 = .ok (.aload_n 0, 1) := by decide +kernel
theorem dX5_draw_16 : decode cX5_draw 16 = .ok (.getfield 7, 3) := by decide +kernel
theorem dX5_draw_19 : decode cX5_draw 19 = .ok (.if_icmp .ge 92, 3) := by decide +kernel
theorem dX5_draw_22 : decode cX5_draw 22 = .ok (.iload_n 3, 1) := by decide +kernel
theorem dX5_draw_23 : decode cX5_draw 23 = .ok (.aload_n 0, 1) := by decide +kernel
theorem dX5_draw_24 : decode cX5_draw 24 = .ok (.getfield 7, 3) := by decide +kernel
theorem dX5_draw_27 : decode cX5_draw 27 = .ok (.iload 5, 2) := by decide +kernel
theorem dX5_draw_29 : decode cX5_draw 29 = .ok (.isub, 1) := by decide +kernel
theorem dX5_draw_30 : decode cX5_draw 30 = .ok (.idiv, 1) := by decide +kernel
theorem dX5_draw_31 : decode cX5_draw 31 = .ok (.istore_n 3, 1) := by decide +kernel
theorem dX5_draw_32 : decode cX5_draw 32 = .ok (.iload_n 2, 1) := by decide +kernel
theorem dX5_draw_33 : decode cX5_draw 33 = .ok (.iload_n 3, 1) := by decide +kernel
theorem dX5_draw_34 : decode cX5_draw 34 = .ok (.idiv, 1) := by decide +kernel
theorem dX5_draw_35 : decode cX5_draw 35 = .ok (.istore 6, 2) := by decide +kernel
theorem dX5_draw_37 : decode cX5_draw 37 = .ok (.iload_n 2, 1) := by decide +kernel
theorem dX5_draw_38 : decode cX5_draw 38 = .ok (.iload_n 3, 1) := by decide +kernel
theorem dX5_draw_39 : decode cX5_draw 39 = .ok (.irem, 1) := by decide +kernel
theorem dX5_draw_40 : decode cX5_draw 40 = .ok (.istore_n 2, 1) := by decide +kernel
theorem dX5_draw_41 : decode cX5_draw 41 = .ok (.iconst 0, 1) := by decide +kernel
theorem dX5_draw_42 : decode cX5_draw 42 = .ok (.istore 7, 2) := by decide +kernel
theorem dX5_draw_44 : decode cX5_draw 44 = .ok (.iload 4, 2) := by decide +kernel
theorem dX5_draw_46 : decode cX5_draw 46 = .ok (.iload 7, 2) := by decide +kernel
theorem dX5_draw_48 : decode cX5_draw 48 = .ok (.ishr, 1) := by decide +kernel
theorem dX5_draw_49 : decode cX5_draw 49 = .ok (.iconst 1, 1) := by decide +kernel
theorem dX5_draw_50 : decode cX5_draw 50 = .ok (.iand, 1) := by decide +kernel
theorem dX5_draw_51 : decode cX5_draw 51 = .ok (.iconst 1, 1) := by decide +kernel
theorem dX5_draw_52 : decode cX5_draw 52 = .ok (.if_icmp .eq 8, 3) := by decide +kernel
theorem dX5_draw_55 : decode cX5_draw 55 = .ok (.iload 6, 2) := by decide +kernel
theorem dX5_draw_57 : decode cX5_draw 57 = .ok (.ifCond .le 30, 3) := by decide +kernel
theorem dX5_draw_60 : decode cX5_draw 60 = .ok (.iload 6, 2) := by decide +kernel
theorem dX5_draw_62 : decode cX5_draw 62 = .ok (.iload 4, 2) := by decide +kernel
theorem dX5_draw_64 : decode cX5_draw 64 = .ok (.iload 7, 2) := by decide +kernel
theorem dX5_draw_66 : decode cX5_draw 66 = .ok (.ishr, 1) := by decide +kernel
theorem dX5_draw_67 : decode cX5_draw 67 = .ok (.iconst 1, 1) := by decide +kernel
theorem dX5_draw_68 : decode cX5_draw 68 = .ok (.iand, 1) := by decide +kernel
theorem dX5_draw_69 : decode cX5_draw 69 = .ok (.iconst 1, 1) := by decide +kernel
theorem dX5_draw_70 : decode cX5_draw 70 = .ok (.if_icmp .ne 7, 3) := by decide +kernel
theorem dX5_draw_73 : decode cX5_draw 73 = .ok (.iconst 0, 1) := by decide +kernel
theorem dX5_draw_74 : decode cX5_draw 74 = .ok (.goto 4, 3) := by decide +kernel
theorem dX5_draw_77 : decode cX5_draw 77 = .ok (.iconst 1, 1) := by decide +kernel
theorem dX5_draw_78 : decode cX5_draw 78 = .ok (.isub, 1) := by decide +kernel
theorem dX5_draw_79 : decode cX5_draw 79 = .ok (.istore 6, 2) := by decide +kernel
theorem dX5_draw_81 : decode cX5_draw 81 = .ok (.iinc 7 1, 3) := by decide +kernel
theorem dX5_draw_84 : decode cX5_draw 84 = .ok (.goto (-40), 3) := by decide +kernel
theorem dX5_draw_87 : decode cX5_draw 87 = .ok (.iload 4, 2) := by decide +kernel
theorem dX5_draw_89 : decode cX5_draw 89 = .ok (.iconst 1, 1) := by decide +kernel
theorem dX5_draw_90 : decode cX5_draw 90 = .ok (.iload 7, 2) := by decide +kernel
theorem dX5_draw_92 : decode cX5_draw 92 = .ok (.ishl, 1) := by decide +kernel
theorem dX5_draw_93 : decode cX5_draw 93 = .ok (.ior, 1) := by decide +kernel
theorem dX5_draw_94 : decode cX5_draw 94 = .ok (.istore 4, 2) := by decide +kernel
theorem dX5_draw_96 : decode cX5_draw 96 = .ok (.aload_n 0, 1) := by decide +kernel
theorem dX5_draw_97 : decode cX5_draw 97 = .ok (.getfield 30, 3) := by decide +kernel
theorem dX5_draw_100 : decode cX5_draw 100 = .ok (.iload 5, 2) := by decide +kernel
theorem dX5_draw_102 : decode cX5_draw 102 = .ok (.iload 7, 2) := by decide +kernel
theorem dX5_draw_104 : decode cX5_draw 104 = .ok (.iastore, 1) := by decide +kernel
theorem dX5_draw_105 : decode cX5_draw 105 = .ok (.iinc 5 1, 3) := by decide +kernel
theorem dX5_draw_108 : decode cX5_draw 108 = .ok (.goto (-95), 3) := by decide +kernel
theorem dX5_draw_111 : decode cX5_draw 111 = .ok (.return_, 1) := by decide +kernel
theorem dX5_goalOf_0 : decode cX5_goalOf 0 = .ok (.iconst 0, 1) := by decide +kernel
theorem dX5_goalOf_1 : decode cX5_goalOf 1 = .ok (.istore_n 3, 1) := by decide +kernel
theorem dX5_goalOf_2 : decode cX5_goalOf 2 = .ok (.aload_n 0, 1) := by decide +kernel
theorem dX5_goalOf_3 : decode cX5_goalOf 3 = .ok (.iload_n 1, 1) := by decide +kernel
theorem dX5_goalOf_4 : decode cX5_goalOf 4 = .ok (.aload_n 0, 1) := by decide +kernel
theorem dX5_goalOf_5 : decode cX5_goalOf 5 = .ok (.getfield 30, 3) := by decide +kernel
theorem dX5_goalOf_8 : decode cX5_goalOf 8 = .ok (.iload_n 3, 1) := by decide +kernel
theorem dX5_goalOf_9 : decode cX5_goalOf 9 = .ok (.iaload, 1) := by decide +kernel
theorem dX5_goalOf_10 : decode cX5_goalOf 10 = .ok (.invokevirtual 44, 3) := by decide +kernel
theorem dX5_goalOf_13 : decode cX5_goalOf 13 = .ok (.iload_n 2, 1) := by decide +kernel
theorem dX5_goalOf_14 : decode cX5_goalOf 14 = .ok (.if_icmp .le 9, 3) := by decide +kernel
theorem dX5_goalOf_17 : decode cX5_goalOf 17 = .ok (.iinc 3 1, 3) := by decide +kernel
theorem dX5_goalOf_20 : decode cX5_goalOf 20 = .ok (.goto (-18), 3) := by decide +kernel
theorem dX5_goalOf_23 : decode cX5_goalOf 23 = .ok (.aload_n 0, 1) := by decide +kernel
theorem dX5_goalOf_24 : decode cX5_goalOf 24 = .ok (.getfield 30, 3) := by decide +kernel
theorem dX5_goalOf_27 : decode cX5_goalOf 27 = .ok (.iload_n 3, 1) := by decide +kernel
theorem dX5_goalOf_28 : decode cX5_goalOf 28 = .ok (.iaload, 1) := by decide +kernel
theorem dX5_goalOf_29 : decode cX5_goalOf 29 = .ok (.ireturn, 1) := by decide +kernel
theorem dX5_drawn_0 : decode cX5_drawn 0 = .ok (.aload_n 0, 1) := by decide +kernel
theorem dX5_drawn_1 : decode cX5_drawn 1 = .ok (.iload_n 1, 1) := by decide +kernel
theorem dX5_drawn_2 : decode cX5_drawn 2 = .ok (.invokevirtual 40, 3) := by decide +kernel
theorem dX5_drawn_5 : decode cX5_drawn 5 = .ok (.ifCond .eq 11, 3) := by decide +kernel
theorem dX5_drawn_8 : decode cX5_drawn 8 = .ok (.aload_n 0, 1) := by decide +kernel
theorem dX5_drawn_9 : decode cX5_drawn 9 = .ok (.iload_n 2, 1) := by decide +kernel
theorem dX5_drawn_10 : decode cX5_drawn 10 = .ok (.invokevirtual 40, 3) := by decide +kernel
theorem dX5_drawn_13 : decode cX5_drawn 13 = .ok (.ifCond .ne 6, 3) := by decide +kernel
theorem dX5_drawn_16 : decode cX5_drawn 16 = .ok (.bipush (-101), 2) := by decide +kernel
theorem dX5_drawn_18 : decode cX5_drawn 18 = .ok (.ireturn, 1) := by decide +kernel
theorem dX5_drawn_19 : decode cX5_drawn 19 = .ok (.iload_n 3, 1) := by decide +kernel
theorem dX5_drawn_20 : decode cX5_drawn 20 = .ok (.iconst 0, 1) := by decide +kernel
theorem dX5_drawn_21 : decode cX5_drawn 21 = .ok (.sipush 1000, 3) := by decide +kernel
theorem dX5_drawn_24 : decode cX5_drawn 24 = .ok (.invokestatic 36, 3) := by decide +kernel
theorem dX5_drawn_27 : decode cX5_drawn 27 = .ok (.ifCond .ne 6, 3) := by decide +kernel
theorem dX5_drawn_30 : decode cX5_drawn 30 = .ok (.bipush (-102), 2) := by decide +kernel
theorem dX5_drawn_32 : decode cX5_drawn 32 = .ok (.ireturn, 1) := by decide +kernel
theorem dX5_drawn_33 : decode cX5_drawn 33 = .ok (.iconst 0, 1) := by decide +kernel
theorem dX5_drawn_34 : decode cX5_drawn 34 = .ok (.istore 4, 2) := by decide +kernel
theorem dX5_drawn_36 : decode cX5_drawn 36 = .ok (.iconst 0, 1) := by decide +kernel
theorem dX5_drawn_37 : decode cX5_drawn 37 = .ok (.istore 5, 2) := by decide +kernel
theorem dX5_drawn_39 : decode cX5_drawn 39 = .ok (.iload 5, 2) := by decide +kernel
theorem dX5_drawn_41 : decode cX5_drawn 41 = .ok (.aload_n 0, 1) := by decide +kernel
theorem dX5_drawn_42 : decode cX5_drawn 42 = .ok (.invokevirtual 112, 3) := by decide +kernel
theorem dX5_drawn_45 : decode cX5_drawn 45 = .ok (.if_icmp .ge 40, 3) := by decide +kernel
theorem dX5_drawn_48 : decode cX5_drawn 48 = .ok (.aload_n 0, 1) := by decide +kernel
theorem dX5_drawn_49 : decode cX5_drawn 49 = .ok (.iload 5, 2) := by decide +kernel
theorem dX5_drawn_51 : decode cX5_drawn 51 = .ok (.invokevirtual 115, 3) := by decide +kernel
theorem dX5_drawn_54 : decode cX5_drawn 54 = .ok (.iload 4, 2) := by decide +kernel
theorem dX5_drawn_56 : decode cX5_drawn 56 = .ok (.aload_n 0, 1) := by decide +kernel
theorem dX5_drawn_57 : decode cX5_drawn 57 = .ok (.iload_n 1, 1) := by decide +kernel
theorem dX5_drawn_58 : decode cX5_drawn 58 = .ok (.iload_n 3, 1) := by decide +kernel
theorem dX5_drawn_59 : decode cX5_drawn 59 = .ok (.invokevirtual 118, 3) := by decide +kernel
theorem dX5_drawn_62 : decode cX5_drawn 62 = .ok (.aload_n 0, 1) := by decide +kernel
theorem dX5_drawn_63 : decode cX5_drawn 63 = .ok (.iload_n 2, 1) := by decide +kernel
theorem dX5_drawn_64 : decode cX5_drawn 64 = .ok (.iload_n 3, 1) := by decide +kernel
theorem dX5_drawn_65 : decode cX5_drawn 65 = .ok (.invokevirtual 118, 3) := by decide +kernel
theorem dX5_drawn_68 : decode cX5_drawn 68 = .ok (.if_icmp .ne 7, 3) := by decide +kernel
theorem dX5_drawn_71 : decode cX5_drawn 71 = .ok (.iconst 0, 1) := by decide +kernel
theorem dX5_drawn_72 : decode cX5_drawn 72 = .ok (.goto 4, 3) := by decide +kernel
theorem dX5_drawn_75 : decode cX5_drawn 75 = .ok (.iconst 1, 1) := by decide +kernel
theorem dX5_drawn_76 : decode cX5_drawn 76 = .ok (.iadd, 1) := by decide +kernel
theorem dX5_drawn_77 : decode cX5_drawn 77 = .ok (.istore 4, 2) := by decide +kernel
theorem dX5_drawn_79 : decode cX5_drawn 79 = .ok (.iinc 5 1, 3) := by decide +kernel
theorem dX5_drawn_82 : decode cX5_drawn 82 = .ok (.goto (-43), 3) := by decide +kernel
theorem dX5_drawn_85 : decode cX5_drawn 85 = .ok (.iload 4, 2) := by decide +kernel
theorem dX5_drawn_87 : decode cX5_drawn 87 = .ok (.ireturn, 1) := by decide +kernel
theorem dX5_goes_0 : decode cX5_goes 0 = .ok (.aload_n 0, 1) := by decide +kernel
theorem dX5_goes_1 : decode cX5_goes 1 = .ok (.iload_n 1, 1) := by decide +kernel
theorem dX5_goes_2 : decode cX5_goes 2 = .ok (.invokevirtual 40, 3) := by decide +kernel
theorem dX5_goes_5 : decode cX5_goes 5 = .ok (.ifCond .ne 6, 3) := by decide +kernel
theorem dX5_goes_8 : decode cX5_goes 8 = .ok (.bipush (-101), 2) := by decide +kernel
theorem dX5_goes_10 : decode cX5_goes 10 = .ok (.ireturn, 1) := by decide +kernel
theorem dX5_goes_11 : decode cX5_goes 11 = .ok (.iload_n 2, 1) := by decide +kernel
theorem dX5_goes_12 : decode cX5_goes 12 = .ok (.iconst 0, 1) := by decide +kernel
theorem dX5_goes_13 : decode cX5_goes 13 = .ok (.aload_n 0, 1) := by decide +kernel
theorem dX5_goes_14 : decode cX5_goes 14 = .ok (.invokevirtual 112, 3) := by decide +kernel
theorem dX5_goes_17 : decode cX5_goes 17 = .ok (.iconst 1, 1) := by decide +kernel
theorem dX5_goes_18 : decode cX5_goes 18 = .ok (.isub, 1) := by decide +kernel
theorem dX5_goes_19 : decode cX5_goes 19 = .ok (.invokestatic 36, 3) := by decide +kernel
theorem dX5_goes_22 : decode cX5_goes 22 = .ok (.ifCond .eq 14, 3) := by decide +kernel
theorem dX5_goes_25 : decode cX5_goes 25 = .ok (.iload_n 3, 1) := by decide +kernel
theorem dX5_goes_26 : decode cX5_goes 26 = .ok (.iconst 0, 1) := by decide +kernel
theorem dX5_goes_27 : decode cX5_goes 27 = .ok (.sipush 1000, 3) := by decide +kernel
theorem dX5_goes_30 : decode cX5_goes 30 = .ok (.invokestatic 36, 3) := by decide +kernel
theorem dX5_goes_33 : decode cX5_goes 33 = .ok (.ifCond .ne 6, 3) := by decide +kernel
theorem dX5_goes_36 : decode cX5_goes 36 = .ok (.bipush (-102), 2) := by decide +kernel
theorem dX5_goes_38 : decode cX5_goes 38 = .ok (.ireturn, 1) := by decide +kernel
theorem dX5_goes_39 : decode cX5_goes 39 = .ok (.aload_n 0, 1) := by decide +kernel
theorem dX5_goes_40 : decode cX5_goes 40 = .ok (.iload_n 2, 1) := by decide +kernel
theorem dX5_goes_41 : decode cX5_goes 41 = .ok (.invokevirtual 115, 3) := by decide +kernel
theorem dX5_goes_44 : decode cX5_goes 44 = .ok (.aload_n 0, 1) := by decide +kernel
theorem dX5_goes_45 : decode cX5_goes 45 = .ok (.iload_n 1, 1) := by decide +kernel
theorem dX5_goes_46 : decode cX5_goes 46 = .ok (.iload_n 3, 1) := by decide +kernel
theorem dX5_goes_47 : decode cX5_goes 47 = .ok (.invokevirtual 118, 3) := by decide +kernel
theorem dX5_goes_50 : decode cX5_goes 50 = .ok (.ireturn, 1) := by decide +kernel
theorem dX5_count_0 : decode cX5_count 0 = .ok (.iconst 0, 1) := by decide +kernel
theorem dX5_count_1 : decode cX5_count 1 = .ok (.istore_n 2, 1) := by decide +kernel
theorem dX5_count_2 : decode cX5_count 2 = .ok (.iconst 0, 1) := by decide +kernel
theorem dX5_count_3 : decode cX5_count 3 = .ok (.istore_n 3, 1) := by decide +kernel
theorem dX5_count_4 : decode cX5_count 4 = .ok (.iconst 0, 1) := by decide +kernel
theorem dX5_count_5 : decode cX5_count 5 = .ok (.istore 4, 2) := by decide +kernel
theorem dX5_count_7 : decode cX5_count 7 = .ok (.iload 4, 2) := by decide +kernel
theorem dX5_count_9 : decode cX5_count 9 = .ok (.aload_n 0, 1) := by decide +kernel
theorem dX5_count_10 : decode cX5_count 10 = .ok (.getfield 7, 3) := by decide +kernel
theorem dX5_count_13 : decode cX5_count 13 = .ok (.if_icmp .ge 54, 3) := by decide +kernel
theorem dX5_count_16 : decode cX5_count 16 = .ok (.iload 4, 2) := by decide +kernel
theorem dX5_count_18 : decode cX5_count 18 = .ok (.iconst 1, 1) := by decide +kernel
theorem dX5_count_19 : decode cX5_count 19 = .ok (.iadd, 1) := by decide +kernel
theorem dX5_count_20 : decode cX5_count 20 = .ok (.istore 5, 2) := by decide +kernel
theorem dX5_count_22 : decode cX5_count 22 = .ok (.iload 5, 2) := by decide +kernel
theorem dX5_count_24 : decode cX5_count 24 = .ok (.aload_n 0, 1) := by decide +kernel
theorem dX5_count_25 : decode cX5_count 25 = .ok (.getfield 7, 3) := by decide +kernel
theorem dX5_count_28 : decode cX5_count 28 = .ok (.if_icmp .ge 33, 3) := by decide +kernel
theorem dX5_count_31 : decode cX5_count 31 = .ok (.iload_n 2, 1) := by decide +kernel
theorem dX5_count_32 : decode cX5_count 32 = .ok (.aload_n 0, 1) := by decide +kernel
theorem dX5_count_33 : decode cX5_count 33 = .ok (.iload 4, 2) := by decide +kernel
theorem dX5_count_35 : decode cX5_count 35 = .ok (.iload 5, 2) := by decide +kernel
theorem dX5_count_37 : decode cX5_count 37 = .ok (.invokevirtual 44, 3) := by decide +kernel
theorem dX5_count_40 : decode cX5_count 40 = .ok (.iadd, 1) := by decide +kernel
theorem dX5_count_41 : decode cX5_count 41 = .ok (.istore_n 2, 1) := by decide +kernel
theorem dX5_count_42 : decode cX5_count 42 = .ok (.iload_n 3, 1) := by decide +kernel
theorem dX5_count_43 : decode cX5_count 43 = .ok (.aload_n 0, 1) := by decide +kernel
theorem dX5_count_44 : decode cX5_count 44 = .ok (.iload 4, 2) := by decide +kernel
theorem dX5_count_46 : decode cX5_count 46 = .ok (.iload 5, 2) := by decide +kernel
theorem dX5_count_48 : decode cX5_count 48 = .ok (.invokevirtual 44, 3) := by decide +kernel
theorem dX5_count_51 : decode cX5_count 51 = .ok (.invokestatic 48, 3) := by decide +kernel
theorem dX5_count_54 : decode cX5_count 54 = .ok (.istore_n 3, 1) := by decide +kernel
theorem dX5_count_55 : decode cX5_count 55 = .ok (.iinc 5 1, 3) := by decide +kernel
theorem dX5_count_58 : decode cX5_count 58 = .ok (.goto (-36), 3) := by decide +kernel
theorem dX5_count_61 : decode cX5_count 61 = .ok (.iinc 4 1, 3) := by decide +kernel
theorem dX5_count_64 : decode cX5_count 64 = .ok (.goto (-57), 3) := by decide +kernel
theorem dX5_count_67 : decode cX5_count 67 = .ok (.iload_n 1, 1) := by decide +kernel
theorem dX5_count_68 : decode cX5_count 68 = .ok (.ifCond .ne 10, 3) := by decide +kernel
theorem dX5_count_71 : decode cX5_count 71 = .ok (.aload_n 0, 1) := by decide +kernel
theorem dX5_count_72 : decode cX5_count 72 = .ok (.getfield 7, 3) := by decide +kernel
theorem dX5_count_75 : decode cX5_count 75 = .ok (.goto 35, 3) := by decide +kernel
theorem dX5_count_78 : decode cX5_count 78 = .ok (.iload_n 1, 1) := by decide +kernel
theorem dX5_count_79 : decode cX5_count 79 = .ok (.iconst 1, 1) := by decide +kernel
theorem dX5_count_80 : decode cX5_count 80 = .ok (.if_icmp .ne 7, 3) := by decide +kernel
theorem dX5_count_83 : decode cX5_count 83 = .ok (.iload_n 2, 1) := by decide +kernel
theorem dX5_count_84 : decode cX5_count 84 = .ok (.goto 26, 3) := by decide +kernel
theorem dX5_count_87 : decode cX5_count 87 = .ok (.iload_n 1, 1) := by decide +kernel
theorem dX5_count_88 : decode cX5_count 88 = .ok (.iconst 2, 1) := by decide +kernel
theorem dX5_count_89 : decode cX5_count 89 = .ok (.if_icmp .ne 7, 3) := by decide +kernel
theorem dX5_count_92 : decode cX5_count 92 = .ok (.iload_n 3, 1) := by decide +kernel
theorem dX5_count_93 : decode cX5_count 93 = .ok (.goto 17, 3) := by decide +kernel
theorem dX5_count_96 : decode cX5_count 96 = .ok (.iload_n 1, 1) := by decide +kernel
theorem dX5_count_97 : decode cX5_count 97 = .ok (.iconst 3, 1) := by decide +kernel
theorem dX5_count_98 : decode cX5_count 98 = .ok (.if_icmp .ne 10, 3) := by decide +kernel
theorem dX5_count_101 : decode cX5_count 101 = .ok (.aload_n 0, 1) := by decide +kernel
theorem dX5_count_102 : decode cX5_count 102 = .ok (.getfield 103, 3) := by decide +kernel
theorem dX5_count_105 : decode cX5_count 105 = .ok (.goto 5, 3) := by decide +kernel
theorem dX5_count_108 : decode cX5_count 108 = .ok (.bipush (-102), 2) := by decide +kernel
theorem dX5_count_110 : decode cX5_count 110 = .ok (.ireturn, 1) := by decide +kernel
theorem dX5_mix_0 : decode cX5_mix 0 = .ok (.aload_n 0, 1) := by decide +kernel
theorem dX5_mix_1 : decode cX5_mix 1 = .ok (.ldc2_w 121, 3) := by decide +kernel
theorem dX5_mix_4 : decode cX5_mix 4 = .ok (.aload_n 0, 1) := by decide +kernel
theorem dX5_mix_5 : decode cX5_mix 5 = .ok (.getfield 123, 3) := by decide +kernel
theorem dX5_mix_8 : decode cX5_mix 8 = .ok (.lmul, 1) := by decide +kernel
theorem dX5_mix_9 : decode cX5_mix 9 = .ok (.lload_n 1, 1) := by decide +kernel
theorem dX5_mix_10 : decode cX5_mix 10 = .ok (.ladd, 1) := by decide +kernel
theorem dX5_mix_11 : decode cX5_mix 11 = .ok (.putfield 123, 3) := by decide +kernel
theorem dX5_mix_14 : decode cX5_mix 14 = .ok (.return_, 1) := by decide +kernel
theorem dX5_digest_0 : decode cX5_digest 0 = .ok (.aload_n 0, 1) := by decide +kernel
theorem dX5_digest_1 : decode cX5_digest 1 = .ok (.ldc2_w 126, 3) := by decide +kernel
theorem dX5_digest_4 : decode cX5_digest 4 = .ok (.putfield 123, 3) := by decide +kernel
theorem dX5_digest_7 : decode cX5_digest 7 = .ok (.aload_n 0, 1) := by decide +kernel
theorem dX5_digest_8 : decode cX5_digest 8 = .ok (.aload_n 0, 1) := by decide +kernel
theorem dX5_digest_9 : decode cX5_digest 9 = .ok (.getfield 7, 3) := by decide +kernel
theorem dX5_digest_12 : decode cX5_digest 12 = .ok (.i2l, 1) := by decide +kernel
theorem dX5_digest_13 : decode cX5_digest 13 = .ok (.invokevirtual 128, 3) := by decide +kernel
theorem dX5_digest_16 : decode cX5_digest 16 = .ok (.aload_n 0, 1) := by decide +kernel
theorem dX5_digest_17 : decode cX5_digest 17 = .ok (.iconst 0, 1) := by decide +kernel
theorem dX5_digest_18 : decode cX5_digest 18 = .ok (.invokevirtual 59, 3) := by decide +kernel
theorem dX5_digest_21 : decode cX5_digest 21 = .ok (.iconst 0, 1) := by decide +kernel
theorem dX5_digest_22 : decode cX5_digest 22 = .ok (.istore_n 1, 1) := by decide +kernel
theorem dX5_digest_23 : decode cX5_digest 23 = .ok (.iload_n 1, 1) := by decide +kernel
theorem dX5_digest_24 : decode cX5_digest 24 = .ok (.aload_n 0, 1) := by decide +kernel
theorem dX5_digest_25 : decode cX5_digest 25 = .ok (.getfield 7, 3) := by decide +kernel
theorem dX5_digest_28 : decode cX5_digest 28 = .ok (.if_icmp .ge 54, 3) := by decide +kernel
theorem dX5_digest_31 : decode cX5_digest 31 = .ok (.iload_n 1, 1) := by decide +kernel
theorem dX5_digest_32 : decode cX5_digest 32 = .ok (.iconst 1, 1) := by decide +kernel
theorem dX5_digest_33 : decode cX5_digest 33 = .ok (.iadd, 1) := by decide +kernel
theorem dX5_digest_34 : decode cX5_digest 34 = .ok (.istore_n 2, 1) := by decide +kernel
theorem dX5_digest_35 : decode cX5_digest 35 = .ok (.iload_n 2, 1) := by decide +kernel
theorem dX5_digest_36 : decode cX5_digest 36 = .ok (.aload_n 0, 1) := by decide +kernel
theorem dX5_digest_37 : decode cX5_digest 37 = .ok (.getfield 7, 3) := by decide +kernel
theorem dX5_digest_40 : decode cX5_digest 40 = .ok (.if_icmp .ge 36, 3) := by decide +kernel
theorem dX5_digest_43 : decode cX5_digest 43 = .ok (.aload_n 0, 1) := by decide +kernel
theorem dX5_digest_44 : decode cX5_digest 44 = .ok (.aload_n 0, 1) := by decide +kernel
theorem dX5_digest_45 : decode cX5_digest 45 = .ok (.iload_n 1, 1) := by decide +kernel
theorem dX5_digest_46 : decode cX5_digest 46 = .ok (.iload_n 2, 1) := by decide +kernel
theorem dX5_digest_47 : decode cX5_digest 47 = .ok (.invokevirtual 44, 3) := by decide +kernel
theorem dX5_digest_50 : decode cX5_digest 50 = .ok (.i2l, 1) := by decide +kernel
theorem dX5_digest_51 : decode cX5_digest 51 = .ok (.invokevirtual 128, 3) := by decide +kernel
theorem dX5_digest_54 : decode cX5_digest 54 = .ok (.aload_n 0, 1) := by decide +kernel
theorem dX5_digest_55 : decode cX5_digest 55 = .ok (.aload_n 0, 1) := by decide +kernel
theorem dX5_digest_56 : decode cX5_digest 56 = .ok (.getfield 17, 3) := by decide +kernel
theorem dX5_digest_59 : decode cX5_digest 59 = .ok (.bipush 6, 2) := by decide +kernel
theorem dX5_digest_61 : decode cX5_digest 61 = .ok (.iload_n 1, 1) := by decide +kernel
theorem dX5_digest_62 : decode cX5_digest 62 = .ok (.imul, 1) := by decide +kernel
theorem dX5_digest_63 : decode cX5_digest 63 = .ok (.iload_n 2, 1) := by decide +kernel
theorem dX5_digest_64 : decode cX5_digest 64 = .ok (.iadd, 1) := by decide +kernel
theorem dX5_digest_65 : decode cX5_digest 65 = .ok (.iaload, 1) := by decide +kernel
theorem dX5_digest_66 : decode cX5_digest 66 = .ok (.i2l, 1) := by decide +kernel
theorem dX5_digest_67 : decode cX5_digest 67 = .ok (.invokevirtual 128, 3) := by decide +kernel
theorem dX5_digest_70 : decode cX5_digest 70 = .ok (.iinc 2 1, 3) := by decide +kernel
theorem dX5_digest_73 : decode cX5_digest 73 = .ok (.goto (-38), 3) := by decide +kernel
theorem dX5_digest_76 : decode cX5_digest 76 = .ok (.iinc 1 1, 3) := by decide +kernel
theorem dX5_digest_79 : decode cX5_digest 79 = .ok (.goto (-56), 3) := by decide +kernel
theorem dX5_digest_82 : decode cX5_digest 82 = .ok (.aload_n 0, 1) := by decide +kernel
theorem dX5_digest_83 : decode cX5_digest 83 = .ok (.aload_n 0, 1) := by decide +kernel
theorem dX5_digest_84 : decode cX5_digest 84 = .ok (.getfield 103, 3) := by decide +kernel
theorem dX5_digest_87 : decode cX5_digest 87 = .ok (.i2l, 1) := by decide +kernel
theorem dX5_digest_88 : decode cX5_digest 88 = .ok (.invokevirtual 128, 3) := by decide +kernel
theorem dX5_digest_91 : decode cX5_digest 91 = .ok (.aload_n 0, 1) := by decide +kernel
theorem dX5_digest_92 : decode cX5_digest 92 = .ok (.getfield 123, 3) := by decide +kernel
theorem dX5_digest_95 : decode cX5_digest 95 = .ok (.lreturn, 1) := by decide +kernel
end
section
theorem dL_law_0 : decode cL_law 0 = .ok (.new 7, 3) := by decide +kernel
theorem dL_law_3 : decode cL_law 3 = .ok (.dup, 1) := by decide +kernel
theorem dL_law_4 : decode cL_law 4 = .ok (.invokespecial 9, 3) := by decide +kernel
theorem dL_law_7 : decode cL_law 7 = .ok (.astore_n 1, 1) := by decide +kernel
theorem dL_law_8 : decode cL_law 8 = .ok (.new 10, 3) := by decide +kernel
theorem dL_law_11 : decode cL_law 11 = .ok (.dup, 1) := by decide +kernel
theorem dL_law_12 : decode cL_law 12 = .ok (.invokespecial 12, 3) := by decide +kernel
theorem dL_law_15 : decode cL_law 15 = .ok (.astore_n 2, 1) := by decide +kernel
theorem dL_law_16 : decode cL_law 16 = .ok (.iconst 0, 1) := by decide +kernel
theorem dL_law_17 : decode cL_law 17 = .ok (.istore_n 3, 1) := by decide +kernel
theorem dL_law_18 : decode cL_law 18 = .ok (.iload_n 3, 1) := by decide +kernel
theorem dL_law_19 : decode cL_law 19 = .ok (.aload_n 0, 1) := by decide +kernel
theorem dL_law_20 : decode cL_law 20 = .ok (.arraylength, 1) := by decide +kernel
theorem dL_law_21 : decode cL_law 21 = .ok (.iconst 4, 1) := by decide +kernel
theorem dL_law_22 : decode cL_law 22 = .ok (.isub, 1) := by decide +kernel
theorem dL_law_23 : decode cL_law 23 = .ok (.if_icmp .gt 761, 3) := by decide +kernel
theorem dL_law_26 : decode cL_law 26 = .ok (.aload_n 0, 1) := by decide +kernel
theorem dL_law_27 : decode cL_law 27 = .ok (.iload_n 3, 1) := by decide +kernel
theorem dL_law_28 : decode cL_law 28 = .ok (.iaload, 1) := by decide +kernel
theorem dL_law_29 : decode cL_law 29 = .ok (.bipush 31, 2) := by decide +kernel
theorem dL_law_31 : decode cL_law 31 = .ok (.iand, 1) := by decide +kernel
theorem dL_law_32 : decode cL_law 32 = .ok (.tableswitch 746 0 23 #[112, 135, 178, 211, 234, 257, 270, 303, 316, 339, 352, 365, 408, 451, 485, 508, 531, 554, 577, 590, 623, 666, 709, 732], 112) := by decide +kernel
theorem dL_law_144 : decode cL_law 144 = .ok (.aload_n 1, 1) := by decide +kernel
theorem dL_law_145 : decode cL_law 145 = .ok (.aload_n 0, 1) := by decide +kernel
theorem dL_law_146 : decode cL_law 146 = .ok (.iload_n 3, 1) := by decide +kernel
theorem dL_law_147 : decode cL_law 147 = .ok (.iconst 1, 1) := by decide +kernel
theorem dL_law_148 : decode cL_law 148 = .ok (.iadd, 1) := by decide +kernel
theorem dL_law_149 : decode cL_law 149 = .ok (.iaload, 1) := by decide +kernel
theorem dL_law_150 : decode cL_law 150 = .ok (.invokevirtual 13, 3) := by decide +kernel
theorem dL_law_153 : decode cL_law 153 = .ok (.aload_n 2, 1) := by decide +kernel
theorem dL_law_154 : decode cL_law 154 = .ok (.aload_n 0, 1) := by decide +kernel
theorem dL_law_155 : decode cL_law 155 = .ok (.iload_n 3, 1) := by decide +kernel
theorem dL_law_156 : decode cL_law 156 = .ok (.iconst 1, 1) := by decide +kernel
theorem dL_law_157 : decode cL_law 157 = .ok (.iadd, 1) := by decide +kernel
theorem dL_law_158 : decode cL_law 158 = .ok (.iaload, 1) := by decide +kernel
theorem dL_law_159 : decode cL_law 159 = .ok (.invokevirtual 17, 3) := by decide +kernel
theorem dL_law_162 : decode cL_law 162 = .ok (.if_icmp .eq 616, 3) := by decide +kernel
theorem dL_law_165 : decode cL_law 165 = .ok (.iconst 0, 1) := by decide +kernel
theorem dL_law_166 : decode cL_law 166 = .ok (.ireturn, 1) := by decide +kernel
theorem dL_law_167 : decode cL_law 167 = .ok (.aload_n 1, 1) := by decide +kernel
theorem dL_law_168 : decode cL_law 168 = .ok (.aload_n 0, 1) := by decide +kernel
theorem dL_law_169 : decode cL_law 169 = .ok (.iload_n 3, 1) := by decide +kernel
theorem dL_law_170 : decode cL_law 170 = .ok (.iconst 1, 1) := by decide +kernel
theorem dL_law_171 : decode cL_law 171 = .ok (.iadd, 1) := by decide +kernel
theorem dL_law_172 : decode cL_law 172 = .ok (.iaload, 1) := by decide +kernel
theorem dL_law_173 : decode cL_law 173 = .ok (.aload_n 0, 1) := by decide +kernel
theorem dL_law_174 : decode cL_law 174 = .ok (.iload_n 3, 1) := by decide +kernel
theorem dL_law_175 : decode cL_law 175 = .ok (.iconst 2, 1) := by decide +kernel
theorem dL_law_176 : decode cL_law 176 = .ok (.iadd, 1) := by decide +kernel
theorem dL_law_177 : decode cL_law 177 = .ok (.iaload, 1) := by decide +kernel
theorem dL_law_178 : decode cL_law 178 = .ok (.aload_n 0, 1) := by decide +kernel
theorem dL_law_179 : decode cL_law 179 = .ok (.iload_n 3, 1) := by decide +kernel
theorem dL_law_180 : decode cL_law 180 = .ok (.iconst 3, 1) := by decide +kernel
theorem dL_law_181 : decode cL_law 181 = .ok (.iadd, 1) := by decide +kernel
theorem dL_law_182 : decode cL_law 182 = .ok (.iaload, 1) := by decide +kernel
theorem dL_law_183 : decode cL_law 183 = .ok (.invokevirtual 18, 3) := by decide +kernel
theorem dL_law_186 : decode cL_law 186 = .ok (.aload_n 2, 1) := by decide +kernel
theorem dL_law_187 : decode cL_law 187 = .ok (.aload_n 0, 1) := by decide +kernel
theorem dL_law_188 : decode cL_law 188 = .ok (.iload_n 3, 1) := by decide +kernel
theorem dL_law_189 : decode cL_law 189 = .ok (.iconst 1, 1) := by decide +kernel
theorem dL_law_190 : decode cL_law 190 = .ok (.iadd, 1) := by decide +kernel
theorem dL_law_191 : decode cL_law 191 = .ok (.iaload, 1) := by decide +kernel
theorem dL_law_192 : decode cL_law 192 = .ok (.aload_n 0, 1) := by decide +kernel
theorem dL_law_193 : decode cL_law 193 = .ok (.iload_n 3, 1) := by decide +kernel
theorem dL_law_194 : decode cL_law 194 = .ok (.iconst 2, 1) := by decide +kernel
theorem dL_law_195 : decode cL_law 195 = .ok (.iadd, 1) := by decide +kernel
theorem dL_law_196 : decode cL_law 196 = .ok (.iaload, 1) := by decide +kernel
theorem dL_law_197 : decode cL_law 197 = .ok (.aload_n 0, 1) := by decide +kernel
theorem dL_law_198 : decode cL_law 198 = .ok (.iload_n 3, 1) := by decide +kernel
theorem dL_law_199 : decode cL_law 199 = .ok (.iconst 3, 1) := by decide +kernel
theorem dL_law_200 : decode cL_law 200 = .ok (.iadd, 1) := by decide +kernel
theorem dL_law_201 : decode cL_law 201 = .ok (.iaload, 1) := by decide +kernel
theorem dL_law_202 : decode cL_law 202 = .ok (.invokevirtual 22, 3) := by decide +kernel
theorem dL_law_205 : decode cL_law 205 = .ok (.if_icmp .eq 573, 3) := by decide +kernel
theorem dL_law_208 : decode cL_law 208 = .ok (.iconst 0, 1) := by decide +kernel
theorem dL_law_209 : decode cL_law 209 = .ok (.ireturn, 1) := by decide +kernel
theorem dL_law_210 : decode cL_law 210 = .ok (.aload_n 1, 1) := by decide +kernel
theorem dL_law_211 : decode cL_law 211 = .ok (.aload_n 0, 1) := by decide +kernel
theorem dL_law_212 : decode cL_law 212 = .ok (.iload_n 3, 1) := by decide +kernel
theorem dL_law_213 : decode cL_law 213 = .ok (.iconst 1, 1) := by decide +kernel
theorem dL_law_214 : decode cL_law 214 = .ok (.iadd, 1) := by decide +kernel
theorem dL_law_215 : decode cL_law 215 = .ok (.iaload, 1) := by decide +kernel
theorem dL_law_216 : decode cL_law 216 = .ok (.aload_n 0, 1) := by decide +kernel
theorem dL_law_217 : decode cL_law 217 = .ok (.iload_n 3, 1) := by decide +kernel
theorem dL_law_218 : decode cL_law 218 = .ok (.iconst 2, 1) := by decide +kernel
theorem dL_law_219 : decode cL_law 219 = .ok (.iadd, 1) := by decide +kernel
theorem dL_law_220 : decode cL_law 220 = .ok (.iaload, 1) := by decide +kernel
theorem dL_law_221 : decode cL_law 221 = .ok (.invokevirtual 23, 3) := by decide +kernel
theorem dL_law_224 : decode cL_law 224 = .ok (.aload_n 2, 1) := by decide +kernel
theorem dL_law_225 : decode cL_law 225 = .ok (.aload_n 0, 1) := by decide +kernel
theorem dL_law_226 : decode cL_law 226 = .ok (.iload_n 3, 1) := by decide +kernel
theorem dL_law_227 : decode cL_law 227 = .ok (.iconst 1, 1) := by decide +kernel
theorem dL_law_228 : decode cL_law 228 = .ok (.iadd, 1) := by decide +kernel
theorem dL_law_229 : decode cL_law 229 = .ok (.iaload, 1) := by decide +kernel
theorem dL_law_230 : decode cL_law 230 = .ok (.aload_n 0, 1) := by decide +kernel
theorem dL_law_231 : decode cL_law 231 = .ok (.iload_n 3, 1) := by decide +kernel
theorem dL_law_232 : decode cL_law 232 = .ok (.iconst 2, 1) := by decide +kernel
theorem dL_law_233 : decode cL_law 233 = .ok (.iadd, 1) := by decide +kernel
theorem dL_law_234 : decode cL_law 234 = .ok (.iaload, 1) := by decide +kernel
theorem dL_law_235 : decode cL_law 235 = .ok (.invokevirtual 27, 3) := by decide +kernel
theorem dL_law_238 : decode cL_law 238 = .ok (.if_icmp .eq 540, 3) := by decide +kernel
theorem dL_law_241 : decode cL_law 241 = .ok (.iconst 0, 1) := by decide +kernel
theorem dL_law_242 : decode cL_law 242 = .ok (.ireturn, 1) := by decide +kernel
theorem dL_law_243 : decode cL_law 243 = .ok (.aload_n 1, 1) := by decide +kernel
theorem dL_law_244 : decode cL_law 244 = .ok (.aload_n 0, 1) := by decide +kernel
theorem dL_law_245 : decode cL_law 245 = .ok (.iload_n 3, 1) := by decide +kernel
theorem dL_law_246 : decode cL_law 246 = .ok (.iconst 1, 1) := by decide +kernel
theorem dL_law_247 : decode cL_law 247 = .ok (.iadd, 1) := by decide +kernel
theorem dL_law_248 : decode cL_law 248 = .ok (.iaload, 1) := by decide +kernel
theorem dL_law_249 : decode cL_law 249 = .ok (.invokevirtual 28, 3) := by decide +kernel
theorem dL_law_252 : decode cL_law 252 = .ok (.aload_n 2, 1) := by decide +kernel
theorem dL_law_253 : decode cL_law 253 = .ok (.aload_n 0, 1) := by decide +kernel
theorem dL_law_254 : decode cL_law 254 = .ok (.iload_n 3, 1) := by decide +kernel
theorem dL_law_255 : decode cL_law 255 = .ok (.iconst 1, 1) := by decide +kernel
theorem dL_law_256 : decode cL_law 256 = .ok (.iadd, 1) := by decide +kernel
theorem dL_law_257 : decode cL_law 257 = .ok (.iaload, 1) := by decide +kernel
theorem dL_law_258 : decode cL_law 258 = .ok (.invokevirtual 31, 3) := by decide +kernel
theorem dL_law_261 : decode cL_law 261 = .ok (.if_icmp .eq 517, 3) := by decide +kernel
theorem dL_law_264 : decode cL_law 264 = .ok (.iconst 0, 1) := by decide +kernel
theorem dL_law_265 : decode cL_law 265 = .ok (.ireturn, 1) := by decide +kernel
theorem dL_law_266 : decode cL_law 266 = .ok (.aload_n 1, 1) := by decide +kernel
theorem dL_law_267 : decode cL_law 267 = .ok (.aload_n 0, 1) := by decide +kernel
theorem dL_law_268 : decode cL_law 268 = .ok (.iload_n 3, 1) := by decide +kernel
theorem dL_law_269 : decode cL_law 269 = .ok (.iconst 1, 1) := by decide +kernel
theorem dL_law_270 : decode cL_law 270 = .ok (.iadd, 1) := by decide +kernel
theorem dL_law_271 : decode cL_law 271 = .ok (.iaload, 1) := by decide +kernel
theorem dL_law_272 : decode cL_law 272 = .ok (.invokevirtual 32, 3) := by decide +kernel
theorem dL_law_275 : decode cL_law 275 = .ok (.aload_n 2, 1) := by decide +kernel
theorem dL_law_276 : decode cL_law 276 = .ok (.aload_n 0, 1) := by decide +kernel
theorem dL_law_277 : decode cL_law 277 = .ok (.iload_n 3, 1) := by decide +kernel
theorem dL_law_278 : decode cL_law 278 = .ok (.iconst 1, 1) := by decide +kernel
theorem dL_law_279 : decode cL_law 279 = .ok (.iadd, 1) := by decide +kernel
theorem dL_law_280 : decode cL_law 280 = .ok (.iaload, 1) := by decide +kernel
theorem dL_law_281 : decode cL_law 281 = .ok (.invokevirtual 35, 3) := by decide +kernel
theorem dL_law_284 : decode cL_law 284 = .ok (.if_icmp .eq 494, 3) := by decide +kernel
theorem dL_law_287 : decode cL_law 287 = .ok (.iconst 0, 1) := by decide +kernel
theorem dL_law_288 : decode cL_law 288 = .ok (.ireturn, 1) := by decide +kernel
theorem dL_law_289 : decode cL_law 289 = .ok (.aload_n 1, 1) := by decide +kernel
theorem dL_law_290 : decode cL_law 290 = .ok (.invokevirtual 36, 3) := by decide +kernel
theorem dL_law_293 : decode cL_law 293 = .ok (.aload_n 2, 1) := by decide +kernel
theorem dL_law_294 : decode cL_law 294 = .ok (.invokevirtual 40, 3) := by decide +kernel
theorem dL_law_297 : decode cL_law 297 = .ok (.if_icmp .eq 481, 3) := by decide +kernel
theorem dL_law_300 : decode cL_law 300 = .ok (.iconst 0, 1) := by decide +kernel
theorem dL_law_301 : decode cL_law 301 = .ok (.ireturn, 1) := by decide +kernel
theorem dL_law_302 : decode cL_law 302 = .ok (.aload_n 1, 1) := by decide +kernel
theorem dL_law_303 : decode cL_law 303 = .ok (.aload_n 0, 1) := by decide +kernel
theorem dL_law_304 : decode cL_law 304 = .ok (.iload_n 3, 1) := by decide +kernel
theorem dL_law_305 : decode cL_law 305 = .ok (.iconst 1, 1) := by decide +kernel
theorem dL_law_306 : decode cL_law 306 = .ok (.iadd, 1) := by decide +kernel
theorem dL_law_307 : decode cL_law 307 = .ok (.iaload, 1) := by decide +kernel
theorem dL_law_308 : decode cL_law 308 = .ok (.aload_n 0, 1) := by decide +kernel
theorem dL_law_309 : decode cL_law 309 = .ok (.iload_n 3, 1) := by decide +kernel
theorem dL_law_310 : decode cL_law 310 = .ok (.iconst 2, 1) := by decide +kernel
theorem dL_law_311 : decode cL_law 311 = .ok (.iadd, 1) := by decide +kernel
theorem dL_law_312 : decode cL_law 312 = .ok (.iaload, 1) := by decide +kernel
theorem dL_law_313 : decode cL_law 313 = .ok (.invokevirtual 41, 3) := by decide +kernel
theorem dL_law_316 : decode cL_law 316 = .ok (.aload_n 2, 1) := by decide +kernel
theorem dL_law_317 : decode cL_law 317 = .ok (.aload_n 0, 1) := by decide +kernel
theorem dL_law_318 : decode cL_law 318 = .ok (.iload_n 3, 1) := by decide +kernel
theorem dL_law_319 : decode cL_law 319 = .ok (.iconst 1, 1) := by decide +kernel
theorem dL_law_320 : decode cL_law 320 = .ok (.iadd, 1) := by decide +kernel
theorem dL_law_321 : decode cL_law 321 = .ok (.iaload, 1) := by decide +kernel
theorem dL_law_322 : decode cL_law 322 = .ok (.aload_n 0, 1) := by decide +kernel
theorem dL_law_323 : decode cL_law 323 = .ok (.iload_n 3, 1) := by decide +kernel
theorem dL_law_324 : decode cL_law 324 = .ok (.iconst 2, 1) := by decide +kernel
theorem dL_law_325 : decode cL_law 325 = .ok (.iadd, 1) := by decide +kernel
theorem dL_law_326 : decode cL_law 326 = .ok (.iaload, 1) := by decide +kernel
theorem dL_law_327 : decode cL_law 327 = .ok (.invokevirtual 44, 3) := by decide +kernel
theorem dL_law_330 : decode cL_law 330 = .ok (.if_icmp .eq 448, 3) := by decide +kernel
theorem dL_law_333 : decode cL_law 333 = .ok (.iconst 0, 1) := by decide +kernel
theorem dL_law_334 : decode cL_law 334 = .ok (.ireturn, 1) := by decide +kernel
theorem dL_law_335 : decode cL_law 335 = .ok (.aload_n 1, 1) := by decide +kernel
theorem dL_law_336 : decode cL_law 336 = .ok (.invokevirtual 45, 3) := by decide +kernel
theorem dL_law_339 : decode cL_law 339 = .ok (.aload_n 2, 1) := by decide +kernel
theorem dL_law_340 : decode cL_law 340 = .ok (.invokevirtual 48, 3) := by decide +kernel
theorem dL_law_343 : decode cL_law 343 = .ok (.if_icmp .eq 435, 3) := by decide +kernel
theorem dL_law_346 : decode cL_law 346 = .ok (.iconst 0, 1) := by decide +kernel
theorem dL_law_347 : decode cL_law 347 = .ok (.ireturn, 1) := by decide +kernel
theorem dL_law_348 : decode cL_law 348 = .ok (.aload_n 1, 1) := by decide +kernel
theorem dL_law_349 : decode cL_law 349 = .ok (.aload_n 0, 1) := by decide +kernel
theorem dL_law_350 : decode cL_law 350 = .ok (.iload_n 3, 1) := by decide +kernel
theorem dL_law_351 : decode cL_law 351 = .ok (.iconst 1, 1) := by decide +kernel
theorem dL_law_352 : decode cL_law 352 = .ok (.iadd, 1) := by decide +kernel
theorem dL_law_353 : decode cL_law 353 = .ok (.iaload, 1) := by decide +kernel
theorem dL_law_354 : decode cL_law 354 = .ok (.invokevirtual 49, 3) := by decide +kernel
theorem dL_law_357 : decode cL_law 357 = .ok (.aload_n 2, 1) := by decide +kernel
theorem dL_law_358 : decode cL_law 358 = .ok (.aload_n 0, 1) := by decide +kernel
theorem dL_law_359 : decode cL_law 359 = .ok (.iload_n 3, 1) := by decide +kernel
theorem dL_law_360 : decode cL_law 360 = .ok (.iconst 1, 1) := by decide +kernel
theorem dL_law_361 : decode cL_law 361 = .ok (.iadd, 1) := by decide +kernel
theorem dL_law_362 : decode cL_law 362 = .ok (.iaload, 1) := by decide +kernel
theorem dL_law_363 : decode cL_law 363 = .ok (.invokevirtual 52, 3) := by decide +kernel
theorem dL_law_366 : decode cL_law 366 = .ok (.if_icmp .eq 412, 3) := by decide +kernel
theorem dL_law_369 : decode cL_law 369 = .ok (.iconst 0, 1) := by decide +kernel
theorem dL_law_370 : decode cL_law 370 = .ok (.ireturn, 1) := by decide +kernel
theorem dL_law_371 : decode cL_law 371 = .ok (.aload_n 1, 1) := by decide +kernel
theorem dL_law_372 : decode cL_law 372 = .ok (.invokevirtual 53, 3) := by decide +kernel
theorem dL_law_375 : decode cL_law 375 = .ok (.aload_n 2, 1) := by decide +kernel
theorem dL_law_376 : decode cL_law 376 = .ok (.invokevirtual 56, 3) := by decide +kernel
theorem dL_law_379 : decode cL_law 379 = .ok (.if_icmp .eq 399, 3) := by decide +kernel
theorem dL_law_382 : decode cL_law 382 = .ok (.iconst 0, 1) := by decide +kernel
theorem dL_law_383 : decode cL_law 383 = .ok (.ireturn, 1) := by decide +kernel
theorem dL_law_384 : decode cL_law 384 = .ok (.aload_n 1, 1) := by decide +kernel
theorem dL_law_385 : decode cL_law 385 = .ok (.invokevirtual 57, 3) := by decide +kernel
theorem dL_law_388 : decode cL_law 388 = .ok (.aload_n 2, 1) := by decide +kernel
theorem dL_law_389 : decode cL_law 389 = .ok (.invokevirtual 60, 3) := by decide +kernel
theorem dL_law_392 : decode cL_law 392 = .ok (.if_icmp .eq 386, 3) := by decide +kernel
theorem dL_law_395 : decode cL_law 395 = .ok (.iconst 0, 1) := by decide +kernel
theorem dL_law_396 : decode cL_law 396 = .ok (.ireturn, 1) := by decide +kernel
theorem dL_law_397 : decode cL_law 397 = .ok (.aload_n 1, 1) := by decide +kernel
theorem dL_law_398 : decode cL_law 398 = .ok (.aload_n 0, 1) := by decide +kernel
theorem dL_law_399 : decode cL_law 399 = .ok (.iload_n 3, 1) := by decide +kernel
theorem dL_law_400 : decode cL_law 400 = .ok (.iconst 1, 1) := by decide +kernel
theorem dL_law_401 : decode cL_law 401 = .ok (.iadd, 1) := by decide +kernel
theorem dL_law_402 : decode cL_law 402 = .ok (.iaload, 1) := by decide +kernel
theorem dL_law_403 : decode cL_law 403 = .ok (.aload_n 0, 1) := by decide +kernel
theorem dL_law_404 : decode cL_law 404 = .ok (.iload_n 3, 1) := by decide +kernel
theorem dL_law_405 : decode cL_law 405 = .ok (.iconst 2, 1) := by decide +kernel
theorem dL_law_406 : decode cL_law 406 = .ok (.iadd, 1) := by decide +kernel
theorem dL_law_407 : decode cL_law 407 = .ok (.iaload, 1) := by decide +kernel
theorem dL_law_408 : decode cL_law 408 = .ok (.aload_n 0, 1) := by decide +kernel
theorem dL_law_409 : decode cL_law 409 = .ok (.iload_n 3, 1) := by decide +kernel
theorem dL_law_410 : decode cL_law 410 = .ok (.iconst 3, 1) := by decide +kernel
theorem dL_law_411 : decode cL_law 411 = .ok (.iadd, 1) := by decide +kernel
theorem dL_law_412 : decode cL_law 412 = .ok (.iaload, 1) := by decide +kernel
theorem dL_law_413 : decode cL_law 413 = .ok (.invokevirtual 61, 3) := by decide +kernel
theorem dL_law_416 : decode cL_law 416 = .ok (.aload_n 2, 1) := by decide +kernel
theorem dL_law_417 : decode cL_law 417 = .ok (.aload_n 0, 1) := by decide +kernel
theorem dL_law_418 : decode cL_law 418 = .ok (.iload_n 3, 1) := by decide +kernel
theorem dL_law_419 : decode cL_law 419 = .ok (.iconst 1, 1) := by decide +kernel
theorem dL_law_420 : decode cL_law 420 = .ok (.iadd, 1) := by decide +kernel
theorem dL_law_421 : decode cL_law 421 = .ok (.iaload, 1) := by decide +kernel
theorem dL_law_422 : decode cL_law 422 = .ok (.aload_n 0, 1) := by decide +kernel
theorem dL_law_423 : decode cL_law 423 = .ok (.iload_n 3, 1) := by decide +kernel
theorem dL_law_424 : decode cL_law 424 = .ok (.iconst 2, 1) := by decide +kernel
theorem dL_law_425 : decode cL_law 425 = .ok (.iadd, 1) := by decide +kernel
theorem dL_law_426 : decode cL_law 426 = .ok (.iaload, 1) := by decide +kernel
theorem dL_law_427 : decode cL_law 427 = .ok (.aload_n 0, 1) := by decide +kernel
theorem dL_law_428 : decode cL_law 428 = .ok (.iload_n 3, 1) := by decide +kernel
theorem dL_law_429 : decode cL_law 429 = .ok (.iconst 3, 1) := by decide +kernel
theorem dL_law_430 : decode cL_law 430 = .ok (.iadd, 1) := by decide +kernel
theorem dL_law_431 : decode cL_law 431 = .ok (.iaload, 1) := by decide +kernel
theorem dL_law_432 : decode cL_law 432 = .ok (.invokevirtual 64, 3) := by decide +kernel
theorem dL_law_435 : decode cL_law 435 = .ok (.if_icmp .eq 343, 3) := by decide +kernel
theorem dL_law_438 : decode cL_law 438 = .ok (.iconst 0, 1) := by decide +kernel
theorem dL_law_439 : decode cL_law 439 = .ok (.ireturn, 1) := by decide +kernel
theorem dL_law_440 : decode cL_law 440 = .ok (.aload_n 1, 1) := by decide +kernel
theorem dL_law_441 : decode cL_law 441 = .ok (.aload_n 0, 1) := by decide +kernel
theorem dL_law_442 : decode cL_law 442 = .ok (.iload_n 3, 1) := by decide +kernel
theorem dL_law_443 : decode cL_law 443 = .ok (.iconst 1, 1) := by decide +kernel
theorem dL_law_444 : decode cL_law 444 = .ok (.iadd, 1) := by decide +kernel
theorem dL_law_445 : decode cL_law 445 = .ok (.iaload, 1) := by decide +kernel
theorem dL_law_446 : decode cL_law 446 = .ok (.aload_n 0, 1) := by decide +kernel
theorem dL_law_447 : decode cL_law 447 = .ok (.iload_n 3, 1) := by decide +kernel
theorem dL_law_448 : decode cL_law 448 = .ok (.iconst 2, 1) := by decide +kernel
theorem dL_law_449 : decode cL_law 449 = .ok (.iadd, 1) := by decide +kernel
theorem dL_law_450 : decode cL_law 450 = .ok (.iaload, 1) := by decide +kernel
theorem dL_law_451 : decode cL_law 451 = .ok (.aload_n 0, 1) := by decide +kernel
theorem dL_law_452 : decode cL_law 452 = .ok (.iload_n 3, 1) := by decide +kernel
theorem dL_law_453 : decode cL_law 453 = .ok (.iconst 3, 1) := by decide +kernel
theorem dL_law_454 : decode cL_law 454 = .ok (.iadd, 1) := by decide +kernel
theorem dL_law_455 : decode cL_law 455 = .ok (.iaload, 1) := by decide +kernel
theorem dL_law_456 : decode cL_law 456 = .ok (.invokevirtual 65, 3) := by decide +kernel
theorem dL_law_459 : decode cL_law 459 = .ok (.aload_n 2, 1) := by decide +kernel
theorem dL_law_460 : decode cL_law 460 = .ok (.aload_n 0, 1) := by decide +kernel
theorem dL_law_461 : decode cL_law 461 = .ok (.iload_n 3, 1) := by decide +kernel
theorem dL_law_462 : decode cL_law 462 = .ok (.iconst 1, 1) := by decide +kernel
theorem dL_law_463 : decode cL_law 463 = .ok (.iadd, 1) := by decide +kernel
theorem dL_law_464 : decode cL_law 464 = .ok (.iaload, 1) := by decide +kernel
theorem dL_law_465 : decode cL_law 465 = .ok (.aload_n 0, 1) := by decide +kernel
theorem dL_law_466 : decode cL_law 466 = .ok (.iload_n 3, 1) := by decide +kernel
theorem dL_law_467 : decode cL_law 467 = .ok (.iconst 2, 1) := by decide +kernel
theorem dL_law_468 : decode cL_law 468 = .ok (.iadd, 1) := by decide +kernel
theorem dL_law_469 : decode cL_law 469 = .ok (.iaload, 1) := by decide +kernel
theorem dL_law_470 : decode cL_law 470 = .ok (.aload_n 0, 1) := by decide +kernel
theorem dL_law_471 : decode cL_law 471 = .ok (.iload_n 3, 1) := by decide +kernel
theorem dL_law_472 : decode cL_law 472 = .ok (.iconst 3, 1) := by decide +kernel
theorem dL_law_473 : decode cL_law 473 = .ok (.iadd, 1) := by decide +kernel
theorem dL_law_474 : decode cL_law 474 = .ok (.iaload, 1) := by decide +kernel
theorem dL_law_475 : decode cL_law 475 = .ok (.invokevirtual 68, 3) := by decide +kernel
theorem dL_law_478 : decode cL_law 478 = .ok (.if_icmp .eq 300, 3) := by decide +kernel
theorem dL_law_481 : decode cL_law 481 = .ok (.iconst 0, 1) := by decide +kernel
theorem dL_law_482 : decode cL_law 482 = .ok (.ireturn, 1) := by decide +kernel
theorem dL_law_483 : decode cL_law 483 = .ok (.aload_n 1, 1) := by decide +kernel
theorem dL_law_484 : decode cL_law 484 = .ok (.aload_n 0, 1) := by decide +kernel
theorem dL_law_485 : decode cL_law 485 = .ok (.iload_n 3, 1) := by decide +kernel
theorem dL_law_486 : decode cL_law 486 = .ok (.iconst 1, 1) := by decide +kernel
theorem dL_law_487 : decode cL_law 487 = .ok (.iadd, 1) := by decide +kernel
theorem dL_law_488 : decode cL_law 488 = .ok (.iaload, 1) := by decide +kernel
theorem dL_law_489 : decode cL_law 489 = .ok (.aload_n 0, 1) := by decide +kernel
theorem dL_law_490 : decode cL_law 490 = .ok (.iload_n 3, 1) := by decide +kernel
theorem dL_law_491 : decode cL_law 491 = .ok (.iconst 2, 1) := by decide +kernel
theorem dL_law_492 : decode cL_law 492 = .ok (.iadd, 1) := by decide +kernel
theorem dL_law_493 : decode cL_law 493 = .ok (.iaload, 1) := by decide +kernel
theorem dL_law_494 : decode cL_law 494 = .ok (.invokevirtual 69, 3) := by decide +kernel
theorem dL_law_497 : decode cL_law 497 = .ok (.aload_n 2, 1) := by decide +kernel
theorem dL_law_498 : decode cL_law 498 = .ok (.aload_n 0, 1) := by decide +kernel
theorem dL_law_499 : decode cL_law 499 = .ok (.iload_n 3, 1) := by decide +kernel
theorem dL_law_500 : decode cL_law 500 = .ok (.iconst 1, 1) := by decide +kernel
theorem dL_law_501 : decode cL_law 501 = .ok (.iadd, 1) := by decide +kernel
theorem dL_law_502 : decode cL_law 502 = .ok (.iaload, 1) := by decide +kernel
theorem dL_law_503 : decode cL_law 503 = .ok (.aload_n 0, 1) := by decide +kernel
theorem dL_law_504 : decode cL_law 504 = .ok (.iload_n 3, 1) := by decide +kernel
theorem dL_law_505 : decode cL_law 505 = .ok (.iconst 2, 1) := by decide +kernel
theorem dL_law_506 : decode cL_law 506 = .ok (.iadd, 1) := by decide +kernel
theorem dL_law_507 : decode cL_law 507 = .ok (.iaload, 1) := by decide +kernel
theorem dL_law_508 : decode cL_law 508 = .ok (.invokevirtual 73, 3) := by decide +kernel
theorem dL_law_511 : decode cL_law 511 = .ok (.lcmp, 1) := by decide +kernel
theorem dL_law_512 : decode cL_law 512 = .ok (.ifCond .eq 266, 3) := by decide +kernel
theorem dL_law_515 : decode cL_law 515 = .ok (.iconst 0, 1) := by decide +kernel
theorem dL_law_516 : decode cL_law 516 = .ok (.ireturn, 1) := by decide +kernel
theorem dL_law_517 : decode cL_law 517 = .ok (.aload_n 1, 1) := by decide +kernel
theorem dL_law_518 : decode cL_law 518 = .ok (.aload_n 0, 1) := by decide +kernel
theorem dL_law_519 : decode cL_law 519 = .ok (.iload_n 3, 1) := by decide +kernel
theorem dL_law_520 : decode cL_law 520 = .ok (.iconst 1, 1) := by decide +kernel
theorem dL_law_521 : decode cL_law 521 = .ok (.iadd, 1) := by decide +kernel
theorem dL_law_522 : decode cL_law 522 = .ok (.iaload, 1) := by decide +kernel
theorem dL_law_523 : decode cL_law 523 = .ok (.invokevirtual 74, 3) := by decide +kernel
theorem dL_law_526 : decode cL_law 526 = .ok (.aload_n 2, 1) := by decide +kernel
theorem dL_law_527 : decode cL_law 527 = .ok (.aload_n 0, 1) := by decide +kernel
theorem dL_law_528 : decode cL_law 528 = .ok (.iload_n 3, 1) := by decide +kernel
theorem dL_law_529 : decode cL_law 529 = .ok (.iconst 1, 1) := by decide +kernel
theorem dL_law_530 : decode cL_law 530 = .ok (.iadd, 1) := by decide +kernel
theorem dL_law_531 : decode cL_law 531 = .ok (.iaload, 1) := by decide +kernel
theorem dL_law_532 : decode cL_law 532 = .ok (.invokevirtual 77, 3) := by decide +kernel
theorem dL_law_535 : decode cL_law 535 = .ok (.if_icmp .eq 243, 3) := by decide +kernel
theorem dL_law_538 : decode cL_law 538 = .ok (.iconst 0, 1) := by decide +kernel
theorem dL_law_539 : decode cL_law 539 = .ok (.ireturn, 1) := by decide +kernel
theorem dL_law_540 : decode cL_law 540 = .ok (.aload_n 1, 1) := by decide +kernel
theorem dL_law_541 : decode cL_law 541 = .ok (.aload_n 0, 1) := by decide +kernel
theorem dL_law_542 : decode cL_law 542 = .ok (.iload_n 3, 1) := by decide +kernel
theorem dL_law_543 : decode cL_law 543 = .ok (.iconst 1, 1) := by decide +kernel
theorem dL_law_544 : decode cL_law 544 = .ok (.iadd, 1) := by decide +kernel
theorem dL_law_545 : decode cL_law 545 = .ok (.iaload, 1) := by decide +kernel
theorem dL_law_546 : decode cL_law 546 = .ok (.invokevirtual 78, 3) := by decide +kernel
theorem dL_law_549 : decode cL_law 549 = .ok (.aload_n 2, 1) := by decide +kernel
theorem dL_law_550 : decode cL_law 550 = .ok (.aload_n 0, 1) := by decide +kernel
theorem dL_law_551 : decode cL_law 551 = .ok (.iload_n 3, 1) := by decide +kernel
theorem dL_law_552 : decode cL_law 552 = .ok (.iconst 1, 1) := by decide +kernel
theorem dL_law_553 : decode cL_law 553 = .ok (.iadd, 1) := by decide +kernel
theorem dL_law_554 : decode cL_law 554 = .ok (.iaload, 1) := by decide +kernel
theorem dL_law_555 : decode cL_law 555 = .ok (.invokevirtual 81, 3) := by decide +kernel
theorem dL_law_558 : decode cL_law 558 = .ok (.if_icmp .eq 220, 3) := by decide +kernel
theorem dL_law_561 : decode cL_law 561 = .ok (.iconst 0, 1) := by decide +kernel
theorem dL_law_562 : decode cL_law 562 = .ok (.ireturn, 1) := by decide +kernel
theorem dL_law_563 : decode cL_law 563 = .ok (.aload_n 1, 1) := by decide +kernel
theorem dL_law_564 : decode cL_law 564 = .ok (.aload_n 0, 1) := by decide +kernel
theorem dL_law_565 : decode cL_law 565 = .ok (.iload_n 3, 1) := by decide +kernel
theorem dL_law_566 : decode cL_law 566 = .ok (.iconst 1, 1) := by decide +kernel
theorem dL_law_567 : decode cL_law 567 = .ok (.iadd, 1) := by decide +kernel
theorem dL_law_568 : decode cL_law 568 = .ok (.iaload, 1) := by decide +kernel
theorem dL_law_569 : decode cL_law 569 = .ok (.invokevirtual 82, 3) := by decide +kernel
theorem dL_law_572 : decode cL_law 572 = .ok (.aload_n 2, 1) := by decide +kernel
theorem dL_law_573 : decode cL_law 573 = .ok (.aload_n 0, 1) := by decide +kernel
theorem dL_law_574 : decode cL_law 574 = .ok (.iload_n 3, 1) := by decide +kernel
theorem dL_law_575 : decode cL_law 575 = .ok (.iconst 1, 1) := by decide +kernel
theorem dL_law_576 : decode cL_law 576 = .ok (.iadd, 1) := by decide +kernel
theorem dL_law_577 : decode cL_law 577 = .ok (.iaload, 1) := by decide +kernel
theorem dL_law_578 : decode cL_law 578 = .ok (.invokevirtual 85, 3) := by decide +kernel
theorem dL_law_581 : decode cL_law 581 = .ok (.if_icmp .eq 197, 3) := by decide +kernel
theorem dL_law_584 : decode cL_law 584 = .ok (.iconst 0, 1) := by decide +kernel
theorem dL_law_585 : decode cL_law 585 = .ok (.ireturn, 1) := by decide +kernel
theorem dL_law_586 : decode cL_law 586 = .ok (.aload_n 1, 1) := by decide +kernel
theorem dL_law_587 : decode cL_law 587 = .ok (.aload_n 0, 1) := by decide +kernel
theorem dL_law_588 : decode cL_law 588 = .ok (.iload_n 3, 1) := by decide +kernel
theorem dL_law_589 : decode cL_law 589 = .ok (.iconst 1, 1) := by decide +kernel
theorem dL_law_590 : decode cL_law 590 = .ok (.iadd, 1) := by decide +kernel
theorem dL_law_591 : decode cL_law 591 = .ok (.iaload, 1) := by decide +kernel
theorem dL_law_592 : decode cL_law 592 = .ok (.invokevirtual 86, 3) := by decide +kernel
theorem dL_law_595 : decode cL_law 595 = .ok (.aload_n 2, 1) := by decide +kernel
theorem dL_law_596 : decode cL_law 596 = .ok (.aload_n 0, 1) := by decide +kernel
theorem dL_law_597 : decode cL_law 597 = .ok (.iload_n 3, 1) := by decide +kernel
theorem dL_law_598 : decode cL_law 598 = .ok (.iconst 1, 1) := by decide +kernel
theorem dL_law_599 : decode cL_law 599 = .ok (.iadd, 1) := by decide +kernel
theorem dL_law_600 : decode cL_law 600 = .ok (.iaload, 1) := by decide +kernel
theorem dL_law_601 : decode cL_law 601 = .ok (.invokevirtual 89, 3) := by decide +kernel
theorem dL_law_604 : decode cL_law 604 = .ok (.if_icmp .eq 174, 3) := by decide +kernel
theorem dL_law_607 : decode cL_law 607 = .ok (.iconst 0, 1) := by decide +kernel
theorem dL_law_608 : decode cL_law 608 = .ok (.ireturn, 1) := by decide +kernel
theorem dL_law_609 : decode cL_law 609 = .ok (.aload_n 1, 1) := by decide +kernel
theorem dL_law_610 : decode cL_law 610 = .ok (.invokevirtual 90, 3) := by decide +kernel
theorem dL_law_613 : decode cL_law 613 = .ok (.aload_n 2, 1) := by decide +kernel
theorem dL_law_614 : decode cL_law 614 = .ok (.invokevirtual 93, 3) := by decide +kernel
theorem dL_law_617 : decode cL_law 617 = .ok (.if_icmp .eq 161, 3) := by decide +kernel
theorem dL_law_620 : decode cL_law 620 = .ok (.iconst 0, 1) := by decide +kernel
theorem dL_law_621 : decode cL_law 621 = .ok (.ireturn, 1) := by decide +kernel
theorem dL_law_622 : decode cL_law 622 = .ok (.aload_n 1, 1) := by decide +kernel
theorem dL_law_623 : decode cL_law 623 = .ok (.aload_n 0, 1) := by decide +kernel
theorem dL_law_624 : decode cL_law 624 = .ok (.iload_n 3, 1) := by decide +kernel
theorem dL_law_625 : decode cL_law 625 = .ok (.iconst 1, 1) := by decide +kernel
theorem dL_law_626 : decode cL_law 626 = .ok (.iadd, 1) := by decide +kernel
theorem dL_law_627 : decode cL_law 627 = .ok (.iaload, 1) := by decide +kernel
theorem dL_law_628 : decode cL_law 628 = .ok (.aload_n 0, 1) := by decide +kernel
theorem dL_law_629 : decode cL_law 629 = .ok (.iload_n 3, 1) := by decide +kernel
theorem dL_law_630 : decode cL_law 630 = .ok (.iconst 2, 1) := by decide +kernel
theorem dL_law_631 : decode cL_law 631 = .ok (.iadd, 1) := by decide +kernel
theorem dL_law_632 : decode cL_law 632 = .ok (.iaload, 1) := by decide +kernel
theorem dL_law_633 : decode cL_law 633 = .ok (.invokevirtual 94, 3) := by decide +kernel
theorem dL_law_636 : decode cL_law 636 = .ok (.aload_n 2, 1) := by decide +kernel
theorem dL_law_637 : decode cL_law 637 = .ok (.aload_n 0, 1) := by decide +kernel
theorem dL_law_638 : decode cL_law 638 = .ok (.iload_n 3, 1) := by decide +kernel
theorem dL_law_639 : decode cL_law 639 = .ok (.iconst 1, 1) := by decide +kernel
theorem dL_law_640 : decode cL_law 640 = .ok (.iadd, 1) := by decide +kernel
theorem dL_law_641 : decode cL_law 641 = .ok (.iaload, 1) := by decide +kernel
theorem dL_law_642 : decode cL_law 642 = .ok (.aload_n 0, 1) := by decide +kernel
theorem dL_law_643 : decode cL_law 643 = .ok (.iload_n 3, 1) := by decide +kernel
theorem dL_law_644 : decode cL_law 644 = .ok (.iconst 2, 1) := by decide +kernel
theorem dL_law_645 : decode cL_law 645 = .ok (.iadd, 1) := by decide +kernel
theorem dL_law_646 : decode cL_law 646 = .ok (.iaload, 1) := by decide +kernel
theorem dL_law_647 : decode cL_law 647 = .ok (.invokevirtual 97, 3) := by decide +kernel
theorem dL_law_650 : decode cL_law 650 = .ok (.if_icmp .eq 128, 3) := by decide +kernel
theorem dL_law_653 : decode cL_law 653 = .ok (.iconst 0, 1) := by decide +kernel
theorem dL_law_654 : decode cL_law 654 = .ok (.ireturn, 1) := by decide +kernel
theorem dL_law_655 : decode cL_law 655 = .ok (.aload_n 1, 1) := by decide +kernel
theorem dL_law_656 : decode cL_law 656 = .ok (.aload_n 0, 1) := by decide +kernel
theorem dL_law_657 : decode cL_law 657 = .ok (.iload_n 3, 1) := by decide +kernel
theorem dL_law_658 : decode cL_law 658 = .ok (.iconst 1, 1) := by decide +kernel
theorem dL_law_659 : decode cL_law 659 = .ok (.iadd, 1) := by decide +kernel
theorem dL_law_660 : decode cL_law 660 = .ok (.iaload, 1) := by decide +kernel
theorem dL_law_661 : decode cL_law 661 = .ok (.aload_n 0, 1) := by decide +kernel
theorem dL_law_662 : decode cL_law 662 = .ok (.iload_n 3, 1) := by decide +kernel
theorem dL_law_663 : decode cL_law 663 = .ok (.iconst 2, 1) := by decide +kernel
theorem dL_law_664 : decode cL_law 664 = .ok (.iadd, 1) := by decide +kernel
theorem dL_law_665 : decode cL_law 665 = .ok (.iaload, 1) := by decide +kernel
theorem dL_law_666 : decode cL_law 666 = .ok (.aload_n 0, 1) := by decide +kernel
theorem dL_law_667 : decode cL_law 667 = .ok (.iload_n 3, 1) := by decide +kernel
theorem dL_law_668 : decode cL_law 668 = .ok (.iconst 3, 1) := by decide +kernel
theorem dL_law_669 : decode cL_law 669 = .ok (.iadd, 1) := by decide +kernel
theorem dL_law_670 : decode cL_law 670 = .ok (.iaload, 1) := by decide +kernel
theorem dL_law_671 : decode cL_law 671 = .ok (.invokevirtual 98, 3) := by decide +kernel
theorem dL_law_674 : decode cL_law 674 = .ok (.aload_n 2, 1) := by decide +kernel
theorem dL_law_675 : decode cL_law 675 = .ok (.aload_n 0, 1) := by decide +kernel
theorem dL_law_676 : decode cL_law 676 = .ok (.iload_n 3, 1) := by decide +kernel
theorem dL_law_677 : decode cL_law 677 = .ok (.iconst 1, 1) := by decide +kernel
theorem dL_law_678 : decode cL_law 678 = .ok (.iadd, 1) := by decide +kernel
theorem dL_law_679 : decode cL_law 679 = .ok (.iaload, 1) := by decide +kernel
theorem dL_law_680 : decode cL_law 680 = .ok (.aload_n 0, 1) := by decide +kernel
theorem dL_law_681 : decode cL_law 681 = .ok (.iload_n 3, 1) := by decide +kernel
theorem dL_law_682 : decode cL_law 682 = .ok (.iconst 2, 1) := by decide +kernel
theorem dL_law_683 : decode cL_law 683 = .ok (.iadd, 1) := by decide +kernel
theorem dL_law_684 : decode cL_law 684 = .ok (.iaload, 1) := by decide +kernel
theorem dL_law_685 : decode cL_law 685 = .ok (.aload_n 0, 1) := by decide +kernel
theorem dL_law_686 : decode cL_law 686 = .ok (.iload_n 3, 1) := by decide +kernel
theorem dL_law_687 : decode cL_law 687 = .ok (.iconst 3, 1) := by decide +kernel
theorem dL_law_688 : decode cL_law 688 = .ok (.iadd, 1) := by decide +kernel
theorem dL_law_689 : decode cL_law 689 = .ok (.iaload, 1) := by decide +kernel
theorem dL_law_690 : decode cL_law 690 = .ok (.invokevirtual 101, 3) := by decide +kernel
theorem dL_law_693 : decode cL_law 693 = .ok (.if_icmp .eq 85, 3) := by decide +kernel
theorem dL_law_696 : decode cL_law 696 = .ok (.iconst 0, 1) := by decide +kernel
theorem dL_law_697 : decode cL_law 697 = .ok (.ireturn, 1) := by decide +kernel
theorem dL_law_698 : decode cL_law 698 = .ok (.aload_n 1, 1) := by decide +kernel
theorem dL_law_699 : decode cL_law 699 = .ok (.aload_n 0, 1) := by decide +kernel
theorem dL_law_700 : decode cL_law 700 = .ok (.iload_n 3, 1) := by decide +kernel
theorem dL_law_701 : decode cL_law 701 = .ok (.iconst 1, 1) := by decide +kernel
theorem dL_law_702 : decode cL_law 702 = .ok (.iadd, 1) := by decide +kernel
theorem dL_law_703 : decode cL_law 703 = .ok (.iaload, 1) := by decide +kernel
theorem dL_law_704 : decode cL_law 704 = .ok (.aload_n 0, 1) := by decide +kernel
theorem dL_law_705 : decode cL_law 705 = .ok (.iload_n 3, 1) := by decide +kernel
theorem dL_law_706 : decode cL_law 706 = .ok (.iconst 2, 1) := by decide +kernel
theorem dL_law_707 : decode cL_law 707 = .ok (.iadd, 1) := by decide +kernel
theorem dL_law_708 : decode cL_law 708 = .ok (.iaload, 1) := by decide +kernel
theorem dL_law_709 : decode cL_law 709 = .ok (.aload_n 0, 1) := by decide +kernel
theorem dL_law_710 : decode cL_law 710 = .ok (.iload_n 3, 1) := by decide +kernel
theorem dL_law_711 : decode cL_law 711 = .ok (.iconst 3, 1) := by decide +kernel
theorem dL_law_712 : decode cL_law 712 = .ok (.iadd, 1) := by decide +kernel
theorem dL_law_713 : decode cL_law 713 = .ok (.iaload, 1) := by decide +kernel
theorem dL_law_714 : decode cL_law 714 = .ok (.invokevirtual 102, 3) := by decide +kernel
theorem dL_law_717 : decode cL_law 717 = .ok (.aload_n 2, 1) := by decide +kernel
theorem dL_law_718 : decode cL_law 718 = .ok (.aload_n 0, 1) := by decide +kernel
theorem dL_law_719 : decode cL_law 719 = .ok (.iload_n 3, 1) := by decide +kernel
theorem dL_law_720 : decode cL_law 720 = .ok (.iconst 1, 1) := by decide +kernel
theorem dL_law_721 : decode cL_law 721 = .ok (.iadd, 1) := by decide +kernel
theorem dL_law_722 : decode cL_law 722 = .ok (.iaload, 1) := by decide +kernel
theorem dL_law_723 : decode cL_law 723 = .ok (.aload_n 0, 1) := by decide +kernel
theorem dL_law_724 : decode cL_law 724 = .ok (.iload_n 3, 1) := by decide +kernel
theorem dL_law_725 : decode cL_law 725 = .ok (.iconst 2, 1) := by decide +kernel
theorem dL_law_726 : decode cL_law 726 = .ok (.iadd, 1) := by decide +kernel
theorem dL_law_727 : decode cL_law 727 = .ok (.iaload, 1) := by decide +kernel
theorem dL_law_728 : decode cL_law 728 = .ok (.aload_n 0, 1) := by decide +kernel
theorem dL_law_729 : decode cL_law 729 = .ok (.iload_n 3, 1) := by decide +kernel
theorem dL_law_730 : decode cL_law 730 = .ok (.iconst 3, 1) := by decide +kernel
theorem dL_law_731 : decode cL_law 731 = .ok (.iadd, 1) := by decide +kernel
theorem dL_law_732 : decode cL_law 732 = .ok (.iaload, 1) := by decide +kernel
theorem dL_law_733 : decode cL_law 733 = .ok (.invokevirtual 105, 3) := by decide +kernel
theorem dL_law_736 : decode cL_law 736 = .ok (.if_icmp .eq 42, 3) := by decide +kernel
theorem dL_law_739 : decode cL_law 739 = .ok (.iconst 0, 1) := by decide +kernel
theorem dL_law_740 : decode cL_law 740 = .ok (.ireturn, 1) := by decide +kernel
theorem dL_law_741 : decode cL_law 741 = .ok (.aload_n 1, 1) := by decide +kernel
theorem dL_law_742 : decode cL_law 742 = .ok (.aload_n 0, 1) := by decide +kernel
theorem dL_law_743 : decode cL_law 743 = .ok (.iload_n 3, 1) := by decide +kernel
theorem dL_law_744 : decode cL_law 744 = .ok (.iconst 1, 1) := by decide +kernel
theorem dL_law_745 : decode cL_law 745 = .ok (.iadd, 1) := by decide +kernel
theorem dL_law_746 : decode cL_law 746 = .ok (.iaload, 1) := by decide +kernel
theorem dL_law_747 : decode cL_law 747 = .ok (.invokevirtual 106, 3) := by decide +kernel
theorem dL_law_750 : decode cL_law 750 = .ok (.aload_n 2, 1) := by decide +kernel
theorem dL_law_751 : decode cL_law 751 = .ok (.aload_n 0, 1) := by decide +kernel
theorem dL_law_752 : decode cL_law 752 = .ok (.iload_n 3, 1) := by decide +kernel
theorem dL_law_753 : decode cL_law 753 = .ok (.iconst 1, 1) := by decide +kernel
theorem dL_law_754 : decode cL_law 754 = .ok (.iadd, 1) := by decide +kernel
theorem dL_law_755 : decode cL_law 755 = .ok (.iaload, 1) := by decide +kernel
theorem dL_law_756 : decode cL_law 756 = .ok (.invokevirtual 109, 3) := by decide +kernel
theorem dL_law_759 : decode cL_law 759 = .ok (.if_icmp .eq 19, 3) := by decide +kernel
theorem dL_law_762 : decode cL_law 762 = .ok (.iconst 0, 1) := by decide +kernel
theorem dL_law_763 : decode cL_law 763 = .ok (.ireturn, 1) := by decide +kernel
theorem dL_law_764 : decode cL_law 764 = .ok (.aload_n 1, 1) := by decide +kernel
theorem dL_law_765 : decode cL_law 765 = .ok (.invokevirtual 110, 3) := by decide +kernel
theorem dL_law_768 : decode cL_law 768 = .ok (.aload_n 2, 1) := by decide +kernel
theorem dL_law_769 : decode cL_law 769 = .ok (.invokevirtual 114, 3) := by decide +kernel
theorem dL_law_772 : decode cL_law 772 = .ok (.lcmp, 1) := by decide +kernel
theorem dL_law_773 : decode cL_law 773 = .ok (.ifCond .eq 5, 3) := by decide +kernel
theorem dL_law_776 : decode cL_law 776 = .ok (.iconst 0, 1) := by decide +kernel
theorem dL_law_777 : decode cL_law 777 = .ok (.ireturn, 1) := by decide +kernel
theorem dL_law_778 : decode cL_law 778 = .ok (.iinc 3 4, 3) := by decide +kernel
theorem dL_law_781 : decode cL_law 781 = .ok (.goto (-763), 3) := by decide +kernel
theorem dL_law_784 : decode cL_law 784 = .ok (.iconst 1, 1) := by decide +kernel
theorem dL_law_785 : decode cL_law 785 = .ok (.ireturn, 1) := by decide +kernel
end
section
/-! the one world of a side: N cells, cell k at the address ad k, holding cf k -/
def uw (N : Nat) (ad : Nat → Nat) (cf : Nat → va_E) : va_W := (List.range N).map (fun k => (ad k, cf k))
theorem uw_get {N : Nat} {ad : Nat → Nat} {cf : Nat → va_E} {k : Nat} (hk : k < N) : (uw N ad cf)[k]? = some (ad k, cf k) := by
  simp [uw, hk]
theorem uw_lt {N : Nat} {ad : Nat → Nat} {cf : Nat → va_E} {k : Nat} {q : Nat × va_E} (h : (uw N ad cf)[k]? = some q) : k < N ∧ q = (ad k, cf k) := by
  by_cases hk : k < N
  · rw [uw_get hk] at h
    exact ⟨hk, (Option.some.inj h).symm⟩
  · simp [uw, hk] at h
theorem uw_set {N : Nat} {ad : Nat → Nat} {cf : Nat → va_E} {k : Nat} {e : va_E} (hk : k < N) : (uw N ad cf).set k (ad k, e) = uw N ad (va_up cf k e) := by
  apply List.ext_getElem?
  intro j
  by_cases hj : j < N
  · rw [uw_get hj, List.getElem?_set]
    by_cases e1 : k = j
    · subst e1
      simp [uw, va_up, hk]
    · rw [if_neg e1, uw_get hj]
      simp [va_up, Ne.symm e1]
  · have h1 : (uw N ad (va_up cf k e))[j]? = none := by simp [uw, hj]
    rw [h1, List.getElem?_set]
    have : k ≠ j := by omega
    rw [if_neg this]
    simp [uw, hj]
theorem uw_D {N : Nat} {ad : Nat → Nat} {cf cf' : Nat → va_E} {A : Nat → Prop} (h : va_D A (uw N ad cf)) : va_D A (uw N ad cf') := by
  refine ⟨fun i j p q hi hj hpq => ?_, fun k q hk => ?_⟩
  · obtain ⟨hi1, rfl⟩ := uw_lt hi
    obtain ⟨hj1, rfl⟩ := uw_lt hj
    exact h.1 i j _ _ (uw_get hi1) (uw_get hj1) hpq
  · obtain ⟨hk1, rfl⟩ := uw_lt hk
    exact h.2 k (ad k, cf k) (uw_get hk1)
/-- what a method may change: the world's cells, and what is new -/
def UA (N : Nat) (ad : Nat → Nat) (sz : Nat) : Nat → Prop := fun q => (∃ k, k < N ∧ q = ad k) ∨ sz ≤ q
def nestW : List Cond := [
  Cond.fieldLinkNest "HugTrees" 108 "HugTrees$SpanningTree" "ways" "[[I" "HugTrees",
  Cond.fieldLinkNest "HugTrees" 116 "HugTrees$SpanningTree" "above" "I" "HugTrees",
  Cond.fieldLinkNest "HugTrees" 119 "HugTrees$SpanningTree" "below" "I" "HugTrees",
  Cond.fieldLinkNest "HugTrees" 161 "HugTrees$Table" "n" "I" "HugTrees",
  Cond.fieldLinkNest "HugTrees" 51 "HugTrees$Table" "d" "[[I" "HugTrees",
  Cond.fieldLinkNest "HugTrees$Lots" 13 "HugTrees" "FACTORIALS" "[I" "HugTrees",
  Cond.fieldLinkNest "HugTrees$Lots" 19 "HugTrees$Table" "n" "I" "HugTrees",
  Cond.fieldLinkNest "HugTrees$Lots" 39 "HugTrees$Table" "d" "[[I" "HugTrees",
  Cond.fieldLinkNest "HugTrees$SpanningTree" 37 "HugTrees$Table" "n" "I" "HugTrees",
  Cond.fieldLinkNest "HugTrees$SpanningTree" 63 "HugTrees$Table" "d" "[[I" "HugTrees",
  Cond.fieldLinkNest "HugTrees$Splits" 15 "HugTrees$Table" "n" "I" "HugTrees",
  Cond.fieldLinkNest "HugTrees$Splits" 43 "HugTrees$Table" "d" "[[I" "HugTrees",
  Cond.methodLinkNest "HugTrees" 11 yX3_init "HugTrees",
  Cond.methodLinkNest "HugTrees$Splits" 54 yX4_asAnswer "HugTrees",
  Cond.methodLinkNest "HugTrees$Table" 70 yX4_asAnswer "HugTrees"]

def NW (U : State) : Prop := ∀ w ∈ nestW, va_Nw w U
theorem NW.warm {s U : State} (hW : s.WarmedH U.vm) (h : NW s) : NW U := by
  intro w hw
  have h0 := h w hw
  simp only [nestW, List.mem_cons, List.not_mem_nil, or_false] at hw
  rcases hw with rfl | rfl | rfl | rfl | rfl | rfl | rfl | rfl | rfl | rfl | rfl | rfl | rfl | rfl | rfl <;> first | exact va_Nw.warmF hW h0 | exact va_Nw.warmM hW h0
theorem nestW_tab : ∀ w ∈ nestW, w.onTables = true := by decide +kernel
theorem NW.same {u U : State} (hv : u.vm = U.vm) (h : NW u) : NW U := fun w hw => va_Nw.same (nestW_tab w hw) hv (h w hw)
def facV : Nat → Value := fun j => .int (([1, 1, 2, 6, 24, 120, 720] : List Int32).getD j 0)
def Fc (fa : Nat) (A : Nat → Prop) (U : State) (H : Heap) : Prop := va_Z "HugTrees" "FACTORIALS" "[I" (.ref fa) A U H ∧ va_T .int fa 7 facV A U H
def UP (D : va_G) (tys : List (ClassId × FieldType)) (N : Nat) (ad : Nat → Nat) (fa : Nat) (cf : Nat → va_E) (U : State) : Prop :=
  va_P D vwCl (uw N ad cf) U.heap ∧ va_K D vwCl tys U ∧ va_D (fun _ => True) (uw N ad cf) ∧ NW U ∧ Fc fa (UA N ad U.heap.size) U U.heap
def uQ (D : va_G) (N : Nat) (ad : Nat → Nat) (cf' : Nat → va_E) (o : Option Value) (A : Nat → Prop) : Array Value → State → Outcome → State → Prop :=
  fun _ st oc t => (oc = .returned o ∧ va_P D vwCl (uw N ad cf') t.heap) ∧ va_F A st t
/-- the contract of a method: the world cf becomes cf', the answer is o -/
def Ct (l : Launch) (y : MethodName) (ws : List Cond) (rm : Room) (D : va_G) (tys : List (ClassId × FieldType)) (N : Nat) (ad : Nat → Nat) (fa : Nat) (As : List Value) (cf cf' : Nat → va_E) (o : Option Value) : Prop :=
  ∀ sz : Nat, Met l y ws rm (va_Pc As (fun U => U.heap.size = sz ∧ UP D tys N ad fa cf U)) (uQ D N ad cf' o (UA N ad sz)) 0 0 (UA N ad sz)
def Wd (D : va_G) (N : Nat) (ad : Nat → Nat) (cf : Nat → va_E) (A : Nat → Prop) (H0 H : Heap) (locs : List Loc) : Prop :=
  va_P D vwCl (uw N ad cf) H ∧ va_D A (uw N ad cf) ∧ va_S A H0 H locs
def Cx (p : Program) (s : State) (m : MethodId) (args : Array Value) (meth : Method) (c : Code) (cc : ByteArray) (nL : Nat) (own : String) (D : va_G) (tys : List (ClassId × FieldType)) (fa : Nat) (A : Nat → Prop) : Prop :=
  p.tables.exec = Jvm.exec ∧ c.code = cc ∧ c.maxLocals = nL ∧ s.vm.findClass own = some m.cls ∧ (∀ w ∈ wsL_law, w.before args s = true) ∧ va_K D vwCl tys s ∧ NW s ∧ meth.locks = false ∧ (∀ q : Nat, s.heap.size ≤ q → A q) ∧ Fc fa A s s.heap
theorem wsL_good : GoodIn wsL_law wsL_law := goodIn_sub (fun _ h => h) (by decide +kernel)
theorem wU_good {y : MethodName} {b : ByteArray} {n : Nat} {r : Option FieldType} (h : Cond.code y b n r ∈ wsL_law) : GoodIn wsL_law (Cond.code y b n r :: wsL_law) := fun w hw => (List.mem_cons.mp hw).elim (fun e => e ▸ wsL_good _ h) (wsL_good w)
theorem Ct.of {l : Launch} {y : MethodName} {cc : ByteArray} {nL : Nat} {ret : Option FieldType} {rm : Room} {D : va_G} {tys : List (ClassId × FieldType)} {N : Nat} {ad : Nat → Nat} {fa : Nat} {As : List Value} {cf cf' : Nat → va_E} {o : Option Value}
    (hy : plainName y.cls = true) (hn : (lg_sl As).length ≤ nL)
    (body : ∀ (p : Program) (e : Env) (s : State) (m : MethodId) (args : Array Value) (below : List Frame) (meth : Method) (c : Code) (A : Nat → Prop), Cx p s m args meth c cc nL y.cls D tys fa A → meth.sig.returnType = ret →
      ∀ (H : Heap) (locs : List Loc), Wd D N ad cf A s.heap H locs → ∀ ls : Array Slot, lv_has ls nL (lv_args 0 As) → W p l e rm s m args below meth c H locs 0 0 (MQ below (uQ D N ad cf' o A) args s 0 0 A) (F0 m 0 ls [])) :
    Ct l y (Cond.code y cc nL ret :: wsL_law) rm D tys N ad fa As cf cf' o := by
  intro sz
  refine Met.ofW (cc := cc) (maxL := nL) (ret := ret) hy rfl ?_
  intro p e s m args below meth c s₁ B hml hv
  obtain ⟨rfl, rfl, hP, hK, hD0, hNW, hF⟩ := hv
  have hts := atoms_spec (ws := Cond.code y cc nL ret :: wsL_law) B.pre
  rw [lg_entry_eq]
  refine body p e s m _ below meth c (UA N ad s.heap.size) ⟨B.exec, B.bytes, hml, findClass_of_methodNamed B.named, fun w h => hts w (List.mem_cons_of_mem _ h), hK, hNW, B.notSynchronized, fun q h => Or.inr h, hF⟩ B.returns s.heap [] ⟨hP, ⟨hD0.1, fun k q hk => ?_⟩, va_S.rf⟩ _ (lv_entry As hn)
  obtain ⟨hk1, rfl⟩ := uw_lt hk
  exact Or.inl ⟨k, hk1, rfl⟩
section UROWS
variable {p : Program} {l : Launch} {e : Env} {R : Room} {s : State} {m : MethodId} {args : Array Value} {below : List Frame} {meth : Method} {c : Code} {H : Heap} {locs : List Loc} {cells slots : Nat} {Q : State → Prop}
variable {cc : ByteArray} {nL pc : Nat} {own : String} {ls : Array Slot} {rest : List Value} {D : va_G} {A : Nat → Prop} {tys : List (ClassId × FieldType)} {N : Nat} {ad : Nat → Nat} {fa : Nat} {cf cf' : Nat → va_E} {o : Option Value}
theorem Wd.to (h : cf = cf') {H0 : Heap} (hW : Wd D N ad cf A H0 H locs) : Wd D N ad cf' A H0 H locs := h ▸ hW
theorem u_iret (C : Cx p s m args meth c cc nL own D tys fa A) (hr : meth.sig.returnType = some .int) (hW : Wd D N ad cf A s.heap H locs) (hd : decode cc pc = .ok (.ireturn, 1)) {v : Int32} {r : Int32} (ho : v = r) (hc : cf = cf') :
    W p l e R s m args below meth c H locs 0 0 (MQ below (uQ D N ad cf' (some (.int r)) A) args s 0 0 A) (F0 m pc ls [.int v]) := by
  subst ho; subst hc
  exact W.iret (v := v) C.1 C.2.1 hr (fun t ht _ => ⟨⟨rfl, by rw [ht]; exact hW.1⟩, hW.2.2.F ht⟩) hW.2.2.2.2 hd C.2.2.2.2.2.2.2.1
theorem u_zret (C : Cx p s m args meth c cc nL own D tys fa A) (hr : meth.sig.returnType = some .boolean) (hW : Wd D N ad cf A s.heap H locs) (hd : decode cc pc = .ok (.ireturn, 1)) {v : Int32} (hv : v = 0 ∨ v = 1) {r : Int32} (ho : v = r) (hc : cf = cf') :
    W p l e R s m args below meth c H locs 0 0 (MQ below (uQ D N ad cf' (some (.int r)) A) args s 0 0 A) (F0 m pc ls [.int v]) := by
  subst ho; subst hc
  exact W.zret (v := v) C.1 C.2.1 hr (by rcases hv with rfl | rfl <;> decide +kernel) (fun t ht _ => ⟨⟨rfl, by rw [ht]; exact hW.1⟩, hW.2.2.F ht⟩) hW.2.2.2.2 hd C.2.2.2.2.2.2.2.1
theorem u_lret (C : Cx p s m args meth c cc nL own D tys fa A) (hr : meth.sig.returnType = some .long) (hW : Wd D N ad cf A s.heap H locs) (hd : decode cc pc = .ok (.lreturn, 1)) {v : Int64} {r : Int64} (ho : v = r) (hc : cf = cf') :
    W p l e R s m args below meth c H locs 0 0 (MQ below (uQ D N ad cf' (some (.long r)) A) args s 0 0 A) (F0 m pc ls [.long v]) := by
  subst ho; subst hc
  exact W.lret (v := v) C.1 C.2.1 hr (fun t ht _ => ⟨⟨rfl, by rw [ht]; exact hW.1⟩, hW.2.2.F ht⟩) hW.2.2.2.2 hd C.2.2.2.2.2.2.2.1
theorem u_vret (C : Cx p s m args meth c cc nL own D tys fa A) (hr : meth.sig.returnType = none) (hW : Wd D N ad cf A s.heap H locs) (hd : decode cc pc = .ok (.return_, 1)) (hc : cf = cf') :
    W p l e R s m args below meth c H locs 0 0 (MQ below (uQ D N ad cf' none A) args s 0 0 A) (F0 m pc ls []) := by
  subst hc
  exact W.vret C.1 C.2.1 hr (fun t ht _ => ⟨⟨rfl, by rw [ht]; exact hW.1⟩, hW.2.2.F ht⟩) hW.2.2.2.2 hd C.2.2.2.2.2.2.2.1
theorem u_aret (C : Cx p s m args meth c cc nL own D tys fa A) {rt : FieldType} (hr : meth.sig.returnType = some rt) (hrt : (∃ n, rt = .object n) ∨ ∃ t, rt = .array t) (hW : Wd D N ad cf A s.heap H locs) (hd : decode cc pc = .ok (.areturn, 1)) {a : Nat} (hc : cf = cf') :
    W p l e R s m args below meth c H locs 0 0 (MQ below (uQ D N ad cf' (some (.ref a)) A) args s 0 0 A) (F0 m pc ls [.ref a]) := by
  subst hc
  exact W.aret C.1 C.2.1 hr hrt (Or.inr ⟨a, rfl⟩) (fun t ht _ => ⟨⟨rfl, by rw [ht]; exact hW.1⟩, hW.2.2.F ht⟩) hW.2.2.2.2 hd C.2.2.2.2.2.2.2.1
/-- another name for the number on top -/
theorem u_top {x y : Int32} (h : x = y) (kk : W p l e R s m args below meth c H locs cells slots Q (F0 m pc ls (.int y :: rest))) : W p l e R s m args below meth c H locs cells slots Q (F0 m pc ls (.int x :: rest)) := by
  subst h; exact kk
theorem u_topl {x y : Int64} (h : x = y) (kk : W p l e R s m args below meth c H locs cells slots Q (F0 m pc ls (.long y :: rest))) : W p l e R s m args below meth c H locs cells slots Q (F0 m pc ls (.long x :: rest)) := by
  subst h; exact kk
theorem u_get (C : Cx p s m args meth c cc nL own D tys fa A) (hW : Wd D N ad cf A s.heap H locs) {Cn : String} {T : u_T} {NF ci index k : Nat} {fs : List Value} {v : Value} (hin : ∀ w ∈ u_ws Cn T NF, w ∈ wsL_law) (hk : k < N) (he : cf k = .inr (ci, fs)) (hc : vwCl[ci]? = some (Cn, T, NF)) (f : Nat) (hf : f < NF) (hlink : Cond.fieldLink own index (T f).1 (T f).2.1 (T f).2.2.1 ∈ wsL_law) (hv : fs[f]? = some v) (hdg : decode cc pc = .ok (.getfield index, 3))
    (kk : W p l e R s m args below meth c H locs cells slots Q (F0 m (pc + 3) ls (v :: rest))) : W p l e R s m args below meth c H locs cells slots Q (F0 m pc ls (.ref (ad k) :: rest)) :=
  va_get C.1 C.2.1 C.2.2.2.2.1 hin C.2.2.2.1 C.2.2.2.2.2.1 hW.1 k ((uw_get hk).trans (by rw [he])) hc f hf (C.2.2.2.2.1 _ hlink) (fun _ h => h) hv hdg kk
theorem u_getN (C : Cx p s m args meth c cc nL own D tys fa A) (hW : Wd D N ad cf A s.heap H locs) {Cn host : String} {T : u_T} {NF ci index k : Nat} {fs : List Value} {v : Value} (hin : ∀ w ∈ u_ws Cn T NF, w ∈ wsL_law) (hk : k < N) (he : cf k = .inr (ci, fs)) (hc : vwCl[ci]? = some (Cn, T, NF)) (f : Nat) (hf : f < NF) (hlink : Cond.fieldLinkNest own index (T f).1 (T f).2.1 (T f).2.2.1 host ∈ nestW) (hv : fs[f]? = some v) (hdg : decode cc pc = .ok (.getfield index, 3))
    (kk : W p l e R s m args below meth c H locs cells slots Q (F0 m (pc + 3) ls (v :: rest))) : W p l e R s m args below meth c H locs cells slots Q (F0 m pc ls (.ref (ad k) :: rest)) :=
  va_getN C.1 C.2.1 C.2.2.2.2.1 hin C.2.2.2.1 C.2.2.2.2.2.1 hW.1 k ((uw_get hk).trans (by rw [he])) hc f hf (va_Nw.use (nestW_tab _ hlink) (C.2.2.2.2.2.2.1 _ hlink)) (fun _ h => h) hv hdg kk
theorem u_put (C : Cx p s m args meth c cc nL own D tys fa A) (hW : Wd D N ad cf A s.heap H locs) {Cn : String} {T : u_T} {NF ci index k : Nat} {fs : List Value} {v : Value} (hin : ∀ w ∈ u_ws Cn T NF, w ∈ wsL_law) (ty0 : Nat → FieldType) (hty : ∀ k, k < NF → parseFieldDescriptor (T k).2.2.1 = some (ty0 k)) (hnm : ∀ a, a < NF → ∀ b, b < NF → a ≠ b → (T a).2.1 ≠ (T b).2.1)
    (hk : k < N) (he : cf k = .inr (ci, fs)) (hc : vwCl[ci]? = some (Cn, T, NF)) (f : Nat) (hf : f < NF) (hlink : Cond.fieldLink own index (T f).1 (T f).2.1 (T f).2.2.1 ∈ wsL_law) (hfin : (T f).2.2.2 = false) (hn : narrow (ty0 f) v = v) (hfit : fits (ty0 f) v = true) (hl : f < fs.length) (hcf : va_up cf k (.inr (ci, fs.set f v)) = cf') (hdg : decode cc pc = .ok (.putfield index, 3))
    (kk : ∀ (H1 : Heap) (locs1 : List Loc), Wd D N ad cf' A s.heap H1 locs1 → W p l e R s m args below meth c H1 locs1 cells slots Q (F0 m (pc + 3) ls rest)) : W p l e R s m args below meth c H locs cells slots Q (F0 m pc ls (v :: .ref (ad k) :: rest)) := by
  refine va_put C.1 C.2.1 C.2.2.2.2.1 hin ty0 hty hnm C.2.2.2.1 C.2.2.2.2.2.1 hW.1 hW.2.1 hW.2.2 k ((uw_get hk).trans (by rw [he])) hc f hf (C.2.2.2.2.1 _ hlink) (fun _ h => h) hfin (hty f hf) hn hfit hl hdg (fun H1 locs1 hP hD hS => ?_)
  rw [uw_set hk, hcf] at hP hD
  exact kk H1 locs1 ⟨hP, hD, hS⟩
theorem u_iald (C : Cx p s m args meth c cc nL own D tys fa A) (hW : Wd D N ad cf A s.heap H locs) {k n : Nat} {cA : ClassId} {f : Nat → Int32} (hk : k < N) (he : cf k = .inl (cA, n, .inl f)) (t0 : Nat) (ht : tys[t0]? = some (cA, .int)) {i : Int32} (a : Nat) (hi : i = nI a) (ha : a < n) (hn : n < 2 ^ 31) (hdg : decode cc pc = .ok (.iaload, 1))
    (kk : W p l e R s m args below meth c H locs cells slots Q (F0 m (pc + 1) ls (.int (f a) :: rest))) : W p l e R s m args below meth c H locs cells slots Q (F0 m pc ls (.int i :: .ref (ad k) :: rest)) := by
  subst hi
  refine va_iald C.1 C.2.1 C.2.2.2.2.2.1 hW.1 k t0 ((uw_get hk).trans (by rw [he])) ht (vp_in_nI ha hn) hdg ?_
  rw [nI_clamp (by omega)]
  exact kk
theorem u_zald (C : Cx p s m args meth c cc nL own D tys fa A) (hW : Wd D N ad cf A s.heap H locs) {k n : Nat} {cA : ClassId} {f : Nat → Int32} (hk : k < N) (he : cf k = .inl (cA, n, .inl f)) (t0 : Nat) (ht : tys[t0]? = some (cA, .boolean)) {i : Int32} (a : Nat) (hi : i = nI a) (ha : a < n) (hn : n < 2 ^ 31) (hdg : decode cc pc = .ok (.baload, 1))
    (kk : W p l e R s m args below meth c H locs cells slots Q (F0 m (pc + 1) ls (.int (f a) :: rest))) : W p l e R s m args below meth c H locs cells slots Q (F0 m pc ls (.int i :: .ref (ad k) :: rest)) := by
  subst hi
  refine va_zald C.1 C.2.1 C.2.2.2.2.2.1 hW.1 k t0 ((uw_get hk).trans (by rw [he])) ht (vp_in_nI ha hn) hdg ?_
  rw [nI_clamp (by omega)]
  exact kk
theorem u_aald (C : Cx p s m args meth c cc nL own D tys fa A) (hW : Wd D N ad cf A s.heap H locs) {k n : Nat} {cA : ClassId} {f : Nat → Option Nat} (hk : k < N) (he : cf k = .inl (cA, n, .inr (.inr (.inr (.inr f))))) (t0 : Nat) (ht : tys[t0]? = some (cA, .array .int)) {i : Int32} (a : Nat) (hi : i = nI a) (ha : a < n) (hn : n < 2 ^ 31) {q : Nat} (hq : f a = some q) (hdg : decode cc pc = .ok (.aaload, 1))
    (kk : W p l e R s m args below meth c H locs cells slots Q (F0 m (pc + 1) ls (.ref q :: rest))) : W p l e R s m args below meth c H locs cells slots Q (F0 m pc ls (.int i :: .ref (ad k) :: rest)) := by
  subst hi
  have hin : vp_in (nI a) n := vp_in_nI ha hn
  have hlt : (nI a).toNatClampNeg < n := by rw [nI_clamp (by omega)]; exact ha
  have hc := hW.1 k _ ((uw_get hk).trans (by rw [he]))
  refine W.aald (v := va_rf (f (nI a).toNatClampNeg)) (ty := .array .int) C.1 C.2.1 hc ((C.2.2.2.2.2.1.2 t0 _ ht).1 n (fun j => va_rf (f j))) rfl (fun q => by cases q) (by show ¬ (nI a < 0 ∨ (arrV _ _ _).slots.size ≤ _); rw [arrV_size]; exact hin) (by show (arrV _ _ _).slots[_]? = _; rw [arrV_read _ _ hlt]) rfl rfl hdg ?_
  rw [nI_clamp (by omega), hq]
  exact kk
theorem u_iast (C : Cx p s m args meth c cc nL own D tys fa A) (hW : Wd D N ad cf A s.heap H locs) {k n : Nat} {cA : ClassId} {f : Nat → Int32} (hk : k < N) (he : cf k = .inl (cA, n, .inl f)) (t0 : Nat) (ht : tys[t0]? = some (cA, .int)) {i x : Int32} (a : Nat) (hi : i = nI a) (ha : a < n) (hn : n < 2 ^ 31) (hcf : va_up cf k (.inl (cA, n, .inl (upd f a x))) = cf') (hdg : decode cc pc = .ok (.iastore, 1))
    (kk : ∀ (H1 : Heap) (locs1 : List Loc), Wd D N ad cf' A s.heap H1 locs1 → W p l e R s m args below meth c H1 locs1 cells slots Q (F0 m (pc + 1) ls rest)) : W p l e R s m args below meth c H locs cells slots Q (F0 m pc ls (.int x :: .int i :: .ref (ad k) :: rest)) := by
  subst hi
  refine va_iast C.1 C.2.1 C.2.2.2.2.2.1 hW.1 hW.2.1 hW.2.2 k t0 ((uw_get hk).trans (by rw [he])) ht (vp_in_nI ha hn) hdg (fun H1 locs1 hP hD hS => ?_)
  rw [nI_clamp (by omega), uw_set hk, hcf] at hP hD
  exact kk H1 locs1 ⟨hP, hD, hS⟩
theorem u_zast (C : Cx p s m args meth c cc nL own D tys fa A) (hW : Wd D N ad cf A s.heap H locs) {k n : Nat} {cA : ClassId} {f : Nat → Int32} (hk : k < N) (he : cf k = .inl (cA, n, .inl f)) (t0 : Nat) (ht : tys[t0]? = some (cA, .boolean)) {i x : Int32} (a : Nat) (hi : i = nI a) (ha : a < n) (hn : n < 2 ^ 31) (hx : vp_nar .boolean x = x) (hcf : va_up cf k (.inl (cA, n, .inl (upd f a x))) = cf') (hdg : decode cc pc = .ok (.bastore, 1))
    (kk : ∀ (H1 : Heap) (locs1 : List Loc), Wd D N ad cf' A s.heap H1 locs1 → W p l e R s m args below meth c H1 locs1 cells slots Q (F0 m (pc + 1) ls rest)) : W p l e R s m args below meth c H locs cells slots Q (F0 m pc ls (.int x :: .int i :: .ref (ad k) :: rest)) := by
  subst hi
  refine va_zast C.1 C.2.1 C.2.2.2.2.2.1 hW.1 hW.2.1 hW.2.2 k t0 ((uw_get hk).trans (by rw [he])) ht (vp_in_nI ha hn) hdg (fun H1 locs1 hP hD hS => ?_)
  rw [nI_clamp (by omega), hx, uw_set hk, hcf] at hP hD
  exact kk H1 locs1 ⟨hP, hD, hS⟩
theorem u_alen (C : Cx p s m args meth c cc nL own D tys fa A) (hW : Wd D N ad cf A s.heap H locs) {k n : Nat} {cA : ClassId} {f : Nat → Int32} (hk : k < N) (he : cf k = .inl (cA, n, .inl f)) (t0 : Nat) (ht : tys[t0]? = some (cA, .int)) (hdg : decode cc pc = .ok (.arraylength, 1))
    (kk : W p l e R s m args below meth c H locs cells slots Q (F0 m (pc + 1) ls (.int (nI n) :: rest))) : W p l e R s m args below meth c H locs cells slots Q (F0 m pc ls (.ref (ad k) :: rest)) :=
  va_alen (x := (n, .inl f)) C.1 C.2.1 C.2.2.2.2.2.1 hW.1 k t0 ((uw_get hk).trans (by rw [he])) ht rfl hdg kk
end UROWS
end
section
theorem in_r1 : ∀ w ∈ wsL_law_r1, w ∈ wsL_law := fun _ h => List.mem_append_left _ (List.mem_append_left _ (List.mem_append_left _ (List.mem_append_left _ (List.mem_append_left _ (List.mem_append_left _ (List.mem_append_left _ (List.mem_append_left _ h)))))))
theorem in_r2 : ∀ w ∈ wsL_law_r2, w ∈ wsL_law := fun _ h => List.mem_append_left _ (List.mem_append_left _ (List.mem_append_left _ (List.mem_append_left _ (List.mem_append_left _ (List.mem_append_left _ (List.mem_append_left _ (List.mem_append_right _ (List.mem_append_left _ h))))))))
theorem in_r3 : ∀ w ∈ wsL_law_r3, w ∈ wsL_law := fun _ h => List.mem_append_left _ (List.mem_append_left _ (List.mem_append_left _ (List.mem_append_left _ (List.mem_append_left _ (List.mem_append_left _ (List.mem_append_left _ (List.mem_append_right _ (List.mem_append_right _ (List.mem_append_left _ h)))))))))
theorem in_r4 : ∀ w ∈ wsL_law_r4, w ∈ wsL_law := fun _ h => List.mem_append_left _ (List.mem_append_left _ (List.mem_append_left _ (List.mem_append_left _ (List.mem_append_left _ (List.mem_append_left _ (List.mem_append_left _ (List.mem_append_right _ (List.mem_append_right _ (List.mem_append_right _ (List.mem_append_left _ h))))))))))
theorem in_r5 : ∀ w ∈ wsL_law_r5, w ∈ wsL_law := fun _ h => List.mem_append_left _ (List.mem_append_left _ (List.mem_append_left _ (List.mem_append_left _ (List.mem_append_left _ (List.mem_append_left _ (List.mem_append_left _ (List.mem_append_right _ (List.mem_append_right _ (List.mem_append_right _ (List.mem_append_right _ (List.mem_append_left _ h)))))))))))
theorem in_r6 : ∀ w ∈ wsL_law_r6, w ∈ wsL_law := fun _ h => List.mem_append_left _ (List.mem_append_left _ (List.mem_append_left _ (List.mem_append_left _ (List.mem_append_left _ (List.mem_append_left _ (List.mem_append_left _ (List.mem_append_right _ (List.mem_append_right _ (List.mem_append_right _ (List.mem_append_right _ (List.mem_append_right _ (List.mem_append_left _ h))))))))))))
theorem in_r7 : ∀ w ∈ wsL_law_r7, w ∈ wsL_law := fun _ h => List.mem_append_left _ (List.mem_append_left _ (List.mem_append_left _ (List.mem_append_left _ (List.mem_append_left _ (List.mem_append_left _ (List.mem_append_left _ (List.mem_append_right _ (List.mem_append_right _ (List.mem_append_right _ (List.mem_append_right _ (List.mem_append_right _ (List.mem_append_right _ (List.mem_append_left _ h)))))))))))))
theorem in_r8 : ∀ w ∈ wsL_law_r8, w ∈ wsL_law := fun _ h => List.mem_append_left _ (List.mem_append_left _ (List.mem_append_left _ (List.mem_append_left _ (List.mem_append_left _ (List.mem_append_left _ (List.mem_append_left _ (List.mem_append_right _ (List.mem_append_right _ (List.mem_append_right _ (List.mem_append_right _ (List.mem_append_right _ (List.mem_append_right _ (List.mem_append_right _ (List.mem_append_left _ h))))))))))))))
theorem in_r9 : ∀ w ∈ wsL_law_r9, w ∈ wsL_law := fun _ h => List.mem_append_left _ (List.mem_append_left _ (List.mem_append_left _ (List.mem_append_left _ (List.mem_append_left _ (List.mem_append_left _ (List.mem_append_left _ (List.mem_append_right _ (List.mem_append_right _ (List.mem_append_right _ (List.mem_append_right _ (List.mem_append_right _ (List.mem_append_right _ (List.mem_append_right _ (List.mem_append_right _ (List.mem_append_left _ h)))))))))))))))
theorem in_r10 : ∀ w ∈ wsL_law_r10, w ∈ wsL_law := fun _ h => List.mem_append_left _ (List.mem_append_left _ (List.mem_append_left _ (List.mem_append_left _ (List.mem_append_left _ (List.mem_append_left _ (List.mem_append_left _ (List.mem_append_right _ (List.mem_append_right _ (List.mem_append_right _ (List.mem_append_right _ (List.mem_append_right _ (List.mem_append_right _ (List.mem_append_right _ (List.mem_append_right _ (List.mem_append_right _ (List.mem_append_left _ h))))))))))))))))
theorem in_r11 : ∀ w ∈ wsL_law_r11, w ∈ wsL_law := fun _ h => List.mem_append_left _ (List.mem_append_left _ (List.mem_append_left _ (List.mem_append_left _ (List.mem_append_left _ (List.mem_append_left _ (List.mem_append_left _ (List.mem_append_right _ (List.mem_append_right _ (List.mem_append_right _ (List.mem_append_right _ (List.mem_append_right _ (List.mem_append_right _ (List.mem_append_right _ (List.mem_append_right _ (List.mem_append_right _ (List.mem_append_right _ (List.mem_append_left _ h)))))))))))))))))
theorem in_r12 : ∀ w ∈ wsL_law_r12, w ∈ wsL_law := fun _ h => List.mem_append_left _ (List.mem_append_left _ (List.mem_append_left _ (List.mem_append_left _ (List.mem_append_left _ (List.mem_append_left _ (List.mem_append_left _ (List.mem_append_right _ (List.mem_append_right _ (List.mem_append_right _ (List.mem_append_right _ (List.mem_append_right _ (List.mem_append_right _ (List.mem_append_right _ (List.mem_append_right _ (List.mem_append_right _ (List.mem_append_right _ (List.mem_append_right _ (List.mem_append_left _ h))))))))))))))))))
theorem in_r13 : ∀ w ∈ wsL_law_r13, w ∈ wsL_law := fun _ h => List.mem_append_left _ (List.mem_append_left _ (List.mem_append_left _ (List.mem_append_left _ (List.mem_append_left _ (List.mem_append_left _ (List.mem_append_left _ (List.mem_append_right _ (List.mem_append_right _ (List.mem_append_right _ (List.mem_append_right _ (List.mem_append_right _ (List.mem_append_right _ (List.mem_append_right _ (List.mem_append_right _ (List.mem_append_right _ (List.mem_append_right _ (List.mem_append_right _ (List.mem_append_right _ (List.mem_append_left _ h)))))))))))))))))))
theorem in_r14 : ∀ w ∈ wsL_law_r14, w ∈ wsL_law := fun _ h => List.mem_append_left _ (List.mem_append_left _ (List.mem_append_left _ (List.mem_append_left _ (List.mem_append_left _ (List.mem_append_left _ (List.mem_append_left _ (List.mem_append_right _ (List.mem_append_right _ (List.mem_append_right _ (List.mem_append_right _ (List.mem_append_right _ (List.mem_append_right _ (List.mem_append_right _ (List.mem_append_right _ (List.mem_append_right _ (List.mem_append_right _ (List.mem_append_right _ (List.mem_append_right _ (List.mem_append_right _ (List.mem_append_left _ h))))))))))))))))))))
theorem in_r15 : ∀ w ∈ wsL_law_r15, w ∈ wsL_law := fun _ h => List.mem_append_left _ (List.mem_append_left _ (List.mem_append_left _ (List.mem_append_left _ (List.mem_append_left _ (List.mem_append_left _ (List.mem_append_left _ (List.mem_append_right _ (List.mem_append_right _ (List.mem_append_right _ (List.mem_append_right _ (List.mem_append_right _ (List.mem_append_right _ (List.mem_append_right _ (List.mem_append_right _ (List.mem_append_right _ (List.mem_append_right _ (List.mem_append_right _ (List.mem_append_right _ (List.mem_append_right _ (List.mem_append_right _ (List.mem_append_left _ h)))))))))))))))))))))
theorem in_r16 : ∀ w ∈ wsL_law_r16, w ∈ wsL_law := fun _ h => List.mem_append_left _ (List.mem_append_left _ (List.mem_append_left _ (List.mem_append_left _ (List.mem_append_left _ (List.mem_append_left _ (List.mem_append_left _ (List.mem_append_right _ (List.mem_append_right _ (List.mem_append_right _ (List.mem_append_right _ (List.mem_append_right _ (List.mem_append_right _ (List.mem_append_right _ (List.mem_append_right _ (List.mem_append_right _ (List.mem_append_right _ (List.mem_append_right _ (List.mem_append_right _ (List.mem_append_right _ (List.mem_append_right _ (List.mem_append_right _ (List.mem_append_left _ h))))))))))))))))))))))
theorem in_r17 : ∀ w ∈ wsL_law_r17, w ∈ wsL_law := fun _ h => List.mem_append_left _ (List.mem_append_left _ (List.mem_append_left _ (List.mem_append_left _ (List.mem_append_left _ (List.mem_append_left _ (List.mem_append_left _ (List.mem_append_right _ (List.mem_append_right _ (List.mem_append_right _ (List.mem_append_right _ (List.mem_append_right _ (List.mem_append_right _ (List.mem_append_right _ (List.mem_append_right _ (List.mem_append_right _ (List.mem_append_right _ (List.mem_append_right _ (List.mem_append_right _ (List.mem_append_right _ (List.mem_append_right _ (List.mem_append_right _ (List.mem_append_right _ (List.mem_append_left _ h)))))))))))))))))))))))
theorem in_r18 : ∀ w ∈ wsL_law_r18, w ∈ wsL_law := fun _ h => List.mem_append_left _ (List.mem_append_left _ (List.mem_append_left _ (List.mem_append_left _ (List.mem_append_left _ (List.mem_append_left _ (List.mem_append_left _ (List.mem_append_right _ (List.mem_append_right _ (List.mem_append_right _ (List.mem_append_right _ (List.mem_append_right _ (List.mem_append_right _ (List.mem_append_right _ (List.mem_append_right _ (List.mem_append_right _ (List.mem_append_right _ (List.mem_append_right _ (List.mem_append_right _ (List.mem_append_right _ (List.mem_append_right _ (List.mem_append_right _ (List.mem_append_right _ (List.mem_append_right _ (List.mem_append_left _ h))))))))))))))))))))))))
theorem in_r19 : ∀ w ∈ wsL_law_r19, w ∈ wsL_law := fun _ h => List.mem_append_left _ (List.mem_append_left _ (List.mem_append_left _ (List.mem_append_left _ (List.mem_append_left _ (List.mem_append_left _ (List.mem_append_left _ (List.mem_append_right _ (List.mem_append_right _ (List.mem_append_right _ (List.mem_append_right _ (List.mem_append_right _ (List.mem_append_right _ (List.mem_append_right _ (List.mem_append_right _ (List.mem_append_right _ (List.mem_append_right _ (List.mem_append_right _ (List.mem_append_right _ (List.mem_append_right _ (List.mem_append_right _ (List.mem_append_right _ (List.mem_append_right _ (List.mem_append_right _ (List.mem_append_right _ (List.mem_append_left _ h)))))))))))))))))))))))))
theorem in_r20 : ∀ w ∈ wsL_law_r20, w ∈ wsL_law := fun _ h => List.mem_append_left _ (List.mem_append_left _ (List.mem_append_left _ (List.mem_append_left _ (List.mem_append_left _ (List.mem_append_left _ (List.mem_append_left _ (List.mem_append_right _ (List.mem_append_right _ (List.mem_append_right _ (List.mem_append_right _ (List.mem_append_right _ (List.mem_append_right _ (List.mem_append_right _ (List.mem_append_right _ (List.mem_append_right _ (List.mem_append_right _ (List.mem_append_right _ (List.mem_append_right _ (List.mem_append_right _ (List.mem_append_right _ (List.mem_append_right _ (List.mem_append_right _ (List.mem_append_right _ (List.mem_append_right _ (List.mem_append_right _ (List.mem_append_left _ h))))))))))))))))))))))))))
theorem in_r21 : ∀ w ∈ wsL_law_r21, w ∈ wsL_law := fun _ h => List.mem_append_left _ (List.mem_append_left _ (List.mem_append_left _ (List.mem_append_left _ (List.mem_append_left _ (List.mem_append_left _ (List.mem_append_left _ (List.mem_append_right _ (List.mem_append_right _ (List.mem_append_right _ (List.mem_append_right _ (List.mem_append_right _ (List.mem_append_right _ (List.mem_append_right _ (List.mem_append_right _ (List.mem_append_right _ (List.mem_append_right _ (List.mem_append_right _ (List.mem_append_right _ (List.mem_append_right _ (List.mem_append_right _ (List.mem_append_right _ (List.mem_append_right _ (List.mem_append_right _ (List.mem_append_right _ (List.mem_append_right _ (List.mem_append_right _ (List.mem_append_left _ h)))))))))))))))))))))))))))
theorem in_r22 : ∀ w ∈ wsL_law_r22, w ∈ wsL_law := fun _ h => List.mem_append_left _ (List.mem_append_left _ (List.mem_append_left _ (List.mem_append_left _ (List.mem_append_left _ (List.mem_append_left _ (List.mem_append_left _ (List.mem_append_right _ (List.mem_append_right _ (List.mem_append_right _ (List.mem_append_right _ (List.mem_append_right _ (List.mem_append_right _ (List.mem_append_right _ (List.mem_append_right _ (List.mem_append_right _ (List.mem_append_right _ (List.mem_append_right _ (List.mem_append_right _ (List.mem_append_right _ (List.mem_append_right _ (List.mem_append_right _ (List.mem_append_right _ (List.mem_append_right _ (List.mem_append_right _ (List.mem_append_right _ (List.mem_append_right _ (List.mem_append_right _ (List.mem_append_left _ h))))))))))))))))))))))))))))
theorem in_r23 : ∀ w ∈ wsL_law_r23, w ∈ wsL_law := fun _ h => List.mem_append_left _ (List.mem_append_left _ (List.mem_append_left _ (List.mem_append_left _ (List.mem_append_left _ (List.mem_append_left _ (List.mem_append_left _ (List.mem_append_right _ (List.mem_append_right _ (List.mem_append_right _ (List.mem_append_right _ (List.mem_append_right _ (List.mem_append_right _ (List.mem_append_right _ (List.mem_append_right _ (List.mem_append_right _ (List.mem_append_right _ (List.mem_append_right _ (List.mem_append_right _ (List.mem_append_right _ (List.mem_append_right _ (List.mem_append_right _ (List.mem_append_right _ (List.mem_append_right _ (List.mem_append_right _ (List.mem_append_right _ (List.mem_append_right _ (List.mem_append_right _ (List.mem_append_right _ (List.mem_append_left _ h)))))))))))))))))))))))))))))
theorem in_r24 : ∀ w ∈ wsL_law_r24, w ∈ wsL_law := fun _ h => List.mem_append_left _ (List.mem_append_left _ (List.mem_append_left _ (List.mem_append_left _ (List.mem_append_left _ (List.mem_append_left _ (List.mem_append_left _ (List.mem_append_right _ (List.mem_append_right _ (List.mem_append_right _ (List.mem_append_right _ (List.mem_append_right _ (List.mem_append_right _ (List.mem_append_right _ (List.mem_append_right _ (List.mem_append_right _ (List.mem_append_right _ (List.mem_append_right _ (List.mem_append_right _ (List.mem_append_right _ (List.mem_append_right _ (List.mem_append_right _ (List.mem_append_right _ (List.mem_append_right _ (List.mem_append_right _ (List.mem_append_right _ (List.mem_append_right _ (List.mem_append_right _ (List.mem_append_right _ (List.mem_append_right _ (h))))))))))))))))))))))))))))))
theorem mw_0 : Cond.classLink RL 7 RX4 ∈ wsL_law := in_r1 _ (List.mem_of_getElem? (i := 0) rfl)
theorem mw_1 : Cond.instantiable RX4 5 ∈ wsL_law := in_r1 _ (List.mem_of_getElem? (i := 1) rfl)
theorem mw_2 : Cond.initialized RX4 ∈ wsL_law := in_r1 _ (List.mem_of_getElem? (i := 2) rfl)
theorem mw_3 : Cond.classLink RL 10 RX5 ∈ wsL_law := in_r1 _ (List.mem_of_getElem? (i := 3) rfl)
theorem mw_4 : Cond.instantiable RX5 11 ∈ wsL_law := in_r1 _ (List.mem_of_getElem? (i := 4) rfl)
theorem mw_5 : Cond.initialized RX5 ∈ wsL_law := in_r1 _ (List.mem_of_getElem? (i := 5) rfl)
theorem mw_6 : Cond.methodLink RL 9 yX4_init ∈ wsL_law := in_r1 _ (List.mem_of_getElem? (i := 6) rfl)
theorem mw_7 : Cond.instanceMethod yX4_init ∈ wsL_law := in_r1 _ (List.mem_of_getElem? (i := 7) rfl)
theorem mw_8 : Cond.code yX4_init cX4_init 1 none ∈ wsL_law := in_r1 _ (List.mem_of_getElem? (i := 8) rfl)
theorem mw_9 : Cond.methodLink RX4 3 objectInit ∈ wsL_law := in_r1 _ (List.mem_of_getElem? (i := 9) rfl)
theorem mw_10 : Cond.instanceMethod objectInit ∈ wsL_law := in_r1 _ (List.mem_of_getElem? (i := 10) rfl)
theorem mw_11 : Cond.code objectInit ⟨#[0xb1]⟩ 1 none ∈ wsL_law := in_r1 _ (List.mem_of_getElem? (i := 11) rfl)
theorem mw_12 : Cond.classLink RX4 9 RX3 ∈ wsL_law := in_r1 _ (List.mem_of_getElem? (i := 12) rfl)
theorem mw_13 : Cond.instantiable RX3 3 ∈ wsL_law := in_r1 _ (List.mem_of_getElem? (i := 13) rfl)
theorem mw_14 : Cond.initialized RX3 ∈ wsL_law := in_r1 _ (List.mem_of_getElem? (i := 14) rfl)
theorem mw_15 : Cond.fieldLink RX4 12 "HugTrees" "table" "LHugTrees$Table;" ∈ wsL_law := in_r1 _ (List.mem_of_getElem? (i := 15) rfl)
theorem mw_16 : Cond.classLink RX4 16 RX1 ∈ wsL_law := in_r1 _ (List.mem_of_getElem? (i := 16) rfl)
theorem mw_17 : Cond.instantiable RX1 7 ∈ wsL_law := in_r1 _ (List.mem_of_getElem? (i := 17) rfl)
theorem mw_18 : Cond.initialized RX1 ∈ wsL_law := in_r1 _ (List.mem_of_getElem? (i := 18) rfl)
theorem mw_19 : Cond.fieldLink RX4 21 "HugTrees" "tree" "LHugTrees$SpanningTree;" ∈ wsL_law := in_r1 _ (List.mem_of_getElem? (i := 19) rfl)
theorem mw_20 : Cond.classLink RX4 25 RX2 ∈ wsL_law := in_r1 _ (List.mem_of_getElem? (i := 20) rfl)
theorem mw_21 : Cond.instantiable RX2 1 ∈ wsL_law := in_r1 _ (List.mem_of_getElem? (i := 21) rfl)
theorem mw_22 : Cond.initialized RX2 ∈ wsL_law := in_r1 _ (List.mem_of_getElem? (i := 22) rfl)
theorem mw_23 : Cond.fieldLink RX4 28 "HugTrees" "splits" "LHugTrees$Splits;" ∈ wsL_law := in_r1 _ (List.mem_of_getElem? (i := 23) rfl)
theorem mw_24 : Cond.classLink RX4 32 RX0 ∈ wsL_law := in_r2 _ (List.mem_of_getElem? (i := 0) rfl)
theorem mw_25 : Cond.instantiable RX0 1 ∈ wsL_law := in_r2 _ (List.mem_of_getElem? (i := 1) rfl)
theorem mw_26 : Cond.initialized RX0 ∈ wsL_law := in_r2 _ (List.mem_of_getElem? (i := 2) rfl)
theorem mw_27 : Cond.fieldLink RX4 35 "HugTrees" "lots" "LHugTrees$Lots;" ∈ wsL_law := in_r2 _ (List.mem_of_getElem? (i := 3) rfl)
theorem mw_28 : Cond.fieldLink RX4 39 "HugTrees" "searches" "I" ∈ wsL_law := in_r2 _ (List.mem_of_getElem? (i := 4) rfl)
theorem mw_29 : Cond.instanceMethod yX3_init ∈ wsL_law := in_r2 _ (List.mem_of_getElem? (i := 5) rfl)
theorem mw_30 : Cond.code yX3_init cX3_init 1 none ∈ wsL_law := in_r2 _ (List.mem_of_getElem? (i := 6) rfl)
theorem mw_31 : Cond.methodLink RX3 3 objectInit ∈ wsL_law := in_r2 _ (List.mem_of_getElem? (i := 7) rfl)
theorem mw_32 : Cond.classLink RX3 9 "[[I" ∈ wsL_law := in_r2 _ (List.mem_of_getElem? (i := 8) rfl)
theorem mw_33 : Cond.arrayClass .int ∈ wsL_law := in_r2 _ (List.mem_of_getElem? (i := 9) rfl)
theorem mw_34 : Cond.fieldLink RX3 11 "HugTrees$Table" "d" "[[I" ∈ wsL_law := in_r2 _ (List.mem_of_getElem? (i := 10) rfl)
theorem mw_35 : Cond.fieldLink RX3 16 "HugTrees$Table" "made" "[[I" ∈ wsL_law := in_r2 _ (List.mem_of_getElem? (i := 11) rfl)
theorem mw_36 : Cond.methodLink RX4 18 yX1_init ∈ wsL_law := in_r2 _ (List.mem_of_getElem? (i := 12) rfl)
theorem mw_37 : Cond.instanceMethod yX1_init ∈ wsL_law := in_r2 _ (List.mem_of_getElem? (i := 13) rfl)
theorem mw_38 : Cond.code yX1_init cX1_init 2 none ∈ wsL_law := in_r2 _ (List.mem_of_getElem? (i := 14) rfl)
theorem mw_39 : Cond.methodLink RX1 3 objectInit ∈ wsL_law := in_r2 _ (List.mem_of_getElem? (i := 15) rfl)
theorem mw_40 : Cond.fieldLink RX1 9 "HugTrees$SpanningTree" "gone" "[I" ∈ wsL_law := in_r2 _ (List.mem_of_getElem? (i := 16) rfl)
theorem mw_41 : Cond.fieldLink RX1 15 "HugTrees$SpanningTree" "kept" "[I" ∈ wsL_law := in_r2 _ (List.mem_of_getElem? (i := 17) rfl)
theorem mw_42 : Cond.fieldLink RX1 18 "HugTrees$SpanningTree" "hangs" "[I" ∈ wsL_law := in_r2 _ (List.mem_of_getElem? (i := 18) rfl)
theorem mw_43 : Cond.classLink RX1 21 "[[I" ∈ wsL_law := in_r2 _ (List.mem_of_getElem? (i := 19) rfl)
theorem mw_44 : Cond.fieldLink RX1 23 "HugTrees$SpanningTree" "ways" "[[I" ∈ wsL_law := in_r2 _ (List.mem_of_getElem? (i := 20) rfl)
theorem mw_45 : Cond.fieldLink RX1 26 "HugTrees$SpanningTree" "above" "I" ∈ wsL_law := in_r2 _ (List.mem_of_getElem? (i := 21) rfl)
theorem mw_46 : Cond.fieldLink RX1 30 "HugTrees$SpanningTree" "below" "I" ∈ wsL_law := in_r2 _ (List.mem_of_getElem? (i := 22) rfl)
theorem mw_47 : Cond.fieldLink RX1 33 "HugTrees$SpanningTree" "table" "LHugTrees$Table;" ∈ wsL_law := in_r2 _ (List.mem_of_getElem? (i := 23) rfl)
theorem mw_48 : Cond.methodLink RX4 27 yX2_init ∈ wsL_law := in_r3 _ (List.mem_of_getElem? (i := 0) rfl)
theorem mw_49 : Cond.instanceMethod yX2_init ∈ wsL_law := in_r3 _ (List.mem_of_getElem? (i := 1) rfl)
theorem mw_50 : Cond.code yX2_init cX2_init 2 none ∈ wsL_law := in_r3 _ (List.mem_of_getElem? (i := 2) rfl)
theorem mw_51 : Cond.methodLink RX2 3 objectInit ∈ wsL_law := in_r3 _ (List.mem_of_getElem? (i := 3) rfl)
theorem mw_52 : Cond.fieldLink RX2 9 "HugTrees$Splits" "table" "LHugTrees$Table;" ∈ wsL_law := in_r3 _ (List.mem_of_getElem? (i := 4) rfl)
theorem mw_53 : Cond.methodLink RX4 34 yX0_init ∈ wsL_law := in_r3 _ (List.mem_of_getElem? (i := 5) rfl)
theorem mw_54 : Cond.instanceMethod yX0_init ∈ wsL_law := in_r3 _ (List.mem_of_getElem? (i := 6) rfl)
theorem mw_55 : Cond.code yX0_init cX0_init 2 none ∈ wsL_law := in_r3 _ (List.mem_of_getElem? (i := 7) rfl)
theorem mw_56 : Cond.methodLink RX0 1 objectInit ∈ wsL_law := in_r3 _ (List.mem_of_getElem? (i := 8) rfl)
theorem mw_57 : Cond.fieldLink RX0 7 "HugTrees$Lots" "table" "LHugTrees$Table;" ∈ wsL_law := in_r3 _ (List.mem_of_getElem? (i := 9) rfl)
theorem mw_58 : Cond.methodLink RX4 43 yX3_begin ∈ wsL_law := in_r3 _ (List.mem_of_getElem? (i := 10) rfl)
theorem mw_59 : Cond.instanceMethod yX3_begin ∈ wsL_law := in_r3 _ (List.mem_of_getElem? (i := 11) rfl)
theorem mw_60 : Cond.selects RX3 yX3_begin yX3_begin ∈ wsL_law := in_r3 _ (List.mem_of_getElem? (i := 12) rfl)
theorem mw_61 : Cond.code yX3_begin cX3_begin 3 none ∈ wsL_law := in_r3 _ (List.mem_of_getElem? (i := 13) rfl)
theorem mw_62 : Cond.fieldLink RX3 19 "HugTrees$Table" "n" "I" ∈ wsL_law := in_r3 _ (List.mem_of_getElem? (i := 14) rfl)
theorem mw_63 : Cond.methodLink RX3 23 yJ7_fill_53178 ∈ wsL_law := in_r3 _ (List.mem_of_getElem? (i := 15) rfl)
theorem mw_64 : Cond.static yJ7_fill_53178 ∈ wsL_law := in_r3 _ (List.mem_of_getElem? (i := 16) rfl)
theorem mw_65 : Cond.initialized RJ7 ∈ wsL_law := in_r3 _ (List.mem_of_getElem? (i := 17) rfl)
theorem mw_66 : Cond.code yJ7_fill_53178 cJ7_fill_53178 4 none ∈ wsL_law := in_r3 _ (List.mem_of_getElem? (i := 18) rfl)
theorem mw_67 : Cond.methodLink RL 12 yX5_init ∈ wsL_law := in_r3 _ (List.mem_of_getElem? (i := 19) rfl)
theorem mw_68 : Cond.instanceMethod yX5_init ∈ wsL_law := in_r3 _ (List.mem_of_getElem? (i := 20) rfl)
theorem mw_69 : Cond.code yX5_init cX5_init 1 none ∈ wsL_law := in_r3 _ (List.mem_of_getElem? (i := 21) rfl)
theorem mw_70 : Cond.methodLink RX5 1 objectInit ∈ wsL_law := in_r3 _ (List.mem_of_getElem? (i := 22) rfl)
theorem mw_71 : Cond.fieldLink RX5 7 "HugTreesModel" "n" "I" ∈ wsL_law := in_r3 _ (List.mem_of_getElem? (i := 23) rfl)
theorem mw_72 : Cond.fieldLink RX5 13 "HugTreesModel" "table" "[I" ∈ wsL_law := in_r4 _ (List.mem_of_getElem? (i := 0) rfl)
theorem mw_73 : Cond.fieldLink RX5 17 "HugTreesModel" "made" "[I" ∈ wsL_law := in_r4 _ (List.mem_of_getElem? (i := 1) rfl)
theorem mw_74 : Cond.arrayClass .boolean ∈ wsL_law := in_r4 _ (List.mem_of_getElem? (i := 2) rfl)
theorem mw_75 : Cond.fieldLink RX5 20 "HugTreesModel" "isJoined" "[Z" ∈ wsL_law := in_r4 _ (List.mem_of_getElem? (i := 3) rfl)
theorem mw_76 : Cond.fieldLink RX5 24 "HugTreesModel" "joins" "[I" ∈ wsL_law := in_r4 _ (List.mem_of_getElem? (i := 4) rfl)
theorem mw_77 : Cond.fieldLink RX5 27 "HugTreesModel" "ways" "[I" ∈ wsL_law := in_r4 _ (List.mem_of_getElem? (i := 5) rfl)
theorem mw_78 : Cond.fieldLink RX5 30 "HugTreesModel" "order" "[I" ∈ wsL_law := in_r4 _ (List.mem_of_getElem? (i := 6) rfl)
theorem mw_79 : Cond.methodLink RX5 33 yX5_begin ∈ wsL_law := in_r4 _ (List.mem_of_getElem? (i := 7) rfl)
theorem mw_80 : Cond.instanceMethod yX5_begin ∈ wsL_law := in_r4 _ (List.mem_of_getElem? (i := 8) rfl)
theorem mw_81 : Cond.selects RX5 yX5_begin yX5_begin ∈ wsL_law := in_r4 _ (List.mem_of_getElem? (i := 9) rfl)
theorem mw_82 : Cond.code yX5_begin cX5_begin 3 none ∈ wsL_law := in_r4 _ (List.mem_of_getElem? (i := 10) rfl)
theorem mw_83 : Cond.methodLink RL 13 yX4_points ∈ wsL_law := in_r4 _ (List.mem_of_getElem? (i := 11) rfl)
theorem mw_84 : Cond.instanceMethod yX4_points ∈ wsL_law := in_r4 _ (List.mem_of_getElem? (i := 12) rfl)
theorem mw_85 : Cond.selects RX4 yX4_points yX4_points ∈ wsL_law := in_r4 _ (List.mem_of_getElem? (i := 13) rfl)
theorem mw_86 : Cond.code yX4_points cX4_points 2 (some .int) ∈ wsL_law := in_r4 _ (List.mem_of_getElem? (i := 14) rfl)
theorem mw_87 : Cond.methodLink RL 17 yX5_points ∈ wsL_law := in_r4 _ (List.mem_of_getElem? (i := 15) rfl)
theorem mw_88 : Cond.instanceMethod yX5_points ∈ wsL_law := in_r4 _ (List.mem_of_getElem? (i := 16) rfl)
theorem mw_89 : Cond.selects RX5 yX5_points yX5_points ∈ wsL_law := in_r4 _ (List.mem_of_getElem? (i := 17) rfl)
theorem mw_90 : Cond.code yX5_points cX5_points 2 (some .int) ∈ wsL_law := in_r4 _ (List.mem_of_getElem? (i := 18) rfl)
theorem mw_91 : Cond.methodLink RX5 36 yX5_in ∈ wsL_law := in_r4 _ (List.mem_of_getElem? (i := 19) rfl)
theorem mw_92 : Cond.static yX5_in ∈ wsL_law := in_r4 _ (List.mem_of_getElem? (i := 20) rfl)
theorem mw_93 : Cond.code yX5_in cX5_in 3 (some .boolean) ∈ wsL_law := in_r4 _ (List.mem_of_getElem? (i := 21) rfl)
theorem mw_94 : Cond.methodLink RL 18 yX4_set ∈ wsL_law := in_r4 _ (List.mem_of_getElem? (i := 22) rfl)
theorem mw_95 : Cond.instanceMethod yX4_set ∈ wsL_law := in_r4 _ (List.mem_of_getElem? (i := 23) rfl)
theorem mw_96 : Cond.selects RX4 yX4_set yX4_set ∈ wsL_law := in_r5 _ (List.mem_of_getElem? (i := 0) rfl)
theorem mw_97 : Cond.code yX4_set cX4_set 5 (some .int) ∈ wsL_law := in_r5 _ (List.mem_of_getElem? (i := 1) rfl)
theorem mw_98 : Cond.methodLink RX4 47 yX4_areKnown ∈ wsL_law := in_r5 _ (List.mem_of_getElem? (i := 2) rfl)
theorem mw_99 : Cond.instanceMethod yX4_areKnown ∈ wsL_law := in_r5 _ (List.mem_of_getElem? (i := 3) rfl)
theorem mw_100 : Cond.selects RX4 yX4_areKnown yX4_areKnown ∈ wsL_law := in_r5 _ (List.mem_of_getElem? (i := 4) rfl)
theorem mw_101 : Cond.code yX4_areKnown cX4_areKnown 3 (some .boolean) ∈ wsL_law := in_r5 _ (List.mem_of_getElem? (i := 5) rfl)
theorem mw_102 : Cond.methodLink RX4 154 yX4_isKnown ∈ wsL_law := in_r5 _ (List.mem_of_getElem? (i := 6) rfl)
theorem mw_103 : Cond.instanceMethod yX4_isKnown ∈ wsL_law := in_r5 _ (List.mem_of_getElem? (i := 7) rfl)
theorem mw_104 : Cond.selects RX4 yX4_isKnown yX4_isKnown ∈ wsL_law := in_r5 _ (List.mem_of_getElem? (i := 8) rfl)
theorem mw_105 : Cond.code yX4_isKnown cX4_isKnown 2 (some .boolean) ∈ wsL_law := in_r5 _ (List.mem_of_getElem? (i := 9) rfl)
theorem mw_106 : Cond.methodLink RX4 55 yX3_put ∈ wsL_law := in_r5 _ (List.mem_of_getElem? (i := 10) rfl)
theorem mw_107 : Cond.instanceMethod yX3_put ∈ wsL_law := in_r5 _ (List.mem_of_getElem? (i := 11) rfl)
theorem mw_108 : Cond.selects RX3 yX3_put yX3_put ∈ wsL_law := in_r5 _ (List.mem_of_getElem? (i := 12) rfl)
theorem mw_109 : Cond.code yX3_put cX3_put 4 none ∈ wsL_law := in_r5 _ (List.mem_of_getElem? (i := 13) rfl)
theorem mw_110 : Cond.methodLink RL 22 yX5_set ∈ wsL_law := in_r5 _ (List.mem_of_getElem? (i := 14) rfl)
theorem mw_111 : Cond.instanceMethod yX5_set ∈ wsL_law := in_r5 _ (List.mem_of_getElem? (i := 15) rfl)
theorem mw_112 : Cond.selects RX5 yX5_set yX5_set ∈ wsL_law := in_r5 _ (List.mem_of_getElem? (i := 16) rfl)
theorem mw_113 : Cond.code yX5_set cX5_set 5 (some .int) ∈ wsL_law := in_r5 _ (List.mem_of_getElem? (i := 17) rfl)
theorem mw_114 : Cond.methodLink RX5 40 yX5_isPoint ∈ wsL_law := in_r5 _ (List.mem_of_getElem? (i := 18) rfl)
theorem mw_115 : Cond.instanceMethod yX5_isPoint ∈ wsL_law := in_r5 _ (List.mem_of_getElem? (i := 19) rfl)
theorem mw_116 : Cond.selects RX5 yX5_isPoint yX5_isPoint ∈ wsL_law := in_r5 _ (List.mem_of_getElem? (i := 20) rfl)
theorem mw_117 : Cond.code yX5_isPoint cX5_isPoint 2 (some .boolean) ∈ wsL_law := in_r5 _ (List.mem_of_getElem? (i := 21) rfl)
theorem mw_118 : Cond.methodLink RL 23 yX4_get ∈ wsL_law := in_r5 _ (List.mem_of_getElem? (i := 22) rfl)
theorem mw_119 : Cond.instanceMethod yX4_get ∈ wsL_law := in_r5 _ (List.mem_of_getElem? (i := 23) rfl)
theorem mw_120 : Cond.selects RX4 yX4_get yX4_get ∈ wsL_law := in_r6 _ (List.mem_of_getElem? (i := 0) rfl)
theorem mw_121 : Cond.code yX4_get cX4_get 3 (some .int) ∈ wsL_law := in_r6 _ (List.mem_of_getElem? (i := 1) rfl)
theorem mw_122 : Cond.methodLink RL 27 yX5_get ∈ wsL_law := in_r6 _ (List.mem_of_getElem? (i := 2) rfl)
theorem mw_123 : Cond.instanceMethod yX5_get ∈ wsL_law := in_r6 _ (List.mem_of_getElem? (i := 3) rfl)
theorem mw_124 : Cond.selects RX5 yX5_get yX5_get ∈ wsL_law := in_r6 _ (List.mem_of_getElem? (i := 4) rfl)
theorem mw_125 : Cond.code yX5_get cX5_get 3 (some .int) ∈ wsL_law := in_r6 _ (List.mem_of_getElem? (i := 5) rfl)
theorem mw_126 : Cond.methodLink RX5 44 yX5_d ∈ wsL_law := in_r6 _ (List.mem_of_getElem? (i := 6) rfl)
theorem mw_127 : Cond.instanceMethod yX5_d ∈ wsL_law := in_r6 _ (List.mem_of_getElem? (i := 7) rfl)
theorem mw_128 : Cond.selects RX5 yX5_d yX5_d ∈ wsL_law := in_r6 _ (List.mem_of_getElem? (i := 8) rfl)
theorem mw_129 : Cond.code yX5_d cX5_d 3 (some .int) ∈ wsL_law := in_r6 _ (List.mem_of_getElem? (i := 9) rfl)
theorem mw_130 : Cond.methodLink RL 28 yX4_is ∈ wsL_law := in_r6 _ (List.mem_of_getElem? (i := 10) rfl)
theorem mw_131 : Cond.instanceMethod yX4_is ∈ wsL_law := in_r6 _ (List.mem_of_getElem? (i := 11) rfl)
theorem mw_132 : Cond.selects RX4 yX4_is yX4_is ∈ wsL_law := in_r6 _ (List.mem_of_getElem? (i := 12) rfl)
theorem mw_133 : Cond.code yX4_is cX4_is 2 (some .int) ∈ wsL_law := in_r6 _ (List.mem_of_getElem? (i := 13) rfl)
theorem mw_134 : Cond.methodLink RX4 59 yX3_brokenThrees ∈ wsL_law := in_r6 _ (List.mem_of_getElem? (i := 14) rfl)
theorem mw_135 : Cond.instanceMethod yX3_brokenThrees ∈ wsL_law := in_r6 _ (List.mem_of_getElem? (i := 15) rfl)
theorem mw_136 : Cond.selects RX3 yX3_brokenThrees yX3_brokenThrees ∈ wsL_law := in_r6 _ (List.mem_of_getElem? (i := 16) rfl)
theorem mw_137 : Cond.code yX3_brokenThrees cX3_brokenThrees 5 (some .int) ∈ wsL_law := in_r6 _ (List.mem_of_getElem? (i := 17) rfl)
theorem mw_138 : Cond.methodLink RX3 35 yX3_shorterBy ∈ wsL_law := in_r6 _ (List.mem_of_getElem? (i := 18) rfl)
theorem mw_139 : Cond.instanceMethod yX3_shorterBy ∈ wsL_law := in_r6 _ (List.mem_of_getElem? (i := 19) rfl)
theorem mw_140 : Cond.selects RX3 yX3_shorterBy yX3_shorterBy ∈ wsL_law := in_r6 _ (List.mem_of_getElem? (i := 20) rfl)
theorem mw_141 : Cond.code yX3_shorterBy cX3_shorterBy 6 (some .int) ∈ wsL_law := in_r6 _ (List.mem_of_getElem? (i := 21) rfl)
theorem mw_142 : Cond.methodLink RX3 39 yX3_together ∈ wsL_law := in_r6 _ (List.mem_of_getElem? (i := 22) rfl)
theorem mw_143 : Cond.static yX3_together ∈ wsL_law := in_r6 _ (List.mem_of_getElem? (i := 23) rfl)
theorem mw_144 : Cond.code yX3_together cX3_together 3 (some .int) ∈ wsL_law := in_r7 _ (List.mem_of_getElem? (i := 0) rfl)
theorem mw_145 : Cond.methodLink RX3 29 Lib.Math.max.name ∈ wsL_law := in_r7 _ (List.mem_of_getElem? (i := 1) rfl)
theorem mw_146 : Cond.static Lib.Math.max.name ∈ wsL_law := in_r7 _ (List.mem_of_getElem? (i := 2) rfl)
theorem mw_147 : Cond.initialized "java/lang/Math" ∈ wsL_law := in_r7 _ (List.mem_of_getElem? (i := 3) rfl)
theorem mw_148 : Cond.code Lib.Math.max.name Lib.Math.max.code 2 (some .int) ∈ wsL_law := in_r7 _ (List.mem_of_getElem? (i := 4) rfl)
theorem mw_149 : Cond.methodLink RX4 63 yX4_asAnswer ∈ wsL_law := in_r7 _ (List.mem_of_getElem? (i := 5) rfl)
theorem mw_150 : Cond.static yX4_asAnswer ∈ wsL_law := in_r7 _ (List.mem_of_getElem? (i := 6) rfl)
theorem mw_151 : Cond.code yX4_asAnswer cX4_asAnswer 1 (some .int) ∈ wsL_law := in_r7 _ (List.mem_of_getElem? (i := 7) rfl)
theorem mw_152 : Cond.methodLink RX4 67 yX4_isNear ∈ wsL_law := in_r7 _ (List.mem_of_getElem? (i := 8) rfl)
theorem mw_153 : Cond.instanceMethod yX4_isNear ∈ wsL_law := in_r7 _ (List.mem_of_getElem? (i := 9) rfl)
theorem mw_154 : Cond.selects RX4 yX4_isNear yX4_isNear ∈ wsL_law := in_r7 _ (List.mem_of_getElem? (i := 10) rfl)
theorem mw_155 : Cond.code yX4_isNear cX4_isNear 1 (some .boolean) ∈ wsL_law := in_r7 _ (List.mem_of_getElem? (i := 11) rfl)
theorem mw_156 : Cond.methodLink RX4 71 yX3_brokenFours ∈ wsL_law := in_r7 _ (List.mem_of_getElem? (i := 12) rfl)
theorem mw_157 : Cond.instanceMethod yX3_brokenFours ∈ wsL_law := in_r7 _ (List.mem_of_getElem? (i := 13) rfl)
theorem mw_158 : Cond.selects RX3 yX3_brokenFours yX3_brokenFours ∈ wsL_law := in_r7 _ (List.mem_of_getElem? (i := 14) rfl)
theorem mw_159 : Cond.code yX3_brokenFours cX3_brokenFours 5 (some .int) ∈ wsL_law := in_r7 _ (List.mem_of_getElem? (i := 15) rfl)
theorem mw_160 : Cond.methodLink RX3 42 yX3_brokenFoursFrom ∈ wsL_law := in_r7 _ (List.mem_of_getElem? (i := 16) rfl)
theorem mw_161 : Cond.instanceMethod yX3_brokenFoursFrom ∈ wsL_law := in_r7 _ (List.mem_of_getElem? (i := 17) rfl)
theorem mw_162 : Cond.selects RX3 yX3_brokenFoursFrom yX3_brokenFoursFrom ∈ wsL_law := in_r7 _ (List.mem_of_getElem? (i := 18) rfl)
theorem mw_163 : Cond.code yX3_brokenFoursFrom cX3_brokenFoursFrom 6 (some .int) ∈ wsL_law := in_r7 _ (List.mem_of_getElem? (i := 19) rfl)
theorem mw_164 : Cond.methodLink RX3 45 yX3_twoGreatestAlike ∈ wsL_law := in_r7 _ (List.mem_of_getElem? (i := 20) rfl)
theorem mw_165 : Cond.static yX3_twoGreatestAlike ∈ wsL_law := in_r7 _ (List.mem_of_getElem? (i := 21) rfl)
theorem mw_166 : Cond.code yX3_twoGreatestAlike cX3_twoGreatestAlike 4 (some .boolean) ∈ wsL_law := in_r7 _ (List.mem_of_getElem? (i := 22) rfl)
theorem mw_167 : Cond.methodLink RL 31 yX5_is ∈ wsL_law := in_r7 _ (List.mem_of_getElem? (i := 23) rfl)
theorem mw_168 : Cond.instanceMethod yX5_is ∈ wsL_law := in_r8 _ (List.mem_of_getElem? (i := 0) rfl)
theorem mw_169 : Cond.selects RX5 yX5_is yX5_is ∈ wsL_law := in_r8 _ (List.mem_of_getElem? (i := 1) rfl)
theorem mw_170 : Cond.code yX5_is cX5_is 2 (some .int) ∈ wsL_law := in_r8 _ (List.mem_of_getElem? (i := 2) rfl)
theorem mw_171 : Cond.methodLink RX5 55 yX5_brokenOf ∈ wsL_law := in_r8 _ (List.mem_of_getElem? (i := 3) rfl)
theorem mw_172 : Cond.instanceMethod yX5_brokenOf ∈ wsL_law := in_r8 _ (List.mem_of_getElem? (i := 4) rfl)
theorem mw_173 : Cond.selects RX5 yX5_brokenOf yX5_brokenOf ∈ wsL_law := in_r8 _ (List.mem_of_getElem? (i := 5) rfl)
theorem mw_174 : Cond.code yX5_brokenOf cX5_brokenOf 7 (some .int) ∈ wsL_law := in_r8 _ (List.mem_of_getElem? (i := 6) rfl)
theorem mw_175 : Cond.methodLink RX5 48 yX5_greater ∈ wsL_law := in_r8 _ (List.mem_of_getElem? (i := 7) rfl)
theorem mw_176 : Cond.static yX5_greater ∈ wsL_law := in_r8 _ (List.mem_of_getElem? (i := 8) rfl)
theorem mw_177 : Cond.code yX5_greater cX5_greater 2 (some .int) ∈ wsL_law := in_r8 _ (List.mem_of_getElem? (i := 9) rfl)
theorem mw_178 : Cond.methodLink RX5 51 yX5_areFour ∈ wsL_law := in_r8 _ (List.mem_of_getElem? (i := 10) rfl)
theorem mw_179 : Cond.instanceMethod yX5_areFour ∈ wsL_law := in_r8 _ (List.mem_of_getElem? (i := 11) rfl)
theorem mw_180 : Cond.selects RX5 yX5_areFour yX5_areFour ∈ wsL_law := in_r8 _ (List.mem_of_getElem? (i := 12) rfl)
theorem mw_181 : Cond.code yX5_areFour cX5_areFour 9 (some .boolean) ∈ wsL_law := in_r8 _ (List.mem_of_getElem? (i := 13) rfl)
theorem mw_182 : Cond.methodLink RL 32 yX4_broken ∈ wsL_law := in_r8 _ (List.mem_of_getElem? (i := 14) rfl)
theorem mw_183 : Cond.instanceMethod yX4_broken ∈ wsL_law := in_r8 _ (List.mem_of_getElem? (i := 15) rfl)
theorem mw_184 : Cond.selects RX4 yX4_broken yX4_broken ∈ wsL_law := in_r8 _ (List.mem_of_getElem? (i := 16) rfl)
theorem mw_185 : Cond.code yX4_broken cX4_broken 2 (some .int) ∈ wsL_law := in_r8 _ (List.mem_of_getElem? (i := 17) rfl)
theorem mw_186 : Cond.methodLink RL 35 yX5_broken ∈ wsL_law := in_r8 _ (List.mem_of_getElem? (i := 18) rfl)
theorem mw_187 : Cond.instanceMethod yX5_broken ∈ wsL_law := in_r8 _ (List.mem_of_getElem? (i := 19) rfl)
theorem mw_188 : Cond.selects RX5 yX5_broken yX5_broken ∈ wsL_law := in_r8 _ (List.mem_of_getElem? (i := 20) rfl)
theorem mw_189 : Cond.code yX5_broken cX5_broken 2 (some .int) ∈ wsL_law := in_r8 _ (List.mem_of_getElem? (i := 21) rfl)
theorem mw_190 : Cond.methodLink RL 36 yX4_mend ∈ wsL_law := in_r8 _ (List.mem_of_getElem? (i := 22) rfl)
theorem mw_191 : Cond.instanceMethod yX4_mend ∈ wsL_law := in_r8 _ (List.mem_of_getElem? (i := 23) rfl)
theorem mw_192 : Cond.selects RX4 yX4_mend yX4_mend ∈ wsL_law := in_r9 _ (List.mem_of_getElem? (i := 0) rfl)
theorem mw_193 : Cond.code yX4_mend cX4_mend 1 (some .int) ∈ wsL_law := in_r9 _ (List.mem_of_getElem? (i := 1) rfl)
theorem mw_194 : Cond.methodLink RX4 75 yX3_closed ∈ wsL_law := in_r9 _ (List.mem_of_getElem? (i := 2) rfl)
theorem mw_195 : Cond.instanceMethod yX3_closed ∈ wsL_law := in_r9 _ (List.mem_of_getElem? (i := 3) rfl)
theorem mw_196 : Cond.selects RX3 yX3_closed yX3_closed ∈ wsL_law := in_r9 _ (List.mem_of_getElem? (i := 4) rfl)
theorem mw_197 : Cond.code yX3_closed cX3_closed 3 (some (.array (.array .int))) ∈ wsL_law := in_r9 _ (List.mem_of_getElem? (i := 5) rfl)
theorem mw_198 : Cond.methodLink RX3 49 arraycopyName ∈ wsL_law := in_r9 _ (List.mem_of_getElem? (i := 6) rfl)
theorem mw_199 : Cond.native arraycopyName ∈ wsL_law := in_r9 _ (List.mem_of_getElem? (i := 7) rfl)
theorem mw_200 : Cond.static arraycopyName ∈ wsL_law := in_r9 _ (List.mem_of_getElem? (i := 8) rfl)
theorem mw_201 : Cond.initialized "java/lang/System" ∈ wsL_law := in_r9 _ (List.mem_of_getElem? (i := 9) rfl)
theorem mw_202 : Cond.methodLink RX3 55 yX3_shortenBy ∈ wsL_law := in_r9 _ (List.mem_of_getElem? (i := 10) rfl)
theorem mw_203 : Cond.instanceMethod yX3_shortenBy ∈ wsL_law := in_r9 _ (List.mem_of_getElem? (i := 11) rfl)
theorem mw_204 : Cond.selects RX3 yX3_shortenBy yX3_shortenBy ∈ wsL_law := in_r9 _ (List.mem_of_getElem? (i := 12) rfl)
theorem mw_205 : Cond.code yX3_shortenBy cX3_shortenBy 5 none ∈ wsL_law := in_r9 _ (List.mem_of_getElem? (i := 13) rfl)
theorem mw_206 : Cond.methodLink RX3 59 Lib.Math.min.name ∈ wsL_law := in_r9 _ (List.mem_of_getElem? (i := 14) rfl)
theorem mw_207 : Cond.static Lib.Math.min.name ∈ wsL_law := in_r9 _ (List.mem_of_getElem? (i := 15) rfl)
theorem mw_208 : Cond.code Lib.Math.min.name Lib.Math.min.code 2 (some .int) ∈ wsL_law := in_r9 _ (List.mem_of_getElem? (i := 16) rfl)
theorem mw_209 : Cond.methodLink RX4 79 yX3_become ∈ wsL_law := in_r9 _ (List.mem_of_getElem? (i := 17) rfl)
theorem mw_210 : Cond.instanceMethod yX3_become ∈ wsL_law := in_r9 _ (List.mem_of_getElem? (i := 18) rfl)
theorem mw_211 : Cond.selects RX3 yX3_become yX3_become ∈ wsL_law := in_r9 _ (List.mem_of_getElem? (i := 19) rfl)
theorem mw_212 : Cond.code yX3_become cX3_become 5 (some .int) ∈ wsL_law := in_r9 _ (List.mem_of_getElem? (i := 20) rfl)
theorem mw_213 : Cond.methodLink RX3 62 yX3_put ∈ wsL_law := in_r9 _ (List.mem_of_getElem? (i := 21) rfl)
theorem mw_214 : Cond.methodLink RL 40 yX5_mend ∈ wsL_law := in_r9 _ (List.mem_of_getElem? (i := 22) rfl)
theorem mw_215 : Cond.instanceMethod yX5_mend ∈ wsL_law := in_r9 _ (List.mem_of_getElem? (i := 23) rfl)
theorem mw_216 : Cond.selects RX5 yX5_mend yX5_mend ∈ wsL_law := in_r10 _ (List.mem_of_getElem? (i := 0) rfl)
theorem mw_217 : Cond.code yX5_mend cX5_mend 1 (some .int) ∈ wsL_law := in_r10 _ (List.mem_of_getElem? (i := 1) rfl)
theorem mw_218 : Cond.methodLink RX5 59 yX5_make ∈ wsL_law := in_r10 _ (List.mem_of_getElem? (i := 2) rfl)
theorem mw_219 : Cond.instanceMethod yX5_make ∈ wsL_law := in_r10 _ (List.mem_of_getElem? (i := 3) rfl)
theorem mw_220 : Cond.selects RX5 yX5_make yX5_make ∈ wsL_law := in_r10 _ (List.mem_of_getElem? (i := 4) rfl)
theorem mw_221 : Cond.code yX5_make cX5_make 6 none ∈ wsL_law := in_r10 _ (List.mem_of_getElem? (i := 5) rfl)
theorem mw_222 : Cond.methodLink RX5 63 yX5_become ∈ wsL_law := in_r10 _ (List.mem_of_getElem? (i := 6) rfl)
theorem mw_223 : Cond.instanceMethod yX5_become ∈ wsL_law := in_r10 _ (List.mem_of_getElem? (i := 7) rfl)
theorem mw_224 : Cond.selects RX5 yX5_become yX5_become ∈ wsL_law := in_r10 _ (List.mem_of_getElem? (i := 8) rfl)
theorem mw_225 : Cond.code yX5_become cX5_become 4 (some .int) ∈ wsL_law := in_r10 _ (List.mem_of_getElem? (i := 9) rfl)
theorem mw_226 : Cond.methodLink RL 41 yX4_low ∈ wsL_law := in_r10 _ (List.mem_of_getElem? (i := 10) rfl)
theorem mw_227 : Cond.instanceMethod yX4_low ∈ wsL_law := in_r10 _ (List.mem_of_getElem? (i := 11) rfl)
theorem mw_228 : Cond.selects RX4 yX4_low yX4_low ∈ wsL_law := in_r10 _ (List.mem_of_getElem? (i := 12) rfl)
theorem mw_229 : Cond.code yX4_low cX4_low 3 (some .int) ∈ wsL_law := in_r10 _ (List.mem_of_getElem? (i := 13) rfl)
theorem mw_230 : Cond.methodLink RL 44 yX5_low ∈ wsL_law := in_r10 _ (List.mem_of_getElem? (i := 14) rfl)
theorem mw_231 : Cond.instanceMethod yX5_low ∈ wsL_law := in_r10 _ (List.mem_of_getElem? (i := 15) rfl)
theorem mw_232 : Cond.selects RX5 yX5_low yX5_low ∈ wsL_law := in_r10 _ (List.mem_of_getElem? (i := 16) rfl)
theorem mw_233 : Cond.code yX5_low cX5_low 3 (some .int) ∈ wsL_law := in_r10 _ (List.mem_of_getElem? (i := 17) rfl)
theorem mw_234 : Cond.methodLink RL 45 yX4_gap ∈ wsL_law := in_r10 _ (List.mem_of_getElem? (i := 18) rfl)
theorem mw_235 : Cond.instanceMethod yX4_gap ∈ wsL_law := in_r10 _ (List.mem_of_getElem? (i := 19) rfl)
theorem mw_236 : Cond.selects RX4 yX4_gap yX4_gap ∈ wsL_law := in_r10 _ (List.mem_of_getElem? (i := 20) rfl)
theorem mw_237 : Cond.code yX4_gap cX4_gap 1 (some .int) ∈ wsL_law := in_r10 _ (List.mem_of_getElem? (i := 21) rfl)
theorem mw_238 : Cond.methodLink RX4 83 yX3_greatestAbove ∈ wsL_law := in_r10 _ (List.mem_of_getElem? (i := 22) rfl)
theorem mw_239 : Cond.instanceMethod yX3_greatestAbove ∈ wsL_law := in_r10 _ (List.mem_of_getElem? (i := 23) rfl)
theorem mw_240 : Cond.selects RX3 yX3_greatestAbove yX3_greatestAbove ∈ wsL_law := in_r11 _ (List.mem_of_getElem? (i := 0) rfl)
theorem mw_241 : Cond.code yX3_greatestAbove cX3_greatestAbove 5 (some .int) ∈ wsL_law := in_r11 _ (List.mem_of_getElem? (i := 1) rfl)
theorem mw_242 : Cond.methodLink RL 48 yX5_gap ∈ wsL_law := in_r11 _ (List.mem_of_getElem? (i := 2) rfl)
theorem mw_243 : Cond.instanceMethod yX5_gap ∈ wsL_law := in_r11 _ (List.mem_of_getElem? (i := 3) rfl)
theorem mw_244 : Cond.selects RX5 yX5_gap yX5_gap ∈ wsL_law := in_r11 _ (List.mem_of_getElem? (i := 4) rfl)
theorem mw_245 : Cond.code yX5_gap cX5_gap 4 (some .int) ∈ wsL_law := in_r11 _ (List.mem_of_getElem? (i := 5) rfl)
theorem mw_246 : Cond.methodLink RL 49 yX4_groups ∈ wsL_law := in_r11 _ (List.mem_of_getElem? (i := 6) rfl)
theorem mw_247 : Cond.instanceMethod yX4_groups ∈ wsL_law := in_r11 _ (List.mem_of_getElem? (i := 7) rfl)
theorem mw_248 : Cond.selects RX4 yX4_groups yX4_groups ∈ wsL_law := in_r11 _ (List.mem_of_getElem? (i := 8) rfl)
theorem mw_249 : Cond.code yX4_groups cX4_groups 2 (some .int) ∈ wsL_law := in_r11 _ (List.mem_of_getElem? (i := 9) rfl)
theorem mw_250 : Cond.methodLink RX4 86 yX4_isReach ∈ wsL_law := in_r11 _ (List.mem_of_getElem? (i := 10) rfl)
theorem mw_251 : Cond.static yX4_isReach ∈ wsL_law := in_r11 _ (List.mem_of_getElem? (i := 11) rfl)
theorem mw_252 : Cond.code yX4_isReach cX4_isReach 1 (some .boolean) ∈ wsL_law := in_r11 _ (List.mem_of_getElem? (i := 12) rfl)
theorem mw_253 : Cond.methodLink RX4 90 yX3_groupsWithin ∈ wsL_law := in_r11 _ (List.mem_of_getElem? (i := 13) rfl)
theorem mw_254 : Cond.instanceMethod yX3_groupsWithin ∈ wsL_law := in_r11 _ (List.mem_of_getElem? (i := 14) rfl)
theorem mw_255 : Cond.selects RX3 yX3_groupsWithin yX3_groupsWithin ∈ wsL_law := in_r11 _ (List.mem_of_getElem? (i := 15) rfl)
theorem mw_256 : Cond.code yX3_groupsWithin cX3_groupsWithin 7 (some .int) ∈ wsL_law := in_r11 _ (List.mem_of_getElem? (i := 16) rfl)
theorem mw_257 : Cond.methodLink RX3 66 yX3_closed ∈ wsL_law := in_r11 _ (List.mem_of_getElem? (i := 17) rfl)
theorem mw_258 : Cond.methodLink RL 52 yX5_groups ∈ wsL_law := in_r11 _ (List.mem_of_getElem? (i := 18) rfl)
theorem mw_259 : Cond.instanceMethod yX5_groups ∈ wsL_law := in_r11 _ (List.mem_of_getElem? (i := 19) rfl)
theorem mw_260 : Cond.selects RX5 yX5_groups yX5_groups ∈ wsL_law := in_r11 _ (List.mem_of_getElem? (i := 20) rfl)
theorem mw_261 : Cond.code yX5_groups cX5_groups 6 (some .int) ∈ wsL_law := in_r11 _ (List.mem_of_getElem? (i := 21) rfl)
theorem mw_262 : Cond.methodLink RL 53 yX4_lower ∈ wsL_law := in_r11 _ (List.mem_of_getElem? (i := 22) rfl)
theorem mw_263 : Cond.instanceMethod yX4_lower ∈ wsL_law := in_r11 _ (List.mem_of_getElem? (i := 23) rfl)
theorem mw_264 : Cond.selects RX4 yX4_lower yX4_lower ∈ wsL_law := in_r12 _ (List.mem_of_getElem? (i := 0) rfl)
theorem mw_265 : Cond.code yX4_lower cX4_lower 1 (some .int) ∈ wsL_law := in_r12 _ (List.mem_of_getElem? (i := 1) rfl)
theorem mw_266 : Cond.methodLink RL 56 yX5_lower ∈ wsL_law := in_r12 _ (List.mem_of_getElem? (i := 2) rfl)
theorem mw_267 : Cond.instanceMethod yX5_lower ∈ wsL_law := in_r12 _ (List.mem_of_getElem? (i := 3) rfl)
theorem mw_268 : Cond.selects RX5 yX5_lower yX5_lower ∈ wsL_law := in_r12 _ (List.mem_of_getElem? (i := 4) rfl)
theorem mw_269 : Cond.code yX5_lower cX5_lower 1 (some .int) ∈ wsL_law := in_r12 _ (List.mem_of_getElem? (i := 5) rfl)
theorem mw_270 : Cond.methodLink RL 57 yX4_codes ∈ wsL_law := in_r12 _ (List.mem_of_getElem? (i := 6) rfl)
theorem mw_271 : Cond.instanceMethod yX4_codes ∈ wsL_law := in_r12 _ (List.mem_of_getElem? (i := 7) rfl)
theorem mw_272 : Cond.selects RX4 yX4_codes yX4_codes ∈ wsL_law := in_r12 _ (List.mem_of_getElem? (i := 8) rfl)
theorem mw_273 : Cond.code yX4_codes cX4_codes 1 (some .int) ∈ wsL_law := in_r12 _ (List.mem_of_getElem? (i := 9) rfl)
theorem mw_274 : Cond.methodLink RX4 93 yX1_howMany ∈ wsL_law := in_r12 _ (List.mem_of_getElem? (i := 10) rfl)
theorem mw_275 : Cond.instanceMethod yX1_howMany ∈ wsL_law := in_r12 _ (List.mem_of_getElem? (i := 11) rfl)
theorem mw_276 : Cond.selects RX1 yX1_howMany yX1_howMany ∈ wsL_law := in_r12 _ (List.mem_of_getElem? (i := 12) rfl)
theorem mw_277 : Cond.code yX1_howMany cX1_howMany 3 (some .int) ∈ wsL_law := in_r12 _ (List.mem_of_getElem? (i := 13) rfl)
theorem mw_278 : Cond.methodLink RL 60 yX5_codes ∈ wsL_law := in_r12 _ (List.mem_of_getElem? (i := 14) rfl)
theorem mw_279 : Cond.instanceMethod yX5_codes ∈ wsL_law := in_r12 _ (List.mem_of_getElem? (i := 15) rfl)
theorem mw_280 : Cond.selects RX5 yX5_codes yX5_codes ∈ wsL_law := in_r12 _ (List.mem_of_getElem? (i := 16) rfl)
theorem mw_281 : Cond.code yX5_codes cX5_codes 1 (some .int) ∈ wsL_law := in_r12 _ (List.mem_of_getElem? (i := 17) rfl)
theorem mw_282 : Cond.methodLink RX5 67 yX5_codeMany ∈ wsL_law := in_r12 _ (List.mem_of_getElem? (i := 18) rfl)
theorem mw_283 : Cond.instanceMethod yX5_codeMany ∈ wsL_law := in_r12 _ (List.mem_of_getElem? (i := 19) rfl)
theorem mw_284 : Cond.selects RX5 yX5_codeMany yX5_codeMany ∈ wsL_law := in_r12 _ (List.mem_of_getElem? (i := 20) rfl)
theorem mw_285 : Cond.code yX5_codeMany cX5_codeMany 3 (some .int) ∈ wsL_law := in_r12 _ (List.mem_of_getElem? (i := 21) rfl)
theorem mw_286 : Cond.methodLink RL 61 yX4_joined ∈ wsL_law := in_r12 _ (List.mem_of_getElem? (i := 22) rfl)
theorem mw_287 : Cond.instanceMethod yX4_joined ∈ wsL_law := in_r12 _ (List.mem_of_getElem? (i := 23) rfl)
theorem mw_288 : Cond.selects RX4 yX4_joined yX4_joined ∈ wsL_law := in_r13 _ (List.mem_of_getElem? (i := 0) rfl)
theorem mw_289 : Cond.code yX4_joined cX4_joined 4 (some .int) ∈ wsL_law := in_r13 _ (List.mem_of_getElem? (i := 1) rfl)
theorem mw_290 : Cond.methodLink RX4 96 yX4_isCode ∈ wsL_law := in_r13 _ (List.mem_of_getElem? (i := 2) rfl)
theorem mw_291 : Cond.instanceMethod yX4_isCode ∈ wsL_law := in_r13 _ (List.mem_of_getElem? (i := 3) rfl)
theorem mw_292 : Cond.selects RX4 yX4_isCode yX4_isCode ∈ wsL_law := in_r13 _ (List.mem_of_getElem? (i := 4) rfl)
theorem mw_293 : Cond.code yX4_isCode cX4_isCode 2 (some .boolean) ∈ wsL_law := in_r13 _ (List.mem_of_getElem? (i := 5) rfl)
theorem mw_294 : Cond.methodLink RX4 99 yX1_read ∈ wsL_law := in_r13 _ (List.mem_of_getElem? (i := 6) rfl)
theorem mw_295 : Cond.instanceMethod yX1_read ∈ wsL_law := in_r13 _ (List.mem_of_getElem? (i := 7) rfl)
theorem mw_296 : Cond.selects RX1 yX1_read yX1_read ∈ wsL_law := in_r13 _ (List.mem_of_getElem? (i := 8) rfl)
theorem mw_297 : Cond.code yX1_read cX1_read 4 none ∈ wsL_law := in_r13 _ (List.mem_of_getElem? (i := 9) rfl)
theorem mw_298 : Cond.methodLink RX1 42 yX1_readFigures ∈ wsL_law := in_r13 _ (List.mem_of_getElem? (i := 10) rfl)
theorem mw_299 : Cond.instanceMethod yX1_readFigures ∈ wsL_law := in_r13 _ (List.mem_of_getElem? (i := 11) rfl)
theorem mw_300 : Cond.selects RX1 yX1_readFigures yX1_readFigures ∈ wsL_law := in_r13 _ (List.mem_of_getElem? (i := 12) rfl)
theorem mw_301 : Cond.code yX1_readFigures cX1_readFigures 4 none ∈ wsL_law := in_r13 _ (List.mem_of_getElem? (i := 13) rfl)
theorem mw_302 : Cond.methodLink RX1 50 yJ7_fill_53178 ∈ wsL_law := in_r13 _ (List.mem_of_getElem? (i := 14) rfl)
theorem mw_303 : Cond.methodLink RX1 46 yX1_takeLeast ∈ wsL_law := in_r13 _ (List.mem_of_getElem? (i := 15) rfl)
theorem mw_304 : Cond.instanceMethod yX1_takeLeast ∈ wsL_law := in_r13 _ (List.mem_of_getElem? (i := 16) rfl)
theorem mw_305 : Cond.selects RX1 yX1_takeLeast yX1_takeLeast ∈ wsL_law := in_r13 _ (List.mem_of_getElem? (i := 17) rfl)
theorem mw_306 : Cond.code yX1_takeLeast cX1_takeLeast 2 (some .int) ∈ wsL_law := in_r13 _ (List.mem_of_getElem? (i := 18) rfl)
theorem mw_307 : Cond.methodLink RX4 102 yX1_joins ∈ wsL_law := in_r13 _ (List.mem_of_getElem? (i := 19) rfl)
theorem mw_308 : Cond.instanceMethod yX1_joins ∈ wsL_law := in_r13 _ (List.mem_of_getElem? (i := 20) rfl)
theorem mw_309 : Cond.selects RX1 yX1_joins yX1_joins ∈ wsL_law := in_r13 _ (List.mem_of_getElem? (i := 21) rfl)
theorem mw_310 : Cond.code yX1_joins cX1_joins 5 (some .boolean) ∈ wsL_law := in_r13 _ (List.mem_of_getElem? (i := 22) rfl)
theorem mw_311 : Cond.methodLink RL 64 yX5_joined ∈ wsL_law := in_r13 _ (List.mem_of_getElem? (i := 23) rfl)
theorem mw_312 : Cond.instanceMethod yX5_joined ∈ wsL_law := in_r14 _ (List.mem_of_getElem? (i := 0) rfl)
theorem mw_313 : Cond.selects RX5 yX5_joined yX5_joined ∈ wsL_law := in_r14 _ (List.mem_of_getElem? (i := 1) rfl)
theorem mw_314 : Cond.code yX5_joined cX5_joined 4 (some .int) ∈ wsL_law := in_r14 _ (List.mem_of_getElem? (i := 2) rfl)
theorem mw_315 : Cond.methodLink RX5 82 yX5_isCode ∈ wsL_law := in_r14 _ (List.mem_of_getElem? (i := 3) rfl)
theorem mw_316 : Cond.instanceMethod yX5_isCode ∈ wsL_law := in_r14 _ (List.mem_of_getElem? (i := 4) rfl)
theorem mw_317 : Cond.selects RX5 yX5_isCode yX5_isCode ∈ wsL_law := in_r14 _ (List.mem_of_getElem? (i := 5) rfl)
theorem mw_318 : Cond.code yX5_isCode cX5_isCode 2 (some .boolean) ∈ wsL_law := in_r14 _ (List.mem_of_getElem? (i := 6) rfl)
theorem mw_319 : Cond.methodLink RX5 77 yX5_lay ∈ wsL_law := in_r14 _ (List.mem_of_getElem? (i := 7) rfl)
theorem mw_320 : Cond.instanceMethod yX5_lay ∈ wsL_law := in_r14 _ (List.mem_of_getElem? (i := 8) rfl)
theorem mw_321 : Cond.selects RX5 yX5_lay yX5_lay ∈ wsL_law := in_r14 _ (List.mem_of_getElem? (i := 9) rfl)
theorem mw_322 : Cond.code yX5_lay cX5_lay 6 none ∈ wsL_law := in_r14 _ (List.mem_of_getElem? (i := 10) rfl)
theorem mw_323 : Cond.methodLink RX5 70 yX5_leaf ∈ wsL_law := in_r14 _ (List.mem_of_getElem? (i := 11) rfl)
theorem mw_324 : Cond.instanceMethod yX5_leaf ∈ wsL_law := in_r14 _ (List.mem_of_getElem? (i := 12) rfl)
theorem mw_325 : Cond.selects RX5 yX5_leaf yX5_leaf ∈ wsL_law := in_r14 _ (List.mem_of_getElem? (i := 13) rfl)
theorem mw_326 : Cond.code yX5_leaf cX5_leaf 2 (some .int) ∈ wsL_law := in_r14 _ (List.mem_of_getElem? (i := 14) rfl)
theorem mw_327 : Cond.methodLink RX5 73 yX5_join ∈ wsL_law := in_r14 _ (List.mem_of_getElem? (i := 15) rfl)
theorem mw_328 : Cond.instanceMethod yX5_join ∈ wsL_law := in_r14 _ (List.mem_of_getElem? (i := 16) rfl)
theorem mw_329 : Cond.selects RX5 yX5_join yX5_join ∈ wsL_law := in_r14 _ (List.mem_of_getElem? (i := 17) rfl)
theorem mw_330 : Cond.code yX5_join cX5_join 3 none ∈ wsL_law := in_r14 _ (List.mem_of_getElem? (i := 18) rfl)
theorem mw_331 : Cond.methodLink RL 65 yX4_way ∈ wsL_law := in_r14 _ (List.mem_of_getElem? (i := 19) rfl)
theorem mw_332 : Cond.instanceMethod yX4_way ∈ wsL_law := in_r14 _ (List.mem_of_getElem? (i := 20) rfl)
theorem mw_333 : Cond.selects RX4 yX4_way yX4_way ∈ wsL_law := in_r14 _ (List.mem_of_getElem? (i := 21) rfl)
theorem mw_334 : Cond.code yX4_way cX4_way 4 (some .int) ∈ wsL_law := in_r14 _ (List.mem_of_getElem? (i := 22) rfl)
theorem mw_335 : Cond.methodLink RX4 105 yX1_lay ∈ wsL_law := in_r14 _ (List.mem_of_getElem? (i := 23) rfl)
theorem mw_336 : Cond.instanceMethod yX1_lay ∈ wsL_law := in_r15 _ (List.mem_of_getElem? (i := 0) rfl)
theorem mw_337 : Cond.selects RX1 yX1_lay yX1_lay ∈ wsL_law := in_r15 _ (List.mem_of_getElem? (i := 1) rfl)
theorem mw_338 : Cond.code yX1_lay cX1_lay 5 none ∈ wsL_law := in_r15 _ (List.mem_of_getElem? (i := 2) rfl)
theorem mw_339 : Cond.methodLink RX1 56 yX1_read ∈ wsL_law := in_r15 _ (List.mem_of_getElem? (i := 3) rfl)
theorem mw_340 : Cond.methodLink RX1 59 yX1_layWay ∈ wsL_law := in_r15 _ (List.mem_of_getElem? (i := 4) rfl)
theorem mw_341 : Cond.instanceMethod yX1_layWay ∈ wsL_law := in_r15 _ (List.mem_of_getElem? (i := 5) rfl)
theorem mw_342 : Cond.selects RX1 yX1_layWay yX1_layWay ∈ wsL_law := in_r15 _ (List.mem_of_getElem? (i := 6) rfl)
theorem mw_343 : Cond.code yX1_layWay cX1_layWay 5 none ∈ wsL_law := in_r15 _ (List.mem_of_getElem? (i := 7) rfl)
theorem mw_344 : Cond.methodLink RL 68 yX5_way ∈ wsL_law := in_r15 _ (List.mem_of_getElem? (i := 8) rfl)
theorem mw_345 : Cond.instanceMethod yX5_way ∈ wsL_law := in_r15 _ (List.mem_of_getElem? (i := 9) rfl)
theorem mw_346 : Cond.selects RX5 yX5_way yX5_way ∈ wsL_law := in_r15 _ (List.mem_of_getElem? (i := 10) rfl)
theorem mw_347 : Cond.code yX5_way cX5_way 4 (some .int) ∈ wsL_law := in_r15 _ (List.mem_of_getElem? (i := 11) rfl)
theorem mw_348 : Cond.methodLink RX5 85 yX5_go ∈ wsL_law := in_r15 _ (List.mem_of_getElem? (i := 12) rfl)
theorem mw_349 : Cond.instanceMethod yX5_go ∈ wsL_law := in_r15 _ (List.mem_of_getElem? (i := 13) rfl)
theorem mw_350 : Cond.selects RX5 yX5_go yX5_go ∈ wsL_law := in_r15 _ (List.mem_of_getElem? (i := 14) rfl)
theorem mw_351 : Cond.code yX5_go cX5_go 6 none ∈ wsL_law := in_r15 _ (List.mem_of_getElem? (i := 15) rfl)
theorem mw_352 : Cond.constant RX5 81 (1000000) ∈ wsL_law := in_r15 _ (List.mem_of_getElem? (i := 16) rfl)
theorem mw_353 : Cond.methodLink RL 69 yX4_stretch ∈ wsL_law := in_r15 _ (List.mem_of_getElem? (i := 17) rfl)
theorem mw_354 : Cond.instanceMethod yX4_stretch ∈ wsL_law := in_r15 _ (List.mem_of_getElem? (i := 18) rfl)
theorem mw_355 : Cond.selects RX4 yX4_stretch yX4_stretch ∈ wsL_law := in_r15 _ (List.mem_of_getElem? (i := 19) rfl)
theorem mw_356 : Cond.code yX4_stretch cX4_stretch 5 (some .long) ∈ wsL_law := in_r15 _ (List.mem_of_getElem? (i := 20) rfl)
theorem mw_357 : Cond.constantLong RX4 111 (-102) ∈ wsL_law := in_r15 _ (List.mem_of_getElem? (i := 21) rfl)
theorem mw_358 : Cond.methodLink RX4 113 yX1_findStretch ∈ wsL_law := in_r15 _ (List.mem_of_getElem? (i := 22) rfl)
theorem mw_359 : Cond.instanceMethod yX1_findStretch ∈ wsL_law := in_r15 _ (List.mem_of_getElem? (i := 23) rfl)
theorem mw_360 : Cond.selects RX1 yX1_findStretch yX1_findStretch ∈ wsL_law := in_r16 _ (List.mem_of_getElem? (i := 0) rfl)
theorem mw_361 : Cond.code yX1_findStretch cX1_findStretch 3 none ∈ wsL_law := in_r16 _ (List.mem_of_getElem? (i := 1) rfl)
theorem mw_362 : Cond.methodLink RX4 122 yX4_greatestDivisor ∈ wsL_law := in_r16 _ (List.mem_of_getElem? (i := 2) rfl)
theorem mw_363 : Cond.static yX4_greatestDivisor ∈ wsL_law := in_r16 _ (List.mem_of_getElem? (i := 3) rfl)
theorem mw_364 : Cond.code yX4_greatestDivisor cX4_greatestDivisor 6 (some .int) ∈ wsL_law := in_r16 _ (List.mem_of_getElem? (i := 4) rfl)
theorem mw_365 : Cond.methodLink RL 73 yX5_stretch ∈ wsL_law := in_r16 _ (List.mem_of_getElem? (i := 5) rfl)
theorem mw_366 : Cond.instanceMethod yX5_stretch ∈ wsL_law := in_r16 _ (List.mem_of_getElem? (i := 6) rfl)
theorem mw_367 : Cond.selects RX5 yX5_stretch yX5_stretch ∈ wsL_law := in_r16 _ (List.mem_of_getElem? (i := 7) rfl)
theorem mw_368 : Cond.code yX5_stretch cX5_stretch 9 (some .long) ∈ wsL_law := in_r16 _ (List.mem_of_getElem? (i := 8) rfl)
theorem mw_369 : Cond.constantLong RX5 95 (-102) ∈ wsL_law := in_r16 _ (List.mem_of_getElem? (i := 9) rfl)
theorem mw_370 : Cond.fieldLink RX5 88 "HugTreesModel" "above" "J" ∈ wsL_law := in_r16 _ (List.mem_of_getElem? (i := 10) rfl)
theorem mw_371 : Cond.fieldLink RX5 92 "HugTreesModel" "below" "J" ∈ wsL_law := in_r16 _ (List.mem_of_getElem? (i := 11) rfl)
theorem mw_372 : Cond.methodLink RX5 97 yX5_stretchNow ∈ wsL_law := in_r16 _ (List.mem_of_getElem? (i := 12) rfl)
theorem mw_373 : Cond.instanceMethod yX5_stretchNow ∈ wsL_law := in_r16 _ (List.mem_of_getElem? (i := 13) rfl)
theorem mw_374 : Cond.selects RX5 yX5_stretchNow yX5_stretchNow ∈ wsL_law := in_r16 _ (List.mem_of_getElem? (i := 14) rfl)
theorem mw_375 : Cond.code yX5_stretchNow cX5_stretchNow 3 none ∈ wsL_law := in_r16 _ (List.mem_of_getElem? (i := 15) rfl)
theorem mw_376 : Cond.methodLink RL 74 yX4_spread ∈ wsL_law := in_r16 _ (List.mem_of_getElem? (i := 16) rfl)
theorem mw_377 : Cond.instanceMethod yX4_spread ∈ wsL_law := in_r16 _ (List.mem_of_getElem? (i := 17) rfl)
theorem mw_378 : Cond.selects RX4 yX4_spread yX4_spread ∈ wsL_law := in_r16 _ (List.mem_of_getElem? (i := 18) rfl)
theorem mw_379 : Cond.code yX4_spread cX4_spread 2 (some .int) ∈ wsL_law := in_r16 _ (List.mem_of_getElem? (i := 19) rfl)
theorem mw_380 : Cond.methodLink RX4 126 yX3_sumOf ∈ wsL_law := in_r16 _ (List.mem_of_getElem? (i := 20) rfl)
theorem mw_381 : Cond.instanceMethod yX3_sumOf ∈ wsL_law := in_r16 _ (List.mem_of_getElem? (i := 21) rfl)
theorem mw_382 : Cond.selects RX3 yX3_sumOf yX3_sumOf ∈ wsL_law := in_r16 _ (List.mem_of_getElem? (i := 22) rfl)
theorem mw_383 : Cond.code yX3_sumOf cX3_sumOf 5 (some .int) ∈ wsL_law := in_r16 _ (List.mem_of_getElem? (i := 23) rfl)
theorem mw_384 : Cond.methodLink RL 77 yX5_spread ∈ wsL_law := in_r17 _ (List.mem_of_getElem? (i := 0) rfl)
theorem mw_385 : Cond.instanceMethod yX5_spread ∈ wsL_law := in_r17 _ (List.mem_of_getElem? (i := 1) rfl)
theorem mw_386 : Cond.selects RX5 yX5_spread yX5_spread ∈ wsL_law := in_r17 _ (List.mem_of_getElem? (i := 2) rfl)
theorem mw_387 : Cond.code yX5_spread cX5_spread 2 (some .int) ∈ wsL_law := in_r17 _ (List.mem_of_getElem? (i := 3) rfl)
theorem mw_388 : Cond.methodLink RX5 100 yX5_spreadNow ∈ wsL_law := in_r17 _ (List.mem_of_getElem? (i := 4) rfl)
theorem mw_389 : Cond.instanceMethod yX5_spreadNow ∈ wsL_law := in_r17 _ (List.mem_of_getElem? (i := 5) rfl)
theorem mw_390 : Cond.selects RX5 yX5_spreadNow yX5_spreadNow ∈ wsL_law := in_r17 _ (List.mem_of_getElem? (i := 6) rfl)
theorem mw_391 : Cond.code yX5_spreadNow cX5_spreadNow 4 (some .int) ∈ wsL_law := in_r17 _ (List.mem_of_getElem? (i := 7) rfl)
theorem mw_392 : Cond.methodLink RL 78 yX4_best ∈ wsL_law := in_r17 _ (List.mem_of_getElem? (i := 8) rfl)
theorem mw_393 : Cond.instanceMethod yX4_best ∈ wsL_law := in_r17 _ (List.mem_of_getElem? (i := 9) rfl)
theorem mw_394 : Cond.selects RX4 yX4_best yX4_best ∈ wsL_law := in_r17 _ (List.mem_of_getElem? (i := 10) rfl)
theorem mw_395 : Cond.code yX4_best cX4_best 2 (some .int) ∈ wsL_law := in_r17 _ (List.mem_of_getElem? (i := 11) rfl)
theorem mw_396 : Cond.methodLink RX4 129 yX1_leastByStretch ∈ wsL_law := in_r17 _ (List.mem_of_getElem? (i := 12) rfl)
theorem mw_397 : Cond.instanceMethod yX1_leastByStretch ∈ wsL_law := in_r17 _ (List.mem_of_getElem? (i := 13) rfl)
theorem mw_398 : Cond.selects RX1 yX1_leastByStretch yX1_leastByStretch ∈ wsL_law := in_r17 _ (List.mem_of_getElem? (i := 14) rfl)
theorem mw_399 : Cond.code yX1_leastByStretch cX1_leastByStretch 6 (some .int) ∈ wsL_law := in_r17 _ (List.mem_of_getElem? (i := 15) rfl)
theorem mw_400 : Cond.methodLink RX1 66 yX1_howMany ∈ wsL_law := in_r17 _ (List.mem_of_getElem? (i := 16) rfl)
theorem mw_401 : Cond.methodLink RX1 69 yX1_lay ∈ wsL_law := in_r17 _ (List.mem_of_getElem? (i := 17) rfl)
theorem mw_402 : Cond.methodLink RX1 72 yX1_findStretch ∈ wsL_law := in_r17 _ (List.mem_of_getElem? (i := 18) rfl)
theorem mw_403 : Cond.methodLink RX4 132 yX1_leastBySpread ∈ wsL_law := in_r17 _ (List.mem_of_getElem? (i := 19) rfl)
theorem mw_404 : Cond.instanceMethod yX1_leastBySpread ∈ wsL_law := in_r17 _ (List.mem_of_getElem? (i := 20) rfl)
theorem mw_405 : Cond.selects RX1 yX1_leastBySpread yX1_leastBySpread ∈ wsL_law := in_r17 _ (List.mem_of_getElem? (i := 21) rfl)
theorem mw_406 : Cond.code yX1_leastBySpread cX1_leastBySpread 6 (some .int) ∈ wsL_law := in_r17 _ (List.mem_of_getElem? (i := 22) rfl)
theorem mw_407 : Cond.methodLink RX1 75 yX3_sumOf ∈ wsL_law := in_r17 _ (List.mem_of_getElem? (i := 23) rfl)
theorem mw_408 : Cond.methodLink RL 81 yX5_best ∈ wsL_law := in_r18 _ (List.mem_of_getElem? (i := 0) rfl)
theorem mw_409 : Cond.instanceMethod yX5_best ∈ wsL_law := in_r18 _ (List.mem_of_getElem? (i := 1) rfl)
theorem mw_410 : Cond.selects RX5 yX5_best yX5_best ∈ wsL_law := in_r18 _ (List.mem_of_getElem? (i := 2) rfl)
theorem mw_411 : Cond.code yX5_best cX5_best 12 (some .int) ∈ wsL_law := in_r18 _ (List.mem_of_getElem? (i := 3) rfl)
theorem mw_412 : Cond.fieldLink RX5 103 "HugTreesModel" "bests" "I" ∈ wsL_law := in_r18 _ (List.mem_of_getElem? (i := 4) rfl)
theorem mw_413 : Cond.methodLink RL 82 yX4_grow ∈ wsL_law := in_r18 _ (List.mem_of_getElem? (i := 5) rfl)
theorem mw_414 : Cond.instanceMethod yX4_grow ∈ wsL_law := in_r18 _ (List.mem_of_getElem? (i := 6) rfl)
theorem mw_415 : Cond.selects RX4 yX4_grow yX4_grow ∈ wsL_law := in_r18 _ (List.mem_of_getElem? (i := 7) rfl)
theorem mw_416 : Cond.code yX4_grow cX4_grow 2 (some .int) ∈ wsL_law := in_r18 _ (List.mem_of_getElem? (i := 8) rfl)
theorem mw_417 : Cond.methodLink RX4 135 yX3_greatestOf ∈ wsL_law := in_r18 _ (List.mem_of_getElem? (i := 9) rfl)
theorem mw_418 : Cond.instanceMethod yX3_greatestOf ∈ wsL_law := in_r18 _ (List.mem_of_getElem? (i := 10) rfl)
theorem mw_419 : Cond.selects RX3 yX3_greatestOf yX3_greatestOf ∈ wsL_law := in_r18 _ (List.mem_of_getElem? (i := 11) rfl)
theorem mw_420 : Cond.code yX3_greatestOf cX3_greatestOf 5 (some .int) ∈ wsL_law := in_r18 _ (List.mem_of_getElem? (i := 12) rfl)
theorem mw_421 : Cond.methodLink RL 85 yX5_grow ∈ wsL_law := in_r18 _ (List.mem_of_getElem? (i := 13) rfl)
theorem mw_422 : Cond.instanceMethod yX5_grow ∈ wsL_law := in_r18 _ (List.mem_of_getElem? (i := 14) rfl)
theorem mw_423 : Cond.selects RX5 yX5_grow yX5_grow ∈ wsL_law := in_r18 _ (List.mem_of_getElem? (i := 15) rfl)
theorem mw_424 : Cond.code yX5_grow cX5_grow 5 (some .int) ∈ wsL_law := in_r18 _ (List.mem_of_getElem? (i := 16) rfl)
theorem mw_425 : Cond.methodLink RL 86 yX4_weight ∈ wsL_law := in_r18 _ (List.mem_of_getElem? (i := 17) rfl)
theorem mw_426 : Cond.instanceMethod yX4_weight ∈ wsL_law := in_r18 _ (List.mem_of_getElem? (i := 18) rfl)
theorem mw_427 : Cond.selects RX4 yX4_weight yX4_weight ∈ wsL_law := in_r18 _ (List.mem_of_getElem? (i := 19) rfl)
theorem mw_428 : Cond.code yX4_weight cX4_weight 2 (some .int) ∈ wsL_law := in_r18 _ (List.mem_of_getElem? (i := 20) rfl)
theorem mw_429 : Cond.methodLink RX4 138 yX2_isPart ∈ wsL_law := in_r18 _ (List.mem_of_getElem? (i := 21) rfl)
theorem mw_430 : Cond.instanceMethod yX2_isPart ∈ wsL_law := in_r18 _ (List.mem_of_getElem? (i := 22) rfl)
theorem mw_431 : Cond.selects RX2 yX2_isPart yX2_isPart ∈ wsL_law := in_r18 _ (List.mem_of_getElem? (i := 23) rfl)
theorem mw_432 : Cond.code yX2_isPart cX2_isPart 2 (some .boolean) ∈ wsL_law := in_r19 _ (List.mem_of_getElem? (i := 0) rfl)
theorem mw_433 : Cond.methodLink RX2 21 yX2_allPoints ∈ wsL_law := in_r19 _ (List.mem_of_getElem? (i := 1) rfl)
theorem mw_434 : Cond.instanceMethod yX2_allPoints ∈ wsL_law := in_r19 _ (List.mem_of_getElem? (i := 2) rfl)
theorem mw_435 : Cond.selects RX2 yX2_allPoints yX2_allPoints ∈ wsL_law := in_r19 _ (List.mem_of_getElem? (i := 3) rfl)
theorem mw_436 : Cond.code yX2_allPoints cX2_allPoints 1 (some .int) ∈ wsL_law := in_r19 _ (List.mem_of_getElem? (i := 4) rfl)
theorem mw_437 : Cond.methodLink RX2 25 yX2_isIn ∈ wsL_law := in_r19 _ (List.mem_of_getElem? (i := 5) rfl)
theorem mw_438 : Cond.static yX2_isIn ∈ wsL_law := in_r19 _ (List.mem_of_getElem? (i := 6) rfl)
theorem mw_439 : Cond.code yX2_isIn cX2_isIn 2 (some .boolean) ∈ wsL_law := in_r19 _ (List.mem_of_getElem? (i := 7) rfl)
theorem mw_440 : Cond.methodLink RX4 141 yX2_weigh ∈ wsL_law := in_r19 _ (List.mem_of_getElem? (i := 8) rfl)
theorem mw_441 : Cond.instanceMethod yX2_weigh ∈ wsL_law := in_r19 _ (List.mem_of_getElem? (i := 9) rfl)
theorem mw_442 : Cond.selects RX2 yX2_weigh yX2_weigh ∈ wsL_law := in_r19 _ (List.mem_of_getElem? (i := 10) rfl)
theorem mw_443 : Cond.code yX2_weigh cX2_weigh 5 (some .int) ∈ wsL_law := in_r19 _ (List.mem_of_getElem? (i := 11) rfl)
theorem mw_444 : Cond.methodLink RX2 33 Lib.Math.min.name ∈ wsL_law := in_r19 _ (List.mem_of_getElem? (i := 12) rfl)
theorem mw_445 : Cond.methodLink RX2 29 yX2_leastAcross ∈ wsL_law := in_r19 _ (List.mem_of_getElem? (i := 13) rfl)
theorem mw_446 : Cond.instanceMethod yX2_leastAcross ∈ wsL_law := in_r19 _ (List.mem_of_getElem? (i := 14) rfl)
theorem mw_447 : Cond.selects RX2 yX2_leastAcross yX2_leastAcross ∈ wsL_law := in_r19 _ (List.mem_of_getElem? (i := 15) rfl)
theorem mw_448 : Cond.code yX2_leastAcross cX2_leastAcross 7 (some .int) ∈ wsL_law := in_r19 _ (List.mem_of_getElem? (i := 16) rfl)
theorem mw_449 : Cond.methodLink RX2 39 yX2_across ∈ wsL_law := in_r19 _ (List.mem_of_getElem? (i := 17) rfl)
theorem mw_450 : Cond.instanceMethod yX2_across ∈ wsL_law := in_r19 _ (List.mem_of_getElem? (i := 18) rfl)
theorem mw_451 : Cond.selects RX2 yX2_across yX2_across ∈ wsL_law := in_r19 _ (List.mem_of_getElem? (i := 19) rfl)
theorem mw_452 : Cond.code yX2_across cX2_across 9 (some .int) ∈ wsL_law := in_r19 _ (List.mem_of_getElem? (i := 20) rfl)
theorem mw_453 : Cond.methodLink RX2 47 Lib.Math.max.name ∈ wsL_law := in_r19 _ (List.mem_of_getElem? (i := 21) rfl)
theorem mw_454 : Cond.methodLink RL 89 yX5_weight ∈ wsL_law := in_r19 _ (List.mem_of_getElem? (i := 22) rfl)
theorem mw_455 : Cond.instanceMethod yX5_weight ∈ wsL_law := in_r19 _ (List.mem_of_getElem? (i := 23) rfl)
theorem mw_456 : Cond.selects RX5 yX5_weight yX5_weight ∈ wsL_law := in_r20 _ (List.mem_of_getElem? (i := 0) rfl)
theorem mw_457 : Cond.code yX5_weight cX5_weight 2 (some .int) ∈ wsL_law := in_r20 _ (List.mem_of_getElem? (i := 1) rfl)
theorem mw_458 : Cond.methodLink RX5 106 yX5_isPart ∈ wsL_law := in_r20 _ (List.mem_of_getElem? (i := 2) rfl)
theorem mw_459 : Cond.instanceMethod yX5_isPart ∈ wsL_law := in_r20 _ (List.mem_of_getElem? (i := 3) rfl)
theorem mw_460 : Cond.selects RX5 yX5_isPart yX5_isPart ∈ wsL_law := in_r20 _ (List.mem_of_getElem? (i := 4) rfl)
theorem mw_461 : Cond.code yX5_isPart cX5_isPart 2 (some .boolean) ∈ wsL_law := in_r20 _ (List.mem_of_getElem? (i := 5) rfl)
theorem mw_462 : Cond.methodLink RX5 109 yX5_weightOf ∈ wsL_law := in_r20 _ (List.mem_of_getElem? (i := 6) rfl)
theorem mw_463 : Cond.instanceMethod yX5_weightOf ∈ wsL_law := in_r20 _ (List.mem_of_getElem? (i := 7) rfl)
theorem mw_464 : Cond.selects RX5 yX5_weightOf yX5_weightOf ∈ wsL_law := in_r20 _ (List.mem_of_getElem? (i := 8) rfl)
theorem mw_465 : Cond.code yX5_weightOf cX5_weightOf 10 (some .int) ∈ wsL_law := in_r20 _ (List.mem_of_getElem? (i := 9) rfl)
theorem mw_466 : Cond.methodLink RL 90 yX4_parts ∈ wsL_law := in_r20 _ (List.mem_of_getElem? (i := 10) rfl)
theorem mw_467 : Cond.instanceMethod yX4_parts ∈ wsL_law := in_r20 _ (List.mem_of_getElem? (i := 11) rfl)
theorem mw_468 : Cond.selects RX4 yX4_parts yX4_parts ∈ wsL_law := in_r20 _ (List.mem_of_getElem? (i := 12) rfl)
theorem mw_469 : Cond.code yX4_parts cX4_parts 1 (some .int) ∈ wsL_law := in_r20 _ (List.mem_of_getElem? (i := 13) rfl)
theorem mw_470 : Cond.methodLink RX4 144 yX2_howManyWeigh ∈ wsL_law := in_r20 _ (List.mem_of_getElem? (i := 14) rfl)
theorem mw_471 : Cond.instanceMethod yX2_howManyWeigh ∈ wsL_law := in_r20 _ (List.mem_of_getElem? (i := 15) rfl)
theorem mw_472 : Cond.selects RX2 yX2_howManyWeigh yX2_howManyWeigh ∈ wsL_law := in_r20 _ (List.mem_of_getElem? (i := 16) rfl)
theorem mw_473 : Cond.code yX2_howManyWeigh cX2_howManyWeigh 3 (some .int) ∈ wsL_law := in_r20 _ (List.mem_of_getElem? (i := 17) rfl)
theorem mw_474 : Cond.methodLink RX2 50 yX2_weigh ∈ wsL_law := in_r20 _ (List.mem_of_getElem? (i := 18) rfl)
theorem mw_475 : Cond.methodLink RL 93 yX5_parts ∈ wsL_law := in_r20 _ (List.mem_of_getElem? (i := 19) rfl)
theorem mw_476 : Cond.instanceMethod yX5_parts ∈ wsL_law := in_r20 _ (List.mem_of_getElem? (i := 20) rfl)
theorem mw_477 : Cond.selects RX5 yX5_parts yX5_parts ∈ wsL_law := in_r20 _ (List.mem_of_getElem? (i := 21) rfl)
theorem mw_478 : Cond.code yX5_parts cX5_parts 3 (some .int) ∈ wsL_law := in_r20 _ (List.mem_of_getElem? (i := 22) rfl)
theorem mw_479 : Cond.methodLink RL 94 yX4_rest ∈ wsL_law := in_r20 _ (List.mem_of_getElem? (i := 23) rfl)
theorem mw_480 : Cond.instanceMethod yX4_rest ∈ wsL_law := in_r21 _ (List.mem_of_getElem? (i := 0) rfl)
theorem mw_481 : Cond.selects RX4 yX4_rest yX4_rest ∈ wsL_law := in_r21 _ (List.mem_of_getElem? (i := 1) rfl)
theorem mw_482 : Cond.code yX4_rest cX4_rest 3 (some .int) ∈ wsL_law := in_r21 _ (List.mem_of_getElem? (i := 2) rfl)
theorem mw_483 : Cond.methodLink RX4 147 yX2_leftOf ∈ wsL_law := in_r21 _ (List.mem_of_getElem? (i := 3) rfl)
theorem mw_484 : Cond.instanceMethod yX2_leftOf ∈ wsL_law := in_r21 _ (List.mem_of_getElem? (i := 4) rfl)
theorem mw_485 : Cond.selects RX2 yX2_leftOf yX2_leftOf ∈ wsL_law := in_r21 _ (List.mem_of_getElem? (i := 5) rfl)
theorem mw_486 : Cond.code yX2_leftOf cX2_leftOf 5 (some .int) ∈ wsL_law := in_r21 _ (List.mem_of_getElem? (i := 6) rfl)
theorem mw_487 : Cond.methodLink RL 97 yX5_rest ∈ wsL_law := in_r21 _ (List.mem_of_getElem? (i := 7) rfl)
theorem mw_488 : Cond.instanceMethod yX5_rest ∈ wsL_law := in_r21 _ (List.mem_of_getElem? (i := 8) rfl)
theorem mw_489 : Cond.selects RX5 yX5_rest yX5_rest ∈ wsL_law := in_r21 _ (List.mem_of_getElem? (i := 9) rfl)
theorem mw_490 : Cond.code yX5_rest cX5_rest 5 (some .int) ∈ wsL_law := in_r21 _ (List.mem_of_getElem? (i := 10) rfl)
theorem mw_491 : Cond.methodLink RL 98 yX4_drawn ∈ wsL_law := in_r21 _ (List.mem_of_getElem? (i := 11) rfl)
theorem mw_492 : Cond.instanceMethod yX4_drawn ∈ wsL_law := in_r21 _ (List.mem_of_getElem? (i := 12) rfl)
theorem mw_493 : Cond.selects RX4 yX4_drawn yX4_drawn ∈ wsL_law := in_r21 _ (List.mem_of_getElem? (i := 13) rfl)
theorem mw_494 : Cond.code yX4_drawn cX4_drawn 4 (some .int) ∈ wsL_law := in_r21 _ (List.mem_of_getElem? (i := 14) rfl)
theorem mw_495 : Cond.methodLink RX4 150 yX0_ordersThatPart ∈ wsL_law := in_r21 _ (List.mem_of_getElem? (i := 15) rfl)
theorem mw_496 : Cond.instanceMethod yX0_ordersThatPart ∈ wsL_law := in_r21 _ (List.mem_of_getElem? (i := 16) rfl)
theorem mw_497 : Cond.selects RX0 yX0_ordersThatPart yX0_ordersThatPart ∈ wsL_law := in_r21 _ (List.mem_of_getElem? (i := 17) rfl)
theorem mw_498 : Cond.code yX0_ordersThatPart cX0_ordersThatPart 6 (some .int) ∈ wsL_law := in_r21 _ (List.mem_of_getElem? (i := 18) rfl)
theorem mw_499 : Cond.methodLink RX0 25 yX0_reached ∈ wsL_law := in_r21 _ (List.mem_of_getElem? (i := 19) rfl)
theorem mw_500 : Cond.instanceMethod yX0_reached ∈ wsL_law := in_r21 _ (List.mem_of_getElem? (i := 20) rfl)
theorem mw_501 : Cond.selects RX0 yX0_reached yX0_reached ∈ wsL_law := in_r21 _ (List.mem_of_getElem? (i := 21) rfl)
theorem mw_502 : Cond.code yX0_reached cX0_reached 5 (some .int) ∈ wsL_law := in_r21 _ (List.mem_of_getElem? (i := 22) rfl)
theorem mw_503 : Cond.methodLink RX0 29 yJ6_bitCount_0f7a4 ∈ wsL_law := in_r21 _ (List.mem_of_getElem? (i := 23) rfl)
theorem mw_504 : Cond.static yJ6_bitCount_0f7a4 ∈ wsL_law := in_r22 _ (List.mem_of_getElem? (i := 0) rfl)
theorem mw_505 : Cond.initialized RJ6 ∈ wsL_law := in_r22 _ (List.mem_of_getElem? (i := 1) rfl)
theorem mw_506 : Cond.code yJ6_bitCount_0f7a4 cJ6_bitCount_0f7a4 1 (some .int) ∈ wsL_law := in_r22 _ (List.mem_of_getElem? (i := 2) rfl)
theorem mw_507 : Cond.constant RJ6 265 (1431655765) ∈ wsL_law := in_r22 _ (List.mem_of_getElem? (i := 3) rfl)
theorem mw_508 : Cond.constant RJ6 266 (858993459) ∈ wsL_law := in_r22 _ (List.mem_of_getElem? (i := 4) rfl)
theorem mw_509 : Cond.constant RJ6 267 (252645135) ∈ wsL_law := in_r22 _ (List.mem_of_getElem? (i := 5) rfl)
theorem mw_510 : Cond.methodLink RX0 35 yX0_howMany ∈ wsL_law := in_r22 _ (List.mem_of_getElem? (i := 6) rfl)
theorem mw_511 : Cond.instanceMethod yX0_howMany ∈ wsL_law := in_r22 _ (List.mem_of_getElem? (i := 7) rfl)
theorem mw_512 : Cond.selects RX0 yX0_howMany yX0_howMany ∈ wsL_law := in_r22 _ (List.mem_of_getElem? (i := 8) rfl)
theorem mw_513 : Cond.code yX0_howMany cX0_howMany 1 (some .int) ∈ wsL_law := in_r22 _ (List.mem_of_getElem? (i := 9) rfl)
theorem mw_514 : Cond.methodLink RL 101 yX5_drawn ∈ wsL_law := in_r22 _ (List.mem_of_getElem? (i := 10) rfl)
theorem mw_515 : Cond.instanceMethod yX5_drawn ∈ wsL_law := in_r22 _ (List.mem_of_getElem? (i := 11) rfl)
theorem mw_516 : Cond.selects RX5 yX5_drawn yX5_drawn ∈ wsL_law := in_r22 _ (List.mem_of_getElem? (i := 12) rfl)
theorem mw_517 : Cond.code yX5_drawn cX5_drawn 6 (some .int) ∈ wsL_law := in_r22 _ (List.mem_of_getElem? (i := 13) rfl)
theorem mw_518 : Cond.methodLink RX5 112 yX5_orders ∈ wsL_law := in_r22 _ (List.mem_of_getElem? (i := 14) rfl)
theorem mw_519 : Cond.instanceMethod yX5_orders ∈ wsL_law := in_r22 _ (List.mem_of_getElem? (i := 15) rfl)
theorem mw_520 : Cond.selects RX5 yX5_orders yX5_orders ∈ wsL_law := in_r22 _ (List.mem_of_getElem? (i := 16) rfl)
theorem mw_521 : Cond.code yX5_orders cX5_orders 3 (some .int) ∈ wsL_law := in_r22 _ (List.mem_of_getElem? (i := 17) rfl)
theorem mw_522 : Cond.methodLink RX5 115 yX5_draw ∈ wsL_law := in_r22 _ (List.mem_of_getElem? (i := 18) rfl)
theorem mw_523 : Cond.instanceMethod yX5_draw ∈ wsL_law := in_r22 _ (List.mem_of_getElem? (i := 19) rfl)
theorem mw_524 : Cond.selects RX5 yX5_draw yX5_draw ∈ wsL_law := in_r22 _ (List.mem_of_getElem? (i := 20) rfl)
theorem mw_525 : Cond.code yX5_draw cX5_draw 8 none ∈ wsL_law := in_r22 _ (List.mem_of_getElem? (i := 21) rfl)
theorem mw_526 : Cond.methodLink RX5 118 yX5_goalOf ∈ wsL_law := in_r22 _ (List.mem_of_getElem? (i := 22) rfl)
theorem mw_527 : Cond.instanceMethod yX5_goalOf ∈ wsL_law := in_r22 _ (List.mem_of_getElem? (i := 23) rfl)
theorem mw_528 : Cond.selects RX5 yX5_goalOf yX5_goalOf ∈ wsL_law := in_r23 _ (List.mem_of_getElem? (i := 0) rfl)
theorem mw_529 : Cond.code yX5_goalOf cX5_goalOf 4 (some .int) ∈ wsL_law := in_r23 _ (List.mem_of_getElem? (i := 1) rfl)
theorem mw_530 : Cond.methodLink RL 102 yX4_goes ∈ wsL_law := in_r23 _ (List.mem_of_getElem? (i := 2) rfl)
theorem mw_531 : Cond.instanceMethod yX4_goes ∈ wsL_law := in_r23 _ (List.mem_of_getElem? (i := 3) rfl)
theorem mw_532 : Cond.selects RX4 yX4_goes yX4_goes ∈ wsL_law := in_r23 _ (List.mem_of_getElem? (i := 4) rfl)
theorem mw_533 : Cond.code yX4_goes cX4_goes 4 (some .int) ∈ wsL_law := in_r23 _ (List.mem_of_getElem? (i := 5) rfl)
theorem mw_534 : Cond.methodLink RX4 157 yX0_howMany ∈ wsL_law := in_r23 _ (List.mem_of_getElem? (i := 6) rfl)
theorem mw_535 : Cond.methodLink RX4 158 yX0_firstWithin ∈ wsL_law := in_r23 _ (List.mem_of_getElem? (i := 7) rfl)
theorem mw_536 : Cond.instanceMethod yX0_firstWithin ∈ wsL_law := in_r23 _ (List.mem_of_getElem? (i := 8) rfl)
theorem mw_537 : Cond.selects RX0 yX0_firstWithin yX0_firstWithin ∈ wsL_law := in_r23 _ (List.mem_of_getElem? (i := 9) rfl)
theorem mw_538 : Cond.code yX0_firstWithin cX0_firstWithin 8 (some .int) ∈ wsL_law := in_r23 _ (List.mem_of_getElem? (i := 10) rfl)
theorem mw_539 : Cond.methodLink RX0 43 yX0_undealtAt ∈ wsL_law := in_r23 _ (List.mem_of_getElem? (i := 11) rfl)
theorem mw_540 : Cond.instanceMethod yX0_undealtAt ∈ wsL_law := in_r23 _ (List.mem_of_getElem? (i := 12) rfl)
theorem mw_541 : Cond.selects RX0 yX0_undealtAt yX0_undealtAt ∈ wsL_law := in_r23 _ (List.mem_of_getElem? (i := 13) rfl)
theorem mw_542 : Cond.code yX0_undealtAt cX0_undealtAt 5 (some .int) ∈ wsL_law := in_r23 _ (List.mem_of_getElem? (i := 14) rfl)
theorem mw_543 : Cond.methodLink RL 105 yX5_goes ∈ wsL_law := in_r23 _ (List.mem_of_getElem? (i := 15) rfl)
theorem mw_544 : Cond.instanceMethod yX5_goes ∈ wsL_law := in_r23 _ (List.mem_of_getElem? (i := 16) rfl)
theorem mw_545 : Cond.selects RX5 yX5_goes yX5_goes ∈ wsL_law := in_r23 _ (List.mem_of_getElem? (i := 17) rfl)
theorem mw_546 : Cond.code yX5_goes cX5_goes 4 (some .int) ∈ wsL_law := in_r23 _ (List.mem_of_getElem? (i := 18) rfl)
theorem mw_547 : Cond.methodLink RL 106 yX4_count ∈ wsL_law := in_r23 _ (List.mem_of_getElem? (i := 19) rfl)
theorem mw_548 : Cond.instanceMethod yX4_count ∈ wsL_law := in_r23 _ (List.mem_of_getElem? (i := 20) rfl)
theorem mw_549 : Cond.selects RX4 yX4_count yX4_count ∈ wsL_law := in_r23 _ (List.mem_of_getElem? (i := 21) rfl)
theorem mw_550 : Cond.code yX4_count cX4_count 2 (some .int) ∈ wsL_law := in_r23 _ (List.mem_of_getElem? (i := 22) rfl)
theorem mw_551 : Cond.methodLink RL 109 yX5_count ∈ wsL_law := in_r23 _ (List.mem_of_getElem? (i := 23) rfl)
theorem mw_552 : Cond.instanceMethod yX5_count ∈ wsL_law := in_r24 _ (List.mem_of_getElem? (i := 0) rfl)
theorem mw_553 : Cond.selects RX5 yX5_count yX5_count ∈ wsL_law := in_r24 _ (List.mem_of_getElem? (i := 1) rfl)
theorem mw_554 : Cond.code yX5_count cX5_count 6 (some .int) ∈ wsL_law := in_r24 _ (List.mem_of_getElem? (i := 2) rfl)
theorem mw_555 : Cond.methodLink RL 110 yX4_digest ∈ wsL_law := in_r24 _ (List.mem_of_getElem? (i := 3) rfl)
theorem mw_556 : Cond.instanceMethod yX4_digest ∈ wsL_law := in_r24 _ (List.mem_of_getElem? (i := 4) rfl)
theorem mw_557 : Cond.selects RX4 yX4_digest yX4_digest ∈ wsL_law := in_r24 _ (List.mem_of_getElem? (i := 5) rfl)
theorem mw_558 : Cond.code yX4_digest cX4_digest 6 (some .long) ∈ wsL_law := in_r24 _ (List.mem_of_getElem? (i := 6) rfl)
theorem mw_559 : Cond.constantLong RX4 164 (197) ∈ wsL_law := in_r24 _ (List.mem_of_getElem? (i := 7) rfl)
theorem mw_560 : Cond.methodLink RX4 166 yX4_taken ∈ wsL_law := in_r24 _ (List.mem_of_getElem? (i := 8) rfl)
theorem mw_561 : Cond.static yX4_taken ∈ wsL_law := in_r24 _ (List.mem_of_getElem? (i := 9) rfl)
theorem mw_562 : Cond.code yX4_taken cX4_taken 4 (some .long) ∈ wsL_law := in_r24 _ (List.mem_of_getElem? (i := 10) rfl)
theorem mw_563 : Cond.constantLong RX4 170 (31) ∈ wsL_law := in_r24 _ (List.mem_of_getElem? (i := 11) rfl)
theorem mw_564 : Cond.methodLink RL 114 yX5_digest ∈ wsL_law := in_r24 _ (List.mem_of_getElem? (i := 12) rfl)
theorem mw_565 : Cond.instanceMethod yX5_digest ∈ wsL_law := in_r24 _ (List.mem_of_getElem? (i := 13) rfl)
theorem mw_566 : Cond.selects RX5 yX5_digest yX5_digest ∈ wsL_law := in_r24 _ (List.mem_of_getElem? (i := 14) rfl)
theorem mw_567 : Cond.code yX5_digest cX5_digest 3 (some .long) ∈ wsL_law := in_r24 _ (List.mem_of_getElem? (i := 15) rfl)
theorem mw_568 : Cond.constantLong RX5 126 (197) ∈ wsL_law := in_r24 _ (List.mem_of_getElem? (i := 16) rfl)
theorem mw_569 : Cond.fieldLink RX5 123 "HugTreesModel" "h" "J" ∈ wsL_law := in_r24 _ (List.mem_of_getElem? (i := 17) rfl)
theorem mw_570 : Cond.methodLink RX5 128 yX5_mix ∈ wsL_law := in_r24 _ (List.mem_of_getElem? (i := 18) rfl)
theorem mw_571 : Cond.instanceMethod yX5_mix ∈ wsL_law := in_r24 _ (List.mem_of_getElem? (i := 19) rfl)
theorem mw_572 : Cond.selects RX5 yX5_mix yX5_mix ∈ wsL_law := in_r24 _ (List.mem_of_getElem? (i := 20) rfl)
theorem mw_573 : Cond.code yX5_mix cX5_mix 3 none ∈ wsL_law := in_r24 _ (List.mem_of_getElem? (i := 21) rfl)
theorem mw_574 : Cond.constantLong RX5 121 (31) ∈ wsL_law := in_r24 _ (List.mem_of_getElem? (i := 22) rfl)
def MW (y : MethodName) (b : ByteArray) (n : Nat) (r : Option FieldType) (k : Nat) : Prop := Cond.initialized y.cls ∈ wsL_law ∧ Cond.code y b n r ∈ wsL_law ∧ (y.cls ≠ "java/lang/invoke/MethodHandle" ∧ y.cls ≠ "java/lang/invoke/VarHandle" ∧ (parseMethodDescriptor y.desc).map (fun d => d.parameters.length) = some k)
def MV (y : MethodName) (b : ByteArray) (n : Nat) (r : Option FieldType) (k : Nat) : Prop := MW y b n r k ∧ Cond.instanceMethod y ∈ wsL_law ∧ Cond.selects y.cls y y ∈ wsL_law
def MS (y : MethodName) (b : ByteArray) (n : Nat) (r : Option FieldType) (k : Nat) : Prop := MW y b n r k ∧ Cond.static y ∈ wsL_law
theorem mv_yX3_begin : MV yX3_begin cX3_begin 3 none 1 := ⟨⟨mw_14, mw_61, by decide +kernel⟩, mw_59, mw_60⟩
theorem ms_yJ7_fill_53178 : MS yJ7_fill_53178 cJ7_fill_53178 4 none 2 := ⟨⟨mw_65, mw_66, by decide +kernel⟩, mw_64⟩
theorem mv_yX5_begin : MV yX5_begin cX5_begin 3 none 0 := ⟨⟨mw_5, mw_82, by decide +kernel⟩, mw_80, mw_81⟩
theorem mv_yX4_points : MV yX4_points cX4_points 2 (some .int) 1 := ⟨⟨mw_2, mw_86, by decide +kernel⟩, mw_84, mw_85⟩
theorem mv_yX5_points : MV yX5_points cX5_points 2 (some .int) 1 := ⟨⟨mw_5, mw_90, by decide +kernel⟩, mw_88, mw_89⟩
theorem ms_yX5_in : MS yX5_in cX5_in 3 (some .boolean) 3 := ⟨⟨mw_5, mw_93, by decide +kernel⟩, mw_92⟩
theorem mv_yX4_set : MV yX4_set cX4_set 5 (some .int) 3 := ⟨⟨mw_2, mw_97, by decide +kernel⟩, mw_95, mw_96⟩
theorem mv_yX4_areKnown : MV yX4_areKnown cX4_areKnown 3 (some .boolean) 2 := ⟨⟨mw_2, mw_101, by decide +kernel⟩, mw_99, mw_100⟩
theorem mv_yX4_isKnown : MV yX4_isKnown cX4_isKnown 2 (some .boolean) 1 := ⟨⟨mw_2, mw_105, by decide +kernel⟩, mw_103, mw_104⟩
theorem mv_yX3_put : MV yX3_put cX3_put 4 none 3 := ⟨⟨mw_14, mw_109, by decide +kernel⟩, mw_107, mw_108⟩
theorem mv_yX5_set : MV yX5_set cX5_set 5 (some .int) 3 := ⟨⟨mw_5, mw_113, by decide +kernel⟩, mw_111, mw_112⟩
theorem mv_yX5_isPoint : MV yX5_isPoint cX5_isPoint 2 (some .boolean) 1 := ⟨⟨mw_5, mw_117, by decide +kernel⟩, mw_115, mw_116⟩
theorem mv_yX4_get : MV yX4_get cX4_get 3 (some .int) 2 := ⟨⟨mw_2, mw_121, by decide +kernel⟩, mw_119, mw_120⟩
theorem mv_yX5_get : MV yX5_get cX5_get 3 (some .int) 2 := ⟨⟨mw_5, mw_125, by decide +kernel⟩, mw_123, mw_124⟩
theorem mv_yX5_d : MV yX5_d cX5_d 3 (some .int) 2 := ⟨⟨mw_5, mw_129, by decide +kernel⟩, mw_127, mw_128⟩
theorem mv_yX4_is : MV yX4_is cX4_is 2 (some .int) 1 := ⟨⟨mw_2, mw_133, by decide +kernel⟩, mw_131, mw_132⟩
theorem mv_yX3_brokenThrees : MV yX3_brokenThrees cX3_brokenThrees 5 (some .int) 1 := ⟨⟨mw_14, mw_137, by decide +kernel⟩, mw_135, mw_136⟩
theorem mv_yX3_shorterBy : MV yX3_shorterBy cX3_shorterBy 6 (some .int) 3 := ⟨⟨mw_14, mw_141, by decide +kernel⟩, mw_139, mw_140⟩
theorem ms_yX3_together : MS yX3_together cX3_together 3 (some .int) 3 := ⟨⟨mw_14, mw_144, by decide +kernel⟩, mw_143⟩
theorem ms_yX4_asAnswer : MS yX4_asAnswer cX4_asAnswer 1 (some .int) 1 := ⟨⟨mw_2, mw_151, by decide +kernel⟩, mw_150⟩
theorem mv_yX4_isNear : MV yX4_isNear cX4_isNear 1 (some .boolean) 0 := ⟨⟨mw_2, mw_155, by decide +kernel⟩, mw_153, mw_154⟩
theorem mv_yX3_brokenFours : MV yX3_brokenFours cX3_brokenFours 5 (some .int) 0 := ⟨⟨mw_14, mw_159, by decide +kernel⟩, mw_157, mw_158⟩
theorem mv_yX3_brokenFoursFrom : MV yX3_brokenFoursFrom cX3_brokenFoursFrom 6 (some .int) 3 := ⟨⟨mw_14, mw_163, by decide +kernel⟩, mw_161, mw_162⟩
theorem ms_yX3_twoGreatestAlike : MS yX3_twoGreatestAlike cX3_twoGreatestAlike 4 (some .boolean) 3 := ⟨⟨mw_14, mw_166, by decide +kernel⟩, mw_165⟩
theorem mv_yX5_is : MV yX5_is cX5_is 2 (some .int) 1 := ⟨⟨mw_5, mw_170, by decide +kernel⟩, mw_168, mw_169⟩
theorem mv_yX5_brokenOf : MV yX5_brokenOf cX5_brokenOf 7 (some .int) 1 := ⟨⟨mw_5, mw_174, by decide +kernel⟩, mw_172, mw_173⟩
theorem ms_yX5_greater : MS yX5_greater cX5_greater 2 (some .int) 2 := ⟨⟨mw_5, mw_177, by decide +kernel⟩, mw_176⟩
theorem mv_yX5_areFour : MV yX5_areFour cX5_areFour 9 (some .boolean) 4 := ⟨⟨mw_5, mw_181, by decide +kernel⟩, mw_179, mw_180⟩
theorem mv_yX4_broken : MV yX4_broken cX4_broken 2 (some .int) 1 := ⟨⟨mw_2, mw_185, by decide +kernel⟩, mw_183, mw_184⟩
theorem mv_yX5_broken : MV yX5_broken cX5_broken 2 (some .int) 1 := ⟨⟨mw_5, mw_189, by decide +kernel⟩, mw_187, mw_188⟩
theorem mv_yX4_mend : MV yX4_mend cX4_mend 1 (some .int) 0 := ⟨⟨mw_2, mw_193, by decide +kernel⟩, mw_191, mw_192⟩
theorem mv_yX3_closed : MV yX3_closed cX3_closed 3 (some (.array (.array .int))) 1 := ⟨⟨mw_14, mw_197, by decide +kernel⟩, mw_195, mw_196⟩
theorem mv_yX3_shortenBy : MV yX3_shortenBy cX3_shortenBy 5 none 2 := ⟨⟨mw_14, mw_205, by decide +kernel⟩, mw_203, mw_204⟩
theorem mv_yX3_become : MV yX3_become cX3_become 5 (some .int) 1 := ⟨⟨mw_14, mw_212, by decide +kernel⟩, mw_210, mw_211⟩
theorem mv_yX5_mend : MV yX5_mend cX5_mend 1 (some .int) 0 := ⟨⟨mw_5, mw_217, by decide +kernel⟩, mw_215, mw_216⟩
theorem mv_yX5_make : MV yX5_make cX5_make 6 none 1 := ⟨⟨mw_5, mw_221, by decide +kernel⟩, mw_219, mw_220⟩
theorem mv_yX5_become : MV yX5_become cX5_become 4 (some .int) 0 := ⟨⟨mw_5, mw_225, by decide +kernel⟩, mw_223, mw_224⟩
theorem mv_yX4_low : MV yX4_low cX4_low 3 (some .int) 2 := ⟨⟨mw_2, mw_229, by decide +kernel⟩, mw_227, mw_228⟩
theorem mv_yX5_low : MV yX5_low cX5_low 3 (some .int) 2 := ⟨⟨mw_5, mw_233, by decide +kernel⟩, mw_231, mw_232⟩
theorem mv_yX4_gap : MV yX4_gap cX4_gap 1 (some .int) 0 := ⟨⟨mw_2, mw_237, by decide +kernel⟩, mw_235, mw_236⟩
theorem mv_yX3_greatestAbove : MV yX3_greatestAbove cX3_greatestAbove 5 (some .int) 1 := ⟨⟨mw_14, mw_241, by decide +kernel⟩, mw_239, mw_240⟩
theorem mv_yX5_gap : MV yX5_gap cX5_gap 4 (some .int) 0 := ⟨⟨mw_5, mw_245, by decide +kernel⟩, mw_243, mw_244⟩
theorem mv_yX4_groups : MV yX4_groups cX4_groups 2 (some .int) 1 := ⟨⟨mw_2, mw_249, by decide +kernel⟩, mw_247, mw_248⟩
theorem ms_yX4_isReach : MS yX4_isReach cX4_isReach 1 (some .boolean) 1 := ⟨⟨mw_2, mw_252, by decide +kernel⟩, mw_251⟩
theorem mv_yX3_groupsWithin : MV yX3_groupsWithin cX3_groupsWithin 7 (some .int) 1 := ⟨⟨mw_14, mw_256, by decide +kernel⟩, mw_254, mw_255⟩
theorem mv_yX5_groups : MV yX5_groups cX5_groups 6 (some .int) 1 := ⟨⟨mw_5, mw_261, by decide +kernel⟩, mw_259, mw_260⟩
theorem mv_yX4_lower : MV yX4_lower cX4_lower 1 (some .int) 0 := ⟨⟨mw_2, mw_265, by decide +kernel⟩, mw_263, mw_264⟩
theorem mv_yX5_lower : MV yX5_lower cX5_lower 1 (some .int) 0 := ⟨⟨mw_5, mw_269, by decide +kernel⟩, mw_267, mw_268⟩
theorem mv_yX4_codes : MV yX4_codes cX4_codes 1 (some .int) 0 := ⟨⟨mw_2, mw_273, by decide +kernel⟩, mw_271, mw_272⟩
theorem mv_yX1_howMany : MV yX1_howMany cX1_howMany 3 (some .int) 0 := ⟨⟨mw_18, mw_277, by decide +kernel⟩, mw_275, mw_276⟩
theorem mv_yX5_codes : MV yX5_codes cX5_codes 1 (some .int) 0 := ⟨⟨mw_5, mw_281, by decide +kernel⟩, mw_279, mw_280⟩
theorem mv_yX5_codeMany : MV yX5_codeMany cX5_codeMany 3 (some .int) 0 := ⟨⟨mw_5, mw_285, by decide +kernel⟩, mw_283, mw_284⟩
theorem mv_yX4_joined : MV yX4_joined cX4_joined 4 (some .int) 3 := ⟨⟨mw_2, mw_289, by decide +kernel⟩, mw_287, mw_288⟩
theorem mv_yX4_isCode : MV yX4_isCode cX4_isCode 2 (some .boolean) 1 := ⟨⟨mw_2, mw_293, by decide +kernel⟩, mw_291, mw_292⟩
theorem mv_yX1_read : MV yX1_read cX1_read 4 none 1 := ⟨⟨mw_18, mw_297, by decide +kernel⟩, mw_295, mw_296⟩
theorem mv_yX1_readFigures : MV yX1_readFigures cX1_readFigures 4 none 1 := ⟨⟨mw_18, mw_301, by decide +kernel⟩, mw_299, mw_300⟩
theorem mv_yX1_takeLeast : MV yX1_takeLeast cX1_takeLeast 2 (some .int) 0 := ⟨⟨mw_18, mw_306, by decide +kernel⟩, mw_304, mw_305⟩
theorem mv_yX1_joins : MV yX1_joins cX1_joins 5 (some .boolean) 2 := ⟨⟨mw_18, mw_310, by decide +kernel⟩, mw_308, mw_309⟩
theorem mv_yX5_joined : MV yX5_joined cX5_joined 4 (some .int) 3 := ⟨⟨mw_5, mw_314, by decide +kernel⟩, mw_312, mw_313⟩
theorem mv_yX5_isCode : MV yX5_isCode cX5_isCode 2 (some .boolean) 1 := ⟨⟨mw_5, mw_318, by decide +kernel⟩, mw_316, mw_317⟩
theorem mv_yX5_lay : MV yX5_lay cX5_lay 6 none 1 := ⟨⟨mw_5, mw_322, by decide +kernel⟩, mw_320, mw_321⟩
theorem mv_yX5_leaf : MV yX5_leaf cX5_leaf 2 (some .int) 0 := ⟨⟨mw_5, mw_326, by decide +kernel⟩, mw_324, mw_325⟩
theorem mv_yX5_join : MV yX5_join cX5_join 3 none 2 := ⟨⟨mw_5, mw_330, by decide +kernel⟩, mw_328, mw_329⟩
theorem mv_yX4_way : MV yX4_way cX4_way 4 (some .int) 3 := ⟨⟨mw_2, mw_334, by decide +kernel⟩, mw_332, mw_333⟩
theorem mv_yX1_lay : MV yX1_lay cX1_lay 5 none 1 := ⟨⟨mw_18, mw_338, by decide +kernel⟩, mw_336, mw_337⟩
theorem mv_yX1_layWay : MV yX1_layWay cX1_layWay 5 none 2 := ⟨⟨mw_18, mw_343, by decide +kernel⟩, mw_341, mw_342⟩
theorem mv_yX5_way : MV yX5_way cX5_way 4 (some .int) 3 := ⟨⟨mw_5, mw_347, by decide +kernel⟩, mw_345, mw_346⟩
theorem mv_yX5_go : MV yX5_go cX5_go 6 none 1 := ⟨⟨mw_5, mw_351, by decide +kernel⟩, mw_349, mw_350⟩
theorem mv_yX4_stretch : MV yX4_stretch cX4_stretch 5 (some .long) 2 := ⟨⟨mw_2, mw_356, by decide +kernel⟩, mw_354, mw_355⟩
theorem mv_yX1_findStretch : MV yX1_findStretch cX1_findStretch 3 none 0 := ⟨⟨mw_18, mw_361, by decide +kernel⟩, mw_359, mw_360⟩
theorem ms_yX4_greatestDivisor : MS yX4_greatestDivisor cX4_greatestDivisor 6 (some .int) 2 := ⟨⟨mw_2, mw_364, by decide +kernel⟩, mw_363⟩
theorem mv_yX5_stretch : MV yX5_stretch cX5_stretch 9 (some .long) 2 := ⟨⟨mw_5, mw_368, by decide +kernel⟩, mw_366, mw_367⟩
theorem mv_yX5_stretchNow : MV yX5_stretchNow cX5_stretchNow 3 none 0 := ⟨⟨mw_5, mw_375, by decide +kernel⟩, mw_373, mw_374⟩
theorem mv_yX4_spread : MV yX4_spread cX4_spread 2 (some .int) 1 := ⟨⟨mw_2, mw_379, by decide +kernel⟩, mw_377, mw_378⟩
theorem mv_yX3_sumOf : MV yX3_sumOf cX3_sumOf 5 (some .int) 1 := ⟨⟨mw_14, mw_383, by decide +kernel⟩, mw_381, mw_382⟩
theorem mv_yX5_spread : MV yX5_spread cX5_spread 2 (some .int) 1 := ⟨⟨mw_5, mw_387, by decide +kernel⟩, mw_385, mw_386⟩
theorem mv_yX5_spreadNow : MV yX5_spreadNow cX5_spreadNow 4 (some .int) 0 := ⟨⟨mw_5, mw_391, by decide +kernel⟩, mw_389, mw_390⟩
theorem mv_yX4_best : MV yX4_best cX4_best 2 (some .int) 1 := ⟨⟨mw_2, mw_395, by decide +kernel⟩, mw_393, mw_394⟩
theorem mv_yX1_leastByStretch : MV yX1_leastByStretch cX1_leastByStretch 6 (some .int) 0 := ⟨⟨mw_18, mw_399, by decide +kernel⟩, mw_397, mw_398⟩
theorem mv_yX1_leastBySpread : MV yX1_leastBySpread cX1_leastBySpread 6 (some .int) 0 := ⟨⟨mw_18, mw_406, by decide +kernel⟩, mw_404, mw_405⟩
theorem mv_yX5_best : MV yX5_best cX5_best 12 (some .int) 1 := ⟨⟨mw_5, mw_411, by decide +kernel⟩, mw_409, mw_410⟩
theorem mv_yX4_grow : MV yX4_grow cX4_grow 2 (some .int) 1 := ⟨⟨mw_2, mw_416, by decide +kernel⟩, mw_414, mw_415⟩
theorem mv_yX3_greatestOf : MV yX3_greatestOf cX3_greatestOf 5 (some .int) 1 := ⟨⟨mw_14, mw_420, by decide +kernel⟩, mw_418, mw_419⟩
theorem mv_yX5_grow : MV yX5_grow cX5_grow 5 (some .int) 1 := ⟨⟨mw_5, mw_424, by decide +kernel⟩, mw_422, mw_423⟩
theorem mv_yX4_weight : MV yX4_weight cX4_weight 2 (some .int) 1 := ⟨⟨mw_2, mw_428, by decide +kernel⟩, mw_426, mw_427⟩
theorem mv_yX2_isPart : MV yX2_isPart cX2_isPart 2 (some .boolean) 1 := ⟨⟨mw_22, mw_432, by decide +kernel⟩, mw_430, mw_431⟩
theorem mv_yX2_allPoints : MV yX2_allPoints cX2_allPoints 1 (some .int) 0 := ⟨⟨mw_22, mw_436, by decide +kernel⟩, mw_434, mw_435⟩
theorem ms_yX2_isIn : MS yX2_isIn cX2_isIn 2 (some .boolean) 2 := ⟨⟨mw_22, mw_439, by decide +kernel⟩, mw_438⟩
theorem mv_yX2_weigh : MV yX2_weigh cX2_weigh 5 (some .int) 1 := ⟨⟨mw_22, mw_443, by decide +kernel⟩, mw_441, mw_442⟩
theorem mv_yX2_leastAcross : MV yX2_leastAcross cX2_leastAcross 7 (some .int) 3 := ⟨⟨mw_22, mw_448, by decide +kernel⟩, mw_446, mw_447⟩
theorem mv_yX2_across : MV yX2_across cX2_across 9 (some .int) 4 := ⟨⟨mw_22, mw_452, by decide +kernel⟩, mw_450, mw_451⟩
theorem mv_yX5_weight : MV yX5_weight cX5_weight 2 (some .int) 1 := ⟨⟨mw_5, mw_457, by decide +kernel⟩, mw_455, mw_456⟩
theorem mv_yX5_isPart : MV yX5_isPart cX5_isPart 2 (some .boolean) 1 := ⟨⟨mw_5, mw_461, by decide +kernel⟩, mw_459, mw_460⟩
theorem mv_yX5_weightOf : MV yX5_weightOf cX5_weightOf 10 (some .int) 1 := ⟨⟨mw_5, mw_465, by decide +kernel⟩, mw_463, mw_464⟩
theorem mv_yX4_parts : MV yX4_parts cX4_parts 1 (some .int) 0 := ⟨⟨mw_2, mw_469, by decide +kernel⟩, mw_467, mw_468⟩
theorem mv_yX2_howManyWeigh : MV yX2_howManyWeigh cX2_howManyWeigh 3 (some .int) 0 := ⟨⟨mw_22, mw_473, by decide +kernel⟩, mw_471, mw_472⟩
theorem mv_yX5_parts : MV yX5_parts cX5_parts 3 (some .int) 0 := ⟨⟨mw_5, mw_478, by decide +kernel⟩, mw_476, mw_477⟩
theorem mv_yX4_rest : MV yX4_rest cX4_rest 3 (some .int) 2 := ⟨⟨mw_2, mw_482, by decide +kernel⟩, mw_480, mw_481⟩
theorem mv_yX2_leftOf : MV yX2_leftOf cX2_leftOf 5 (some .int) 2 := ⟨⟨mw_22, mw_486, by decide +kernel⟩, mw_484, mw_485⟩
theorem mv_yX5_rest : MV yX5_rest cX5_rest 5 (some .int) 2 := ⟨⟨mw_5, mw_490, by decide +kernel⟩, mw_488, mw_489⟩
theorem mv_yX4_drawn : MV yX4_drawn cX4_drawn 4 (some .int) 3 := ⟨⟨mw_2, mw_494, by decide +kernel⟩, mw_492, mw_493⟩
theorem mv_yX0_ordersThatPart : MV yX0_ordersThatPart cX0_ordersThatPart 6 (some .int) 3 := ⟨⟨mw_26, mw_498, by decide +kernel⟩, mw_496, mw_497⟩
theorem mv_yX0_reached : MV yX0_reached cX0_reached 5 (some .int) 2 := ⟨⟨mw_26, mw_502, by decide +kernel⟩, mw_500, mw_501⟩
theorem ms_yJ6_bitCount_0f7a4 : MS yJ6_bitCount_0f7a4 cJ6_bitCount_0f7a4 1 (some .int) 1 := ⟨⟨mw_505, mw_506, by decide +kernel⟩, mw_504⟩
theorem mv_yX0_howMany : MV yX0_howMany cX0_howMany 1 (some .int) 0 := ⟨⟨mw_26, mw_513, by decide +kernel⟩, mw_511, mw_512⟩
theorem mv_yX5_drawn : MV yX5_drawn cX5_drawn 6 (some .int) 3 := ⟨⟨mw_5, mw_517, by decide +kernel⟩, mw_515, mw_516⟩
theorem mv_yX5_orders : MV yX5_orders cX5_orders 3 (some .int) 0 := ⟨⟨mw_5, mw_521, by decide +kernel⟩, mw_519, mw_520⟩
theorem mv_yX5_draw : MV yX5_draw cX5_draw 8 none 1 := ⟨⟨mw_5, mw_525, by decide +kernel⟩, mw_523, mw_524⟩
theorem mv_yX5_goalOf : MV yX5_goalOf cX5_goalOf 4 (some .int) 2 := ⟨⟨mw_5, mw_529, by decide +kernel⟩, mw_527, mw_528⟩
theorem mv_yX4_goes : MV yX4_goes cX4_goes 4 (some .int) 3 := ⟨⟨mw_2, mw_533, by decide +kernel⟩, mw_531, mw_532⟩
theorem mv_yX0_firstWithin : MV yX0_firstWithin cX0_firstWithin 8 (some .int) 3 := ⟨⟨mw_26, mw_538, by decide +kernel⟩, mw_536, mw_537⟩
theorem mv_yX0_undealtAt : MV yX0_undealtAt cX0_undealtAt 5 (some .int) 2 := ⟨⟨mw_26, mw_542, by decide +kernel⟩, mw_540, mw_541⟩
theorem mv_yX5_goes : MV yX5_goes cX5_goes 4 (some .int) 3 := ⟨⟨mw_5, mw_546, by decide +kernel⟩, mw_544, mw_545⟩
theorem mv_yX4_count : MV yX4_count cX4_count 2 (some .int) 1 := ⟨⟨mw_2, mw_550, by decide +kernel⟩, mw_548, mw_549⟩
theorem mv_yX5_count : MV yX5_count cX5_count 6 (some .int) 1 := ⟨⟨mw_5, mw_554, by decide +kernel⟩, mw_552, mw_553⟩
theorem mv_yX4_digest : MV yX4_digest cX4_digest 6 (some .long) 0 := ⟨⟨mw_2, mw_558, by decide +kernel⟩, mw_556, mw_557⟩
theorem ms_yX4_taken : MS yX4_taken cX4_taken 4 (some .long) 2 := ⟨⟨mw_2, mw_562, by decide +kernel⟩, mw_561⟩
theorem mv_yX5_digest : MV yX5_digest cX5_digest 3 (some .long) 0 := ⟨⟨mw_5, mw_567, by decide +kernel⟩, mw_565, mw_566⟩
theorem mv_yX5_mix : MV yX5_mix cX5_mix 3 none 1 := ⟨⟨mw_5, mw_573, by decide +kernel⟩, mw_571, mw_572⟩
theorem w_max_static : Cond.static Lib.Math.max.name ∈ wsL_law := mw_146
theorem w_min_static : Cond.static Lib.Math.min.name ∈ wsL_law := mw_207
theorem w_math_ini : Cond.initialized "java/lang/Math" ∈ wsL_law := mw_147
theorem w_max_code : Cond.code Lib.Math.max.name Lib.Math.max.code 2 (some .int) ∈ wsL_law := mw_148
theorem w_min_code : Cond.code Lib.Math.min.name Lib.Math.min.code 2 (some .int) ∈ wsL_law := mw_208
theorem UP.calling {D : va_G} {tys : List (ClassId × FieldType)} {N : Nat} {ad : Nat → Nat} {fa : Nat} {cf : Nat → va_E} {U : State} {g : JFrame} {mk : MethodId} {a : Array Value} (h : UP D tys N ad fa cf U) : UP D tys N ad fa cf (U.calling g mk a) := by
  obtain ⟨h1, h2, h3, h4, h5, h6⟩ := h
  exact ⟨h1, va_K.moved (u := U) (U := U.calling g mk a) (Vm.Alike.refl U.vm) h2, h3, NW.same (u := U) (U := U.calling g mk a) rfl h4, va_Z.moved (u := U) (U := U.calling g mk a) (Vm.Alike.refl U.vm) h5, va_T.moved (u := U) (U := U.calling g mk a) (Vm.Alike.refl U.vm) h6⟩
section UCALL
variable {p : Program} {l : Launch} {e : Env} {R : Room} {s : State} {m : MethodId} {args : Array Value} {below : List Frame} {meth : Method} {c : Code} {H : Heap} {locs : List Loc} {Q : State → Prop}
variable {cc : ByteArray} {nL pc : Nat} {own : String} {ls : Array Slot} {rest : List Value} {D : va_G} {A : Nat → Prop} {tys : List (ClassId × FieldType)} {N : Nat} {ad : Nat → Nat} {fa : Nat} {cf cf' : Nat → va_E} {o : Option Value}
theorem Cx.sub (C : Cx p s m args meth c cc nL own D tys fa A) (hW : Wd D N ad cf A s.heap H locs) : ∀ q, UA N ad H.size q → A q := by
  intro q h
  rcases h with ⟨k, hk, rfl⟩ | h
  · exact hW.2.1.2 k _ (uw_get hk)
  · exact C.2.2.2.2.2.2.2.2.1 q (Nat.le_trans hW.2.2.1 h)
theorem Cx.up (C : Cx p s m args meth c cc nL own D tys fa A) (hW : Wd D N ad cf A s.heap H locs) {U : State} (hU : U.heap = H) (hw : s.WarmedH U.vm) : UP D tys N ad fa cf U := by
  subst hU
  have hsub := Cx.sub C hW
  have hkeep : ∀ a : Nat, a < s.heap.size → ¬ A a → U.heap[a]? = s.heap[a]? := hW.2.2.2.1
  have hF := C.2.2.2.2.2.2.2.2.2
  exact ⟨hW.1, va_K.moved hw.alike C.2.2.2.2.2.1, ⟨hW.2.1.1, fun _ _ _ => trivial⟩, C.2.2.2.2.2.2.1.warm hw, ((hF.1.kept hkeep).moved hw.alike).narrow hsub, ((hF.2.kept hkeep).moved hw.alike).narrow hsub⟩
theorem u_run {st0 : List Value} {a : Array Value} {A1 : Nat → Prop} {free : Addr → Prop} (hr : va_Run p l e R s m args below meth c H locs 0 0 0 0 (F0 m pc ls st0) rest (uQ D N ad cf' o A1 a) free) (hW : Wd D N ad cf A s.heap H locs) (hA1 : ∀ q, A1 q → A q) (hfree : ∀ q, free q → A q)
    (kk : ∀ (H1 : Heap) (locs1 : List Loc), Wd D N ad cf' A s.heap H1 locs1 → W p l e R s m args below meth c H1 locs1 0 0 Q (F0 m (pc + 3) ls (o.toList ++ rest))) : W p l e R s m args below meth c H locs 0 0 Q (F0 m pc ls st0) := by
  intro T hT X
  obtain ⟨v, st₀, t, T', L, h0, X', hL, e1, e2, ⟨⟨hv, hp⟩, hz, hk⟩, st⟩ := hr T hT X
  cases hv
  rw [h0] at hz hk
  obtain ⟨t2, a1, b1⟩ := kk T'.heap (locs ++ L) ⟨by rw [e1]; exact hp, uw_D hW.2.1, ⟨Nat.le_trans hW.2.2.1 (by rw [e1]; exact hz), fun q h1 h2 => by rw [e1, hk q (Nat.lt_of_lt_of_le h1 hW.2.2.1) (fun z => h2 (hA1 q z))]; exact hW.2.2.2.1 q h1 h2, fun q hq => (List.mem_append.mp hq).elim (hW.2.2.2.2 q) (fun h => hfree _ (hL q h))⟩⟩ T' rfl X'
  exact ⟨t2, st t2 a1, b1⟩
theorem u_blind {As : List Value} {sz : Nat} : FrameBlind (va_Pc As (fun U => U.heap.size = sz ∧ UP D tys N ad fa cf U)) := fun a U g mk q => by
  obtain ⟨q1, q2, q3⟩ := q
  exact ⟨q1, q2, q3.calling⟩
theorem u_callV {y : MethodName} {b : ByteArray} {maxL : Nat} {ret : Option FieldType} {rm : Room} {index k ci n : Nat} {q : vw_C} {As : List Value} {fs : List Value} {st0 st1 : List Value} (C : Cx p s m args meth c cc nL own D tys fa A) (hW : Wd D N ad cf A s.heap H locs)
    (hM : Ct l y (Cond.code y b maxL ret :: wsL_law) rm D tys N ad fa (.ref (ad k) :: As) cf cf' o) (mv : MV y b maxL ret n) (hl : Cond.methodLink own index y ∈ wsL_law) (hn : As.length = n)
    (hR : rm.cells = 0 ∧ rm.slots = 0 ∧ rm.frames + 1 ≤ R.frames ∧ 8 + (maxL + 11) + rm.locals ≤ R.locals) (hk : k < N) (he : cf k = .inr (ci, fs)) (hc : vwCl[ci]? = some q) (hq : q.1 = y.cls) {lv : List (Nat × Value)} (hls : lv_has ls nL lv) (hroom : (rest.map fun v => v.category).sum ≤ 8)
    (hst : st0 = As.reverse ++ .ref (ad k) :: rest) (hst1 : o.toList ++ rest = st1) (hdg : decode cc pc = .ok (.invokevirtual index, 3))
    (kk : ∀ (H1 : Heap) (locs1 : List Loc), Wd D N ad cf' A s.heap H1 locs1 → W p l e R s m args below meth c H1 locs1 0 0 Q (F0 m (pc + 3) ls st1)) : W p l e R s m args below meth c H locs 0 0 Q (F0 m pc ls st0) := by
  subst hst; subst hst1
  obtain ⟨⟨w1, w2, w3⟩, w4, w5⟩ := mv
  have hts := C.2.2.2.2.1
  have hcb : CallB R s args own index y b maxL ret (Cond.code y b maxL ret :: wsL_law) rm 0 0 n := callB_of n hts (wU_good w2) rfl hR.1 hR.2.1 (hts _ w1) (hts _ hl) w3 hR.2.2
  have hrecv := va_recv (q := q) C.2.2.2.2.2.1 hW.1 hc ((uw_get hk).trans (by rw [he]))
  rw [hq] at hrecv
  have hrun := va_runV (e := e) (below := below) (meth := meth) (As := As) (rest := rest) (b := ad k) (C := y.cls) (H := H) (locs := locs) (g := F0 m pc ls (As.reverse ++ .ref (ad k) :: rest)) ⟨C.1, C.2.1, C.2.2.1, C.2.2.2.1, hts⟩ (hM H.size) ⟨hcb, hts _ w4, hts _ w5⟩ ⟨u_blind, hrecv, fun U hU hw => ⟨rfl, by rw [hU], Cx.up C hW hU hw⟩⟩ rfl hn hls.1 rfl (lv_room hroom) hdg ⟨Nat.zero_le _, Nat.zero_le _⟩
  exact u_run hrun hW (Cx.sub C hW) (Cx.sub C hW) kk
theorem u_callS {y : MethodName} {b : ByteArray} {maxL : Nat} {ret : Option FieldType} {rm : Room} {index n : Nat} {As : List Value} {st0 st1 : List Value} (C : Cx p s m args meth c cc nL own D tys fa A) (hW : Wd D N ad cf A s.heap H locs)
    (hM : Ct l y (Cond.code y b maxL ret :: wsL_law) rm D tys N ad fa As cf cf' o) (mv : MS y b maxL ret n) (hl : Cond.methodLink own index y ∈ wsL_law) (hn : As.length = n)
    (hR : rm.cells = 0 ∧ rm.slots = 0 ∧ rm.frames + 1 ≤ R.frames ∧ 8 + (maxL + 11) + rm.locals ≤ R.locals) {lv : List (Nat × Value)} (hls : lv_has ls nL lv) (hroom : (rest.map fun v => v.category).sum ≤ 8)
    (hst : st0 = As.reverse ++ rest) (hst1 : o.toList ++ rest = st1) (hdg : decode cc pc = .ok (.invokestatic index, 3))
    (kk : ∀ (H1 : Heap) (locs1 : List Loc), Wd D N ad cf' A s.heap H1 locs1 → W p l e R s m args below meth c H1 locs1 0 0 Q (F0 m (pc + 3) ls st1)) : W p l e R s m args below meth c H locs 0 0 Q (F0 m pc ls st0) := by
  subst hst; subst hst1
  obtain ⟨⟨w1, w2, w3⟩, w4⟩ := mv
  have hts := C.2.2.2.2.1
  have hcb : CallB R s args own index y b maxL ret (Cond.code y b maxL ret :: wsL_law) rm 0 0 n := callB_of n hts (wU_good w2) rfl hR.1 hR.2.1 (hts _ w1) (hts _ hl) w3 hR.2.2
  have hrun := va_runS (e := e) (below := below) (meth := meth) (As := As) (rest := rest) (H := H) (locs := locs) (g := F0 m pc ls (As.reverse ++ rest)) ⟨C.1, C.2.1, C.2.2.1, C.2.2.2.1, hts⟩ (hM H.size) ⟨hcb, hts _ w4⟩ ⟨u_blind, fun U hU hw => ⟨rfl, by rw [hU], Cx.up C hW hU hw⟩⟩ rfl hn hls.1 rfl (lv_room hroom) hdg ⟨Nat.zero_le _, Nat.zero_le _⟩
  exact u_run hrun hW (Cx.sub C hW) (Cx.sub C hW) kk
theorem u_callSN {y : MethodName} {b : ByteArray} {maxL : Nat} {ret : Option FieldType} {rm : Room} {index n : Nat} {host : String} {As : List Value} {st0 st1 : List Value} (C : Cx p s m args meth c cc nL own D tys fa A) (hW : Wd D N ad cf A s.heap H locs)
    (hM : Ct l y (Cond.code y b maxL ret :: wsL_law) rm D tys N ad fa As cf cf' o) (mv : MS y b maxL ret n) (hl : Cond.methodLinkNest own index y host ∈ nestW) (hn : As.length = n)
    (hR : rm.cells = 0 ∧ rm.slots = 0 ∧ rm.frames + 1 ≤ R.frames ∧ 8 + (maxL + 11) + rm.locals ≤ R.locals) {lv : List (Nat × Value)} (hls : lv_has ls nL lv) (hroom : (rest.map fun v => v.category).sum ≤ 8)
    (hst : st0 = As.reverse ++ rest) (hst1 : o.toList ++ rest = st1) (hdg : decode cc pc = .ok (.invokestatic index, 3))
    (kk : ∀ (H1 : Heap) (locs1 : List Loc), Wd D N ad cf' A s.heap H1 locs1 → W p l e R s m args below meth c H1 locs1 0 0 Q (F0 m (pc + 3) ls st1)) : W p l e R s m args below meth c H locs 0 0 Q (F0 m pc ls st0) := by
  subst hst; subst hst1
  obtain ⟨⟨w1, w2, w3⟩, w4⟩ := mv
  have hts := C.2.2.2.2.1
  have hcb := va_cnB (R := R) (host := host) (own := own) (index := index) (bytes := b) (maxL := maxL) (ret := ret) n hts (wU_good w2) rfl hR.1 hR.2.1 (C.2.2.2.2.2.2.1 _ hl) (hts _ w1) w3 hR.2.2
  have hrun := va_runSN (e := e) (below := below) (meth := meth) (As := As) (rest := rest) (H := H) (locs := locs) (g := F0 m pc ls (As.reverse ++ rest)) ⟨C.1, C.2.1, C.2.2.1, C.2.2.2.1, hts⟩ (hM H.size) ⟨hcb, hts _ w4, trivial⟩ ⟨u_blind, fun U hU hw => ⟨rfl, by rw [hU], Cx.up C hW hU hw⟩⟩ rfl hn hls.1 rfl (lv_room hroom) hdg ⟨Nat.zero_le _, Nat.zero_le _⟩
  exact u_run hrun hW (Cx.sub C hW) (Cx.sub C hW) kk
theorem u_max {index : Nat} (C : Cx p s m args meth c cc nL own D tys fa A) (hl : Cond.methodLink own index Lib.Math.max.name ∈ wsL_law) {lv : List (Nat × Value)} (hls : lv_has ls nL lv) {x y : Int32} (hf : 1 ≤ R.frames) (hlo : (rest.map fun v => v.category).sum + 13 ≤ R.locals) (hdg : decode cc pc = .ok (.invokestatic index, 3))
    (kk : W p l e R s m args below meth c H locs 0 0 Q (F0 m (pc + 3) ls (.int (if x < y then y else x) :: rest))) : W p l e R s m args below meth c H locs 0 0 Q (F0 m pc ls (.int y :: .int x :: rest)) :=
  va_mmax C.1 C.2.1 (C.2.2.1.trans hls.1.symm) C.2.2.2.1 (C.2.2.2.2.1 _ hl) (C.2.2.2.2.1 _ w_max_static) (C.2.2.2.2.1 _ w_math_ini) (C.2.2.2.2.1 _ w_max_code) hf hlo (Nat.zero_le _) (Nat.zero_le _) hdg kk
theorem u_min {index : Nat} (C : Cx p s m args meth c cc nL own D tys fa A) (hl : Cond.methodLink own index Lib.Math.min.name ∈ wsL_law) {lv : List (Nat × Value)} (hls : lv_has ls nL lv) {x y : Int32} (hf : 1 ≤ R.frames) (hlo : (rest.map fun v => v.category).sum + 13 ≤ R.locals) (hdg : decode cc pc = .ok (.invokestatic index, 3))
    (kk : W p l e R s m args below meth c H locs 0 0 Q (F0 m (pc + 3) ls (.int (if y < x then y else x) :: rest))) : W p l e R s m args below meth c H locs 0 0 Q (F0 m pc ls (.int y :: .int x :: rest)) :=
  va_mmin C.1 C.2.1 (C.2.2.1.trans hls.1.symm) C.2.2.2.1 (C.2.2.2.2.1 _ hl) (C.2.2.2.2.1 _ w_min_static) (C.2.2.2.2.1 _ w_math_ini) (C.2.2.2.2.1 _ w_min_code) hf hlo (Nat.zero_le _) (Nat.zero_le _) hdg kk
end UCALL
end
section
/-! the cells of the class's side (29) and of the reference's (7) -/
abbrev ty3 (cyI cO cyZ : ClassId) : List (ClassId × FieldType) := [(cyI, .int), (cO, .array .int), (cyZ, .boolean)]
def oR (cO : ClassId) (ad : Nat → Nat) (b : Nat) : va_E := .inl (cO, 6, .inr (.inr (.inr (.inr (fun i => if i < 6 then some (ad (b + i)) else none)))))
def iR (cyI : ClassId) (n : Nat) (f : Nat → Int32) : va_E := .inl (cyI, n, .inl f)
def cC (cyI cO : ClassId) (ad : Nat → Nat) (n : Nat) (d md : Nat → Nat → Int32) (go ke ha : Nat → Int32) (wy : Nat → Nat → Int32) (ab be sr : Int32) : Nat → va_E := fun k =>
  if k = 0 then .inr (4, [.ref (ad 1), .ref (ad 16), .ref (ad 27), .ref (ad 28), .int sr])
  else if k = 1 then .inr (3, [.ref (ad 2), .ref (ad 9), .int (nI n)])
  else if k = 2 then oR cO ad 3
  else if k < 9 then iR cyI 6 (d (k - 3))
  else if k = 9 then oR cO ad 10
  else if k < 16 then iR cyI 6 (md (k - 10))
  else if k = 16 then .inr (1, [.ref (ad 1), .ref (ad 17), .ref (ad 18), .ref (ad 19), .ref (ad 20), .int ab, .int be])
  else if k = 17 then iR cyI 6 go
  else if k = 18 then iR cyI 6 ke
  else if k = 19 then iR cyI 6 ha
  else if k = 20 then oR cO ad 21
  else if k < 27 then iR cyI 6 (wy (k - 21))
  else if k = 27 then .inr (2, [.ref (ad 1)])
  else .inr (0, [.ref (ad 1)])
def cM (cyI cyZ : ClassId) (ad : Nat → Nat) (n : Nat) (t md jd jn wm od : Nat → Int32) (bs : Int32) (ab be hh : Int64) : Nat → va_E := fun k =>
  if k = 0 then .inr (5, [.int (nI n), .ref (ad 1), .int bs, .ref (ad 2), .ref (ad 3), .ref (ad 4), .ref (ad 5), .long ab, .long be, .ref (ad 6), .long hh])
  else if k = 1 then iR cyI 36 t
  else if k = 2 then iR cyI 36 md
  else if k = 3 then iR cyZ 36 jd
  else if k = 4 then iR cyI 6 jn
  else if k = 5 then iR cyI 36 wm
  else if k = 6 then iR cyI 6 od
  else .inr (0, [])
section CELLS
variable {cyI cO cyZ : ClassId} {ad : Nat → Nat} {n : Nat} {d md wy : Nat → Nat → Int32} {go ke ha : Nat → Int32} {ab be sr : Int32}
theorem cC_0 : cC cyI cO ad n d md go ke ha wy ab be sr 0 = .inr (4, [.ref (ad 1), .ref (ad 16), .ref (ad 27), .ref (ad 28), .int sr]) := rfl
theorem cC_1 : cC cyI cO ad n d md go ke ha wy ab be sr 1 = .inr (3, [.ref (ad 2), .ref (ad 9), .int (nI n)]) := rfl
theorem cC_2 : cC cyI cO ad n d md go ke ha wy ab be sr 2 = .inl (cO, 6, .inr (.inr (.inr (.inr (fun i => if i < 6 then some (ad (3 + i)) else none))))) := rfl
theorem cC_9 : cC cyI cO ad n d md go ke ha wy ab be sr 9 = .inl (cO, 6, .inr (.inr (.inr (.inr (fun i => if i < 6 then some (ad (10 + i)) else none))))) := rfl
theorem cC_16 : cC cyI cO ad n d md go ke ha wy ab be sr 16 = .inr (1, [.ref (ad 1), .ref (ad 17), .ref (ad 18), .ref (ad 19), .ref (ad 20), .int ab, .int be]) := rfl
theorem cC_17 : cC cyI cO ad n d md go ke ha wy ab be sr 17 = .inl (cyI, 6, .inl go) := rfl
theorem cC_18 : cC cyI cO ad n d md go ke ha wy ab be sr 18 = .inl (cyI, 6, .inl ke) := rfl
theorem cC_19 : cC cyI cO ad n d md go ke ha wy ab be sr 19 = .inl (cyI, 6, .inl ha) := rfl
theorem cC_20 : cC cyI cO ad n d md go ke ha wy ab be sr 20 = .inl (cO, 6, .inr (.inr (.inr (.inr (fun i => if i < 6 then some (ad (21 + i)) else none))))) := rfl
theorem cC_27 : cC cyI cO ad n d md go ke ha wy ab be sr 27 = .inr (2, [.ref (ad 1)]) := rfl
theorem cC_28 : cC cyI cO ad n d md go ke ha wy ab be sr 28 = .inr (0, [.ref (ad 1)]) := rfl
theorem cC_d {i : Nat} (h : i < 6) : cC cyI cO ad n d md go ke ha wy ab be sr (3 + i) = .inl (cyI, 6, .inl (d i)) := by
  unfold cC
  rw [if_neg (by omega), if_neg (by omega), if_neg (by omega), if_pos (by omega), show 3 + i - 3 = i by omega]
  rfl
theorem cC_m {i : Nat} (h : i < 6) : cC cyI cO ad n d md go ke ha wy ab be sr (10 + i) = .inl (cyI, 6, .inl (md i)) := by
  unfold cC
  rw [if_neg (by omega), if_neg (by omega), if_neg (by omega), if_neg (by omega), if_neg (by omega), if_pos (by omega), show 10 + i - 10 = i by omega]
  rfl
theorem cC_w {i : Nat} (h : i < 6) : cC cyI cO ad n d md go ke ha wy ab be sr (21 + i) = .inl (cyI, 6, .inl (wy i)) := by
  unfold cC
  rw [if_neg (by omega), if_neg (by omega), if_neg (by omega), if_neg (by omega), if_neg (by omega), if_neg (by omega), if_neg (by omega), if_neg (by omega), if_neg (by omega), if_neg (by omega), if_neg (by omega), if_pos (by omega), show 21 + i - 21 = i by omega]
  rfl
theorem cC_outer {b i : Nat} (h : i < 6) : (fun i => if i < 6 then some (ad (b + i)) else none) i = some (ad (b + i)) := if_pos h
theorem cC_sd {i : Nat} (h : i < 6) {f : Nat → Int32} : va_up (cC cyI cO ad n d md go ke ha wy ab be sr) (3 + i) (.inl (cyI, 6, .inl f)) = cC cyI cO ad n (va_up d i f) md go ke ha wy ab be sr := by
  funext k
  by_cases hk : k = 3 + i
  · subst hk
    rw [cC_d h, va_up_self, va_up_self]
  · rw [va_up_ne _ _ hk]
    unfold cC
    by_cases h9 : k < 9
    · by_cases h3 : 2 < k
      · have : k - 3 ≠ i := by omega
        simp only [va_up_ne _ _ this]
      · simp only [show ¬ (2 < k) from h3, h9]
        have : k = 0 ∨ k = 1 ∨ k = 2 := by omega
        rcases this with rfl | rfl | rfl <;> rfl
    · simp only [h9, if_false]
theorem cC_sm {i : Nat} (h : i < 6) {f : Nat → Int32} : va_up (cC cyI cO ad n d md go ke ha wy ab be sr) (10 + i) (.inl (cyI, 6, .inl f)) = cC cyI cO ad n d (va_up md i f) go ke ha wy ab be sr := by
  funext k
  by_cases hk : k = 10 + i
  · subst hk
    rw [cC_m h, va_up_self, va_up_self]
  · rw [va_up_ne _ _ hk]
    unfold cC
    by_cases h9 : k < 16
    · by_cases h3 : 9 < k
      · have : k - 10 ≠ i := by omega
        simp only [va_up_ne _ _ this]
      · have e : ∀ (P Q : va_E), (if k = 9 then P else if k < 16 then Q else P) = (if k = 9 then P else if k < 16 then Q else P) := fun _ _ => rfl
        by_cases h99 : k = 9
        · subst h99; rfl
        · have h8 : k < 9 := by omega
          simp only [h8, if_true]
    · simp only [h9, if_false]
theorem cC_sw {i : Nat} (h : i < 6) {f : Nat → Int32} : va_up (cC cyI cO ad n d md go ke ha wy ab be sr) (21 + i) (.inl (cyI, 6, .inl f)) = cC cyI cO ad n d md go ke ha (va_up wy i f) ab be sr := by
  funext k
  by_cases hk : k = 21 + i
  · subst hk
    rw [cC_w h, va_up_self, va_up_self]
  · rw [va_up_ne _ _ hk]
    unfold cC
    by_cases h9 : k < 27
    · by_cases h3 : 20 < k
      · have : k - 21 ≠ i := by omega
        simp only [va_up_ne _ _ this]
      · by_cases h99 : k = 20
        · subst h99; rfl
        · by_cases h19 : k = 19
          · subst h19; rfl
          · by_cases h18 : k = 18
            · subst h18; rfl
            · by_cases h17 : k = 17
              · subst h17; rfl
              · by_cases h16 : k = 16
                · subst h16; rfl
                · have h8 : k < 16 := by omega
                  simp only [h8, if_true]
    · simp only [h9, if_false]
theorem cC_s1 {k : Nat} (hk : k = 17 ∨ k = 18 ∨ k = 19) (f : Nat → Int32) : va_up (cC cyI cO ad n d md go ke ha wy ab be sr) k (.inl (cyI, 6, .inl f)) = cC cyI cO ad n d md (if k = 17 then f else go) (if k = 18 then f else ke) (if k = 19 then f else ha) wy ab be sr := by
  funext j
  by_cases hj : j = k
  · subst hj
    rw [va_up_self]
    rcases hk with rfl | rfl | rfl <;> rfl
  · rw [va_up_ne _ _ hj]
    unfold cC
    rcases hk with rfl | rfl | rfl <;> simp [hj]
theorem cC_s17 {f : Nat → Int32} : va_up (cC cyI cO ad n d md go ke ha wy ab be sr) 17 (.inl (cyI, 6, .inl f)) = cC cyI cO ad n d md f ke ha wy ab be sr := cC_s1 (Or.inl rfl) f
theorem cC_s18 {f : Nat → Int32} : va_up (cC cyI cO ad n d md go ke ha wy ab be sr) 18 (.inl (cyI, 6, .inl f)) = cC cyI cO ad n d md go f ha wy ab be sr := cC_s1 (Or.inr (Or.inl rfl)) f
theorem cC_s19 {f : Nat → Int32} : va_up (cC cyI cO ad n d md go ke ha wy ab be sr) 19 (.inl (cyI, 6, .inl f)) = cC cyI cO ad n d md go ke f wy ab be sr := cC_s1 (Or.inr (Or.inr rfl)) f
theorem cC_sn {n' : Nat} : va_up (cC cyI cO ad n d md go ke ha wy ab be sr) 1 (.inr (3, [.ref (ad 2), .ref (ad 9), .int (nI n')])) = cC cyI cO ad n' d md go ke ha wy ab be sr := by
  funext j
  by_cases hj : j = 1
  · subst hj; rfl
  · rw [va_up_ne _ _ hj]; unfold cC; simp [hj]
theorem cC_ssr {x : Int32} : va_up (cC cyI cO ad n d md go ke ha wy ab be sr) 0 (.inr (4, [.ref (ad 1), .ref (ad 16), .ref (ad 27), .ref (ad 28), .int x])) = cC cyI cO ad n d md go ke ha wy ab be x := by
  funext j
  by_cases hj : j = 0
  · subst hj; rfl
  · rw [va_up_ne _ _ hj]; unfold cC; simp [hj]
theorem cC_sab {x y : Int32} : va_up (cC cyI cO ad n d md go ke ha wy ab be sr) 16 (.inr (1, [.ref (ad 1), .ref (ad 17), .ref (ad 18), .ref (ad 19), .ref (ad 20), .int x, .int y])) = cC cyI cO ad n d md go ke ha wy x y sr := by
  funext j
  by_cases hj : j = 16
  · subst hj; rfl
  · rw [va_up_ne _ _ hj]; unfold cC; simp [hj]
end CELLS
section CELLM
variable {cyI cO cyZ : ClassId} {ad : Nat → Nat} {n : Nat} {t md jd jn wm od : Nat → Int32} {bs : Int32} {ab be hh : Int64}
theorem cM_0 : cM cyI cyZ ad n t md jd jn wm od bs ab be hh 0 = .inr (5, [.int (nI n), .ref (ad 1), .int bs, .ref (ad 2), .ref (ad 3), .ref (ad 4), .ref (ad 5), .long ab, .long be, .ref (ad 6), .long hh]) := rfl
theorem cM_1 : cM cyI cyZ ad n t md jd jn wm od bs ab be hh 1 = .inl (cyI, 36, .inl t) := rfl
theorem cM_2 : cM cyI cyZ ad n t md jd jn wm od bs ab be hh 2 = .inl (cyI, 36, .inl md) := rfl
theorem cM_3 : cM cyI cyZ ad n t md jd jn wm od bs ab be hh 3 = .inl (cyZ, 36, .inl jd) := rfl
theorem cM_4 : cM cyI cyZ ad n t md jd jn wm od bs ab be hh 4 = .inl (cyI, 6, .inl jn) := rfl
theorem cM_5 : cM cyI cyZ ad n t md jd jn wm od bs ab be hh 5 = .inl (cyI, 36, .inl wm) := rfl
theorem cM_6 : cM cyI cyZ ad n t md jd jn wm od bs ab be hh 6 = .inl (cyI, 6, .inl od) := rfl
theorem cM_s0 {n' : Nat} {bs' : Int32} {ab' be' hh' : Int64} : va_up (cM cyI cyZ ad n t md jd jn wm od bs ab be hh) 0 (.inr (5, [.int (nI n'), .ref (ad 1), .int bs', .ref (ad 2), .ref (ad 3), .ref (ad 4), .ref (ad 5), .long ab', .long be', .ref (ad 6), .long hh'])) = cM cyI cyZ ad n' t md jd jn wm od bs' ab' be' hh' := by
  funext j
  by_cases hj : j = 0
  · subst hj; rfl
  · rw [va_up_ne _ _ hj]; unfold cM; simp [hj]
theorem cM_s1 {f : Nat → Int32} : va_up (cM cyI cyZ ad n t md jd jn wm od bs ab be hh) 1 (.inl (cyI, 36, .inl f)) = cM cyI cyZ ad n f md jd jn wm od bs ab be hh := by
  funext j
  by_cases hj : j = 1
  · subst hj; rfl
  · rw [va_up_ne _ _ hj]; unfold cM; simp [hj]
theorem cM_s2 {f : Nat → Int32} : va_up (cM cyI cyZ ad n t md jd jn wm od bs ab be hh) 2 (.inl (cyI, 36, .inl f)) = cM cyI cyZ ad n t f jd jn wm od bs ab be hh := by
  funext j
  by_cases hj : j = 2
  · subst hj; rfl
  · rw [va_up_ne _ _ hj]; unfold cM; simp [hj]
theorem cM_s3 {f : Nat → Int32} : va_up (cM cyI cyZ ad n t md jd jn wm od bs ab be hh) 3 (.inl (cyZ, 36, .inl f)) = cM cyI cyZ ad n t md f jn wm od bs ab be hh := by
  funext j
  by_cases hj : j = 3
  · subst hj; rfl
  · rw [va_up_ne _ _ hj]; unfold cM; simp [hj]
theorem cM_s4 {f : Nat → Int32} : va_up (cM cyI cyZ ad n t md jd jn wm od bs ab be hh) 4 (.inl (cyI, 6, .inl f)) = cM cyI cyZ ad n t md jd f wm od bs ab be hh := by
  funext j
  by_cases hj : j = 4
  · subst hj; rfl
  · rw [va_up_ne _ _ hj]; unfold cM; simp [hj]
theorem cM_s5 {f : Nat → Int32} : va_up (cM cyI cyZ ad n t md jd jn wm od bs ab be hh) 5 (.inl (cyI, 36, .inl f)) = cM cyI cyZ ad n t md jd jn f od bs ab be hh := by
  funext j
  by_cases hj : j = 5
  · subst hj; rfl
  · rw [va_up_ne _ _ hj]; unfold cM; simp [hj]
theorem cM_s6 {f : Nat → Int32} : va_up (cM cyI cyZ ad n t md jd jn wm od bs ab be hh) 6 (.inl (cyI, 6, .inl f)) = cM cyI cyZ ad n t md jd jn wm f bs ab be hh := by
  funext j
  by_cases hj : j = 6
  · subst hj; rfl
  · rw [va_up_ne _ _ hj]; unfold cM; simp [hj]
end CELLM
/-! counting loops, as numbers -/
def lp {α : Type} (f : α → Nat → α) : Nat → Nat → α → α
  | _, 0, a => a
  | i, k + 1, a => lp f (i + 1) k (f a i)
theorem lp_0 {α : Type} (f : α → Nat → α) (i : Nat) (a : α) : lp f i 0 a = a := rfl
theorem lp_s {α : Type} (f : α → Nat → α) (i k : Nat) (a : α) : lp f i (k + 1) a = lp f (i + 1) k (f a i) := rfl
def u2 (d : Nat → Nat → Int32) (i j : Nat) (x : Int32) : Nat → Nat → Int32 := va_up d i (upd (d i) j x)
def mx (x y : Int32) : Int32 := if x < y then y else x
def mn (x y : Int32) : Int32 := if y < x then y else x
theorem ix6 (i j : Nat) : (6 : Int32) * nI i + nI j = nI (6 * i + j) := by
  rw [show (6 : Int32) = nI 6 from rfl, pk_mul, nI_add]
end
section
/-! the class's table, as functions of its numbers -/
def fillR (d : Nat → Nat → Int32) (i : Nat) (v : Int32) : Nat → Nat → Int32 := lp (fun dd j => u2 dd i j v) 0 6 d
def fillA (f : Nat → Int32) (v : Int32) : Nat → Int32 := lp (fun g j => upd g j v) 0 6 f
def beginV (d : Nat → Nat → Int32) : Nat → Nat → Int32 := lp (fun dd i => u2 (fillR dd i 1) i i 0) 0 6 d
def putV (d : Nat → Nat → Int32) (i j : Nat) (v : Int32) : Nat → Nat → Int32 := u2 (u2 d i j v) j i v
def togV (x y k : Int32) : Int32 := if k = 0 then x + y else mx x y
def sbV (n : Nat) (d : Nat → Nat → Int32) (i j : Nat) (kind : Int32) : Int32 := lp (fun a k => if d i j ≤ togV (d i k) (d k j) kind then a else a + 1) 0 n 0
def btV (n : Nat) (d : Nat → Nat → Int32) (kind : Int32) : Int32 := lp (fun a i => lp (fun a j => a + sbV n d i j kind) (i + 1) (n - (i + 1)) a) 0 n 0
def tgaV (a b c : Int32) : Int32 := if a = b then (if a = mx a (mx b c) then 1 else if a = c then (if a = mx a (mx b c) then 1 else if b = c then (if b = mx a (mx b c) then 1 else 0) else 0) else if b = c then (if b = mx a (mx b c) then 1 else 0) else 0) else if a = c then (if a = mx a (mx b c) then 1 else if b = c then (if b = mx a (mx b c) then 1 else 0) else 0) else if b = c then (if b = mx a (mx b c) then 1 else 0) else 0
def bffV (n : Nat) (d : Nat → Nat → Int32) (i j k : Nat) : Int32 := lp (fun a l => if tgaV (d i j + d k l) (d i k + d j l) (d i l + d j k) = 0 then a + 1 else a) (k + 1) (n - (k + 1)) 0
def bfV (n : Nat) (d : Nat → Nat → Int32) : Int32 := lp (fun a i => lp (fun a j => lp (fun a k => a + bffV n d i j k) (j + 1) (n - (j + 1)) a) (i + 1) (n - (i + 1)) a) 0 n 0
def cpV (n : Nat) (d md : Nat → Nat → Int32) : Nat → Nat → Int32 := lp (fun mm i => va_up mm i (va_cpy (d i) (mm i) 0 0 n)) 0 n md
def shV (n : Nat) (md : Nat → Nat → Int32) (k : Nat) (kind : Int32) : Nat → Nat → Int32 := lp (fun mm i => lp (fun mm j => u2 mm i j (mn (mm i j) (togV (mm i k) (mm k j) kind))) 0 n mm) 0 n md
def clV (n : Nat) (d md : Nat → Nat → Int32) (kind : Int32) : Nat → Nat → Int32 := lp (fun mm k => shV n mm k kind) 0 n (cpV n d md)
def bcV (n : Nat) (d : Nat → Nat → Int32) (x : Nat → Nat → Int32) : Int32 × (Nat → Nat → Int32) := lp (fun p i => lp (fun p j => if p.2 i j = x i j then p else (p.1 + 1, putV p.2 i j (x i j))) (i + 1) (n - (i + 1)) p) 0 n (0, d)
def gaV (n : Nat) (d : Nat → Nat → Int32) (x : Nat → Nat → Int32) : Int32 := lp (fun a i => lp (fun a j => mx a (d i j - x i j)) (i + 1) (n - (i + 1)) a) 0 n 0
def asA (b : Int32) : Int32 := if b = 0 then 0 else 1
def grI (md : Nat → Nat → Int32) (r : Int32) (i : Nat) : Int32 := lp (fun b j => if b = 0 then 0 else if md i j ≤ r then 0 else 1) 0 i 1
def grV (n : Nat) (md : Nat → Nat → Int32) (r : Int32) : Int32 := lp (fun a i => a + asA (grI md r i)) 0 n 0
def suV (n : Nat) (x : Nat → Nat → Int32) : Int32 := lp (fun a i => lp (fun a j => a + x i j) (i + 1) (n - (i + 1)) a) 0 n 0
def goV (n : Nat) (x : Nat → Nat → Int32) : Int32 := lp (fun a i => lp (fun a j => mx a (x i j)) (i + 1) (n - (i + 1)) a) 0 n 0
section UCOPY
variable {p : Program} {l : Launch} {e : Env} {R : Room} {s : State} {m : MethodId} {args : Array Value} {below : List Frame} {meth : Method} {c : Code} {H : Heap} {locs : List Loc} {Q : State → Prop}
variable {cc : ByteArray} {nL pc : Nat} {own : String} {ls : Array Slot} {rest : List Value} {D : va_G} {A : Nat → Prop} {tys : List (ClassId × FieldType)} {N : Nat} {ad : Nat → Nat} {fa : Nat} {cf cf' : Nat → va_E}
theorem u_copy {index : Nat} (C : Cx p s m args meth c cc nL own D tys fa A) (hW : Wd D N ad cf A s.heap H locs) (hl : Cond.methodLink own index arraycopyName ∈ wsL_law) (h1 : Cond.native arraycopyName ∈ wsL_law) (h2 : Cond.static arraycopyName ∈ wsL_law) (h3 : Cond.initialized "java/lang/System" ∈ wsL_law) {lv : List (Nat × Value)} (hls : lv_has ls nL lv)
    {k0 k1 a : Nat} {cA : ClassId} {f g : Nat → Int32} (hk0 : k0 < N) (hk1 : k1 < N) (he0 : cf k0 = .inl (cA, 6, .inl f)) (he1 : cf k1 = .inl (cA, 6, .inl g)) (t0 : Nat) (ht : tys[t0]? = some (cA, .int)) (ha : a ≤ 6) (hcf : va_up cf k1 (.inl (cA, 6, .inl (va_cpy f g 0 0 a))) = cf') (hf : 1 ≤ R.frames) (hlo : (rest.map fun v => v.category).sum + (nativeFrameWords "java/lang/System" "arraycopy" 5 + 11) ≤ R.locals) (hdg : decode cc pc = .ok (.invokestatic index, 3))
    (kk : ∀ (H1 : Heap) (locs1 : List Loc), Wd D N ad cf' A s.heap H1 locs1 → W p l e R s m args below meth c H1 locs1 0 0 Q (F0 m (pc + 3) ls rest)) : W p l e R s m args below meth c H locs 0 0 Q (F0 m pc ls (.int (nI a) :: .int 0 :: .ref (ad k1) :: .int 0 :: .ref (ad k0) :: rest)) := by
  have ht2 := C.2.2.2.2.1
  have hc : (nI a).toNatClampNeg = a := nI_clamp (by omega)
  have h0 : (0 : Int32).toNatClampNeg = 0 := sb_cl0
  refine va_copyi C.1 C.2.1 (C.2.2.1.trans hls.1.symm) C.2.2.2.1 (ht2 _ hl) (ht2 _ h1) (ht2 _ h2) (ht2 _ h3) C.2.2.2.2.2.1 hW.1 hW.2.1 hW.2.2 k0 k1 t0 t0 ((uw_get hk0).trans (by rw [he0])) ((uw_get hk1).trans (by rw [he1])) ht ht rfl (by decide) (by decide) (nI_pos (by omega)) (by rw [hc, h0]; omega) (by rw [hc, h0]; omega) (fun _ _ => rfl) hf hlo hdg (fun H1 locs1 hP hD hS => ?_)
  rw [hc, h0, uw_set hk1, hcf] at hP hD
  exact kk H1 locs1 ⟨hP, hD, hS⟩
end UCOPY
end
section
set_option maxHeartbeats 4000000 in
set_option maxRecDepth 100000 in
theorem c_fillR (l : Launch) (D : va_G) (cyI cO cyZ : ClassId) (ad : Nat → Nat) (fa : Nat) (n : Nat) (d md : Nat → Nat → Int32) (go ke ha : Nat → Int32) (wy : Nat → Nat → Int32) (ab be sr : Int32) (i : Nat) (v : Int32) (hi : i < 6) : Ct l yJ7_fill_53178 (Cond.code yJ7_fill_53178 cJ7_fill_53178 4 none :: wsL_law) ({ frames := 0, cells := 0, slots := 0, locals := 0 } : Room) D (ty3 cyI cO cyZ) 29 ad fa [.ref (ad (3 + i)), .int v] (cC cyI cO ad n d md go ke ha wy ab be sr) (cC cyI cO ad n (fillR d i v) md go ke ha wy ab be sr) (none) := by
  refine Ct.of (by decide) (Nat.le_of_ble_eq_true rfl) ?_
  intro p e s m args below meth c A C hr H locs hW ls hl
  have C : Cx p s m args meth c cJ7_fill_53178 4 RJ7 D (ty3 cyI cO cyZ) fa A := C
  have hx := C.1
  have hb := C.2.1
  have hl : lv_has ls 4 [(0, .ref (ad (3 + i))), (1, .int v)] := hl
  refine lv_iconst (v := 0) hx hb dJ7_fill_53178_0 (by decide) ?_
  refine lv_istore_n (lv' := [(2, .int 0), (0, .ref (ad (3 + i))), (1, .int v)]) hx hb dJ7_fill_53178_1 rfl hl (by decide) rfl (fun ls hl => ?_)
  refine lv_aload_n hx hb dJ7_fill_53178_2 rfl (lv_at hl 1 rfl) ?_
  refine u_alen C hW (by omega) (cC_d (by omega)) 0 rfl dJ7_fill_53178_3 ?_
  refine lv_istore_n (lv' := [(3, .int (nI 6)), (2, .int 0), (0, .ref (ad (3 + i))), (1, .int v)]) hx hb dJ7_fill_53178_4 rfl hl (by decide) rfl (fun ls hl => ?_)
  have L5 : ∀ (k5 : Nat) (j : Nat) (dd : Nat → Nat → Int32), j + k5 = 6 → lp (fun dd j => u2 dd i j v) j k5 dd = fillR d i v → ∀ (H : Heap) (locs : List Loc), Wd D 29 ad (cC cyI cO ad n dd md go ke ha wy ab be sr) A s.heap H locs → ∀ ls : Array Slot, lv_has ls 4 [(2, .int (nI j)), (0, .ref (ad (3 + i))), (1, .int v), (3, .int (nI 6))] → W p l e ({ frames := 0, cells := 0, slots := 0, locals := 0 } : Room) s m args below meth c H locs 0 0 (MQ below (uQ D 29 ad (cC cyI cO ad n (fillR d i v) md go ke ha wy ab be sr) (none) A) args s 0 0 A) (F0 m 5 ls []) := by
    intro k5
    induction k5 with
    | zero =>
      intro j dd hj r5 H locs hW ls hl
      refine lv_iload_n hx hb dJ7_fill_53178_5 rfl (lv_at hl 0 rfl) ?_
      refine lv_iload_n hx hb dJ7_fill_53178_6 rfl (lv_at hl 3 rfl) ?_
      refine lv_icmp_ge (tgt := 20) hx hb dJ7_fill_53178_7 (by decide) (fun _ => ?_) (fun c9 => absurd (show nI 6 ≤ nI j from nI_le (by omega) (by omega)) c9)
      exact u_vret C hr hW dJ7_fill_53178_20 (by rw [← r5]; rfl)
    | succ k5 ih5 =>
      intro j dd hj r5 H locs hW ls hl
      refine lv_iload_n hx hb dJ7_fill_53178_5 rfl (lv_at hl 0 rfl) ?_
      refine lv_iload_n hx hb dJ7_fill_53178_6 rfl (lv_at hl 3 rfl) ?_
      refine lv_icmp_ge (tgt := 20) hx hb dJ7_fill_53178_7 (by decide) (fun c9 => absurd c9 (show ¬ nI 6 ≤ nI j from nI_ge (by omega) (by omega))) (fun _ => ?_)
      refine lv_aload_n hx hb dJ7_fill_53178_10 rfl (lv_at hl 1 rfl) ?_
      refine lv_iload_n hx hb dJ7_fill_53178_11 rfl (lv_at hl 0 rfl) ?_
      refine lv_iload_n hx hb dJ7_fill_53178_12 rfl (lv_at hl 2 rfl) ?_
      refine u_iast (cf' := cC cyI cO ad n (u2 dd i j v) md go ke ha wy ab be sr) C hW (by omega) (cC_d (by omega)) 0 rfl j rfl (by omega) (by decide) (cC_sd (by omega)) dJ7_fill_53178_13 (fun H locs hW => ?_)
      refine lv_iinc (v := nI (j + 1)) (lv' := [(2, .int (nI (j + 1))), (0, .ref (ad (3 + i))), (1, .int v), (3, .int (nI 6))]) hx hb dJ7_fill_53178_14 hl (k := 0) rfl (nI_1 _) (by decide) rfl (fun ls hl => ?_)
      refine lv_goto (tgt := 5) hx hb dJ7_fill_53178_17 (by decide) ?_
      exact ih5  (j + 1) (u2 dd i j v) (by omega) (by first | exact r5 | (have h9 := r5; simp only [lp_s, lp_0] at h9; exact h9)) H locs hW ls (lv_sub hl [0, 1, 2, 3] rfl)
  exact L5 6 0 d (by omega) rfl H locs hW ls (lv_sub hl [1, 2, 3, 0] rfl)
set_option maxHeartbeats 4000000 in
set_option maxRecDepth 100000 in
theorem c_fillA (l : Launch) (D : va_G) (cyI cO cyZ : ClassId) (ad : Nat → Nat) (fa : Nat) (n : Nat) (d md : Nat → Nat → Int32) (go ke ha : Nat → Int32) (wy : Nat → Nat → Int32) (ab be sr : Int32) (v : Int32)  : Ct l yJ7_fill_53178 (Cond.code yJ7_fill_53178 cJ7_fill_53178 4 none :: wsL_law) ({ frames := 0, cells := 0, slots := 0, locals := 0 } : Room) D (ty3 cyI cO cyZ) 29 ad fa [.ref (ad 19), .int v] (cC cyI cO ad n d md go ke ha wy ab be sr) (cC cyI cO ad n d md go ke (fillA ha v) wy ab be sr) (none) := by
  refine Ct.of (by decide) (Nat.le_of_ble_eq_true rfl) ?_
  intro p e s m args below meth c A C hr H locs hW ls hl
  have C : Cx p s m args meth c cJ7_fill_53178 4 RJ7 D (ty3 cyI cO cyZ) fa A := C
  have hx := C.1
  have hb := C.2.1
  have hl : lv_has ls 4 [(0, .ref (ad 19)), (1, .int v)] := hl
  refine lv_iconst (v := 0) hx hb dJ7_fill_53178_0 (by decide) ?_
  refine lv_istore_n (lv' := [(2, .int 0), (0, .ref (ad 19)), (1, .int v)]) hx hb dJ7_fill_53178_1 rfl hl (by decide) rfl (fun ls hl => ?_)
  refine lv_aload_n hx hb dJ7_fill_53178_2 rfl (lv_at hl 1 rfl) ?_
  refine u_alen C hW (by decide) cC_19 0 rfl dJ7_fill_53178_3 ?_
  refine lv_istore_n (lv' := [(3, .int (nI 6)), (2, .int 0), (0, .ref (ad 19)), (1, .int v)]) hx hb dJ7_fill_53178_4 rfl hl (by decide) rfl (fun ls hl => ?_)
  have L5 : ∀ (k5 : Nat) (j : Nat) (hh : Nat → Int32), j + k5 = 6 → lp (fun g j => upd g j v) j k5 hh = fillA ha v → ∀ (H : Heap) (locs : List Loc), Wd D 29 ad (cC cyI cO ad n d md go ke hh wy ab be sr) A s.heap H locs → ∀ ls : Array Slot, lv_has ls 4 [(2, .int (nI j)), (0, .ref (ad 19)), (1, .int v), (3, .int (nI 6))] → W p l e ({ frames := 0, cells := 0, slots := 0, locals := 0 } : Room) s m args below meth c H locs 0 0 (MQ below (uQ D 29 ad (cC cyI cO ad n d md go ke (fillA ha v) wy ab be sr) (none) A) args s 0 0 A) (F0 m 5 ls []) := by
    intro k5
    induction k5 with
    | zero =>
      intro j hh hj r5 H locs hW ls hl
      refine lv_iload_n hx hb dJ7_fill_53178_5 rfl (lv_at hl 0 rfl) ?_
      refine lv_iload_n hx hb dJ7_fill_53178_6 rfl (lv_at hl 3 rfl) ?_
      refine lv_icmp_ge (tgt := 20) hx hb dJ7_fill_53178_7 (by decide) (fun _ => ?_) (fun c9 => absurd (show nI 6 ≤ nI j from nI_le (by omega) (by omega)) c9)
      exact u_vret C hr hW dJ7_fill_53178_20 (by rw [← r5]; rfl)
    | succ k5 ih5 =>
      intro j hh hj r5 H locs hW ls hl
      refine lv_iload_n hx hb dJ7_fill_53178_5 rfl (lv_at hl 0 rfl) ?_
      refine lv_iload_n hx hb dJ7_fill_53178_6 rfl (lv_at hl 3 rfl) ?_
      refine lv_icmp_ge (tgt := 20) hx hb dJ7_fill_53178_7 (by decide) (fun c9 => absurd c9 (show ¬ nI 6 ≤ nI j from nI_ge (by omega) (by omega))) (fun _ => ?_)
      refine lv_aload_n hx hb dJ7_fill_53178_10 rfl (lv_at hl 1 rfl) ?_
      refine lv_iload_n hx hb dJ7_fill_53178_11 rfl (lv_at hl 0 rfl) ?_
      refine lv_iload_n hx hb dJ7_fill_53178_12 rfl (lv_at hl 2 rfl) ?_
      refine u_iast (cf' := cC cyI cO ad n d md go ke (upd hh j v) wy ab be sr) C hW (by decide) cC_19 0 rfl j rfl (by omega) (by decide) cC_s19 dJ7_fill_53178_13 (fun H locs hW => ?_)
      refine lv_iinc (v := nI (j + 1)) (lv' := [(2, .int (nI (j + 1))), (0, .ref (ad 19)), (1, .int v), (3, .int (nI 6))]) hx hb dJ7_fill_53178_14 hl (k := 0) rfl (nI_1 _) (by decide) rfl (fun ls hl => ?_)
      refine lv_goto (tgt := 5) hx hb dJ7_fill_53178_17 (by decide) ?_
      exact ih5  (j + 1) (upd hh j v) (by omega) (by first | exact r5 | (have h9 := r5; simp only [lp_s, lp_0] at h9; exact h9)) H locs hW ls (lv_sub hl [0, 1, 2, 3] rfl)
  exact L5 6 0 ha (by omega) rfl H locs hW ls (lv_sub hl [1, 2, 3, 0] rfl)
set_option maxHeartbeats 4000000 in
set_option maxRecDepth 100000 in
theorem c_X3_begin (l : Launch) (D : va_G) (cyI cO cyZ : ClassId) (ad : Nat → Nat) (fa : Nat) (n : Nat) (d md : Nat → Nat → Int32) (go ke ha : Nat → Int32) (wy : Nat → Nat → Int32) (ab be sr : Int32) (np : Nat)  : Ct l yX3_begin (Cond.code yX3_begin cX3_begin 3 none :: wsL_law) ({ frames := 1, cells := 0, slots := 0, locals := 23 } : Room) D (ty3 cyI cO cyZ) 29 ad fa [.ref (ad 1), .int (nI np)] (cC cyI cO ad n d md go ke ha wy ab be sr) (cC cyI cO ad np (beginV d) md go ke ha wy ab be sr) (none) := by
  refine Ct.of (by decide) (Nat.le_of_ble_eq_true rfl) ?_
  intro p e s m args below meth c A C hr H locs hW ls hl
  have C : Cx p s m args meth c cX3_begin 3 RX3 D (ty3 cyI cO cyZ) fa A := C
  have hx := C.1
  have hb := C.2.1
  have hl : lv_has ls 3 [(0, .ref (ad 1)), (1, .int (nI np))] := hl
  refine lv_aload_n hx hb dX3_begin_0 rfl (lv_at hl 0 rfl) ?_
  refine lv_iload_n hx hb dX3_begin_1 rfl (lv_at hl 1 rfl) ?_
  refine u_put (cf' := cC cyI cO ad np d md go ke ha wy ab be sr) C hW inlX3 tyX3 tyX3_ok nmX3 (by decide) cC_1 rfl 2 (by decide) mw_62 rfl rfl rfl (Nat.le_of_ble_eq_true rfl) cC_sn dX3_begin_2 (fun H locs hW => ?_)
  refine lv_iconst (v := 0) hx hb dX3_begin_5 (by decide) ?_
  refine lv_istore_n (lv' := [(2, .int 0), (0, .ref (ad 1)), (1, .int (nI np))]) hx hb dX3_begin_6 rfl hl (by decide) rfl (fun ls hl => ?_)
  have L7 : ∀ (k7 : Nat) (i : Nat) (dd : Nat → Nat → Int32), i + k7 = 6 → lp (fun dd i => u2 (fillR dd i 1) i i 0) i k7 dd = beginV d → ∀ (H : Heap) (locs : List Loc), Wd D 29 ad (cC cyI cO ad np dd md go ke ha wy ab be sr) A s.heap H locs → ∀ ls : Array Slot, lv_has ls 3 [(2, .int (nI i)), (0, .ref (ad 1))] → W p l e ({ frames := 1, cells := 0, slots := 0, locals := 23 } : Room) s m args below meth c H locs 0 0 (MQ below (uQ D 29 ad (cC cyI cO ad np (beginV d) md go ke ha wy ab be sr) (none) A) args s 0 0 A) (F0 m 7 ls []) := by
    intro k7
    induction k7 with
    | zero =>
      intro i dd hi r7 H locs hW ls hl
      refine lv_iload_n hx hb dX3_begin_7 rfl (lv_at hl 0 rfl) ?_
      refine lv_bipush (v := 6) hx hb dX3_begin_8 (by decide) ?_
      refine lv_icmp_ge (tgt := 38) hx hb dX3_begin_10 (by decide) (fun _ => ?_) (fun c9 => absurd (show nI 6 ≤ nI i from nI_le (by omega) (by omega)) c9)
      exact u_vret C hr hW dX3_begin_38 (by rw [← r7]; rfl)
    | succ k7 ih7 =>
      intro i dd hi r7 H locs hW ls hl
      refine lv_iload_n hx hb dX3_begin_7 rfl (lv_at hl 0 rfl) ?_
      refine lv_bipush (v := 6) hx hb dX3_begin_8 (by decide) ?_
      refine lv_icmp_ge (tgt := 38) hx hb dX3_begin_10 (by decide) (fun c9 => absurd c9 (show ¬ nI 6 ≤ nI i from nI_ge (by omega) (by omega))) (fun _ => ?_)
      refine lv_aload_n hx hb dX3_begin_13 rfl (lv_at hl 1 rfl) ?_
      refine u_get C hW inlX3 (by decide) cC_1 rfl 0 (by decide) mw_34 rfl dX3_begin_14 ?_
      refine lv_iload_n hx hb dX3_begin_17 rfl (lv_at hl 0 rfl) ?_
      refine u_aald C hW (by decide) cC_2 1 rfl i rfl (by omega) (by decide) (cC_outer (by omega)) dX3_begin_18 ?_
      refine lv_iconst (v := 1) hx hb dX3_begin_19 (by decide) ?_
      refine u_callS (cf' := cC cyI cO ad np (fillR dd i 1) md go ke ha wy ab be sr) (As := [.ref (ad (3 + i)), .int 1]) (rest := []) (st1 := []) C hW (c_fillR l D cyI cO cyZ ad fa np dd md go ke ha wy ab be sr i 1 (by omega)) ms_yJ7_fill_53178 mw_63 rfl ⟨rfl, rfl, Nat.le_of_ble_eq_true rfl, Nat.le_of_ble_eq_true rfl⟩ hl (Nat.le_of_ble_eq_true rfl) rfl rfl dX3_begin_20 (fun H locs hW => ?_)
      refine lv_aload_n hx hb dX3_begin_23 rfl (lv_at hl 1 rfl) ?_
      refine u_get C hW inlX3 (by decide) cC_1 rfl 0 (by decide) mw_34 rfl dX3_begin_24 ?_
      refine lv_iload_n hx hb dX3_begin_27 rfl (lv_at hl 0 rfl) ?_
      refine u_aald C hW (by decide) cC_2 1 rfl i rfl (by omega) (by decide) (cC_outer (by omega)) dX3_begin_28 ?_
      refine lv_iload_n hx hb dX3_begin_29 rfl (lv_at hl 0 rfl) ?_
      refine lv_iconst (v := 0) hx hb dX3_begin_30 (by decide) ?_
      refine u_iast (cf' := cC cyI cO ad np (u2 (fillR dd i 1) i i 0) md go ke ha wy ab be sr) C hW (by omega) (cC_d (by omega)) 0 rfl i rfl (by omega) (by decide) (cC_sd (by omega)) dX3_begin_31 (fun H locs hW => ?_)
      refine lv_iinc (v := nI (i + 1)) (lv' := [(2, .int (nI (i + 1))), (0, .ref (ad 1))]) hx hb dX3_begin_32 hl (k := 0) rfl (nI_1 _) (by decide) rfl (fun ls hl => ?_)
      refine lv_goto (tgt := 7) hx hb dX3_begin_35 (by decide) ?_
      exact ih7  (i + 1) (u2 (fillR dd i 1) i i 0) (by omega) (by first | exact r7 | (have h9 := r7; simp only [lp_s, lp_0] at h9; exact h9)) H locs hW ls (lv_sub hl [0, 1] rfl)
  exact L7 6 0 d (by omega) rfl H locs hW ls (lv_sub hl [0, 1] rfl)
set_option maxHeartbeats 4000000 in
set_option maxRecDepth 100000 in
theorem c_X3_put (l : Launch) (D : va_G) (cyI cO cyZ : ClassId) (ad : Nat → Nat) (fa : Nat) (n : Nat) (d md : Nat → Nat → Int32) (go ke ha : Nat → Int32) (wy : Nat → Nat → Int32) (ab be sr : Int32) (i j : Nat) (v : Int32) (hi : i < 6) (hj : j < 6) : Ct l yX3_put (Cond.code yX3_put cX3_put 4 none :: wsL_law) ({ frames := 0, cells := 0, slots := 0, locals := 0 } : Room) D (ty3 cyI cO cyZ) 29 ad fa [.ref (ad 1), .int (nI i), .int (nI j), .int v] (cC cyI cO ad n d md go ke ha wy ab be sr) (cC cyI cO ad n (putV d i j v) md go ke ha wy ab be sr) (none) := by
  refine Ct.of (by decide) (Nat.le_of_ble_eq_true rfl) ?_
  intro p e s m args below meth c A C hr H locs hW ls hl
  have C : Cx p s m args meth c cX3_put 4 RX3 D (ty3 cyI cO cyZ) fa A := C
  have hx := C.1
  have hb := C.2.1
  have hl : lv_has ls 4 [(0, .ref (ad 1)), (1, .int (nI i)), (2, .int (nI j)), (3, .int v)] := hl
  refine lv_aload_n hx hb dX3_put_0 rfl (lv_at hl 0 rfl) ?_
  refine u_get C hW inlX3 (by decide) cC_1 rfl 0 (by decide) mw_34 rfl dX3_put_1 ?_
  refine lv_iload_n hx hb dX3_put_4 rfl (lv_at hl 1 rfl) ?_
  refine u_aald C hW (by decide) cC_2 1 rfl i rfl (by omega) (by decide) (cC_outer (by omega)) dX3_put_5 ?_
  refine lv_iload_n hx hb dX3_put_6 rfl (lv_at hl 2 rfl) ?_
  refine lv_iload_n hx hb dX3_put_7 rfl (lv_at hl 3 rfl) ?_
  refine u_iast (cf' := cC cyI cO ad n (u2 d i j v) md go ke ha wy ab be sr) C hW (by omega) (cC_d (by omega)) 0 rfl j rfl (by omega) (by decide) (cC_sd (by omega)) dX3_put_8 (fun H locs hW => ?_)
  refine lv_aload_n hx hb dX3_put_9 rfl (lv_at hl 0 rfl) ?_
  refine u_get C hW inlX3 (by decide) cC_1 rfl 0 (by decide) mw_34 rfl dX3_put_10 ?_
  refine lv_iload_n hx hb dX3_put_13 rfl (lv_at hl 2 rfl) ?_
  refine u_aald C hW (by decide) cC_2 1 rfl j rfl (by omega) (by decide) (cC_outer (by omega)) dX3_put_14 ?_
  refine lv_iload_n hx hb dX3_put_15 rfl (lv_at hl 1 rfl) ?_
  refine lv_iload_n hx hb dX3_put_16 rfl (lv_at hl 3 rfl) ?_
  refine u_iast (cf' := cC cyI cO ad n (u2 (u2 d i j v) j i v) md go ke ha wy ab be sr) C hW (by omega) (cC_d (by omega)) 0 rfl i rfl (by omega) (by decide) (cC_sd (by omega)) dX3_put_17 (fun H locs hW => ?_)
  exact u_vret C hr hW dX3_put_18 rfl
set_option maxHeartbeats 4000000 in
set_option maxRecDepth 100000 in
theorem c_X3_together (l : Launch) (D : va_G) (cyI cO cyZ : ClassId) (ad : Nat → Nat) (fa : Nat) (n : Nat) (d md : Nat → Nat → Int32) (go ke ha : Nat → Int32) (wy : Nat → Nat → Int32) (ab be sr : Int32) (x y kd : Int32)  : Ct l yX3_together (Cond.code yX3_together cX3_together 3 (some .int) :: wsL_law) ({ frames := 1, cells := 0, slots := 0, locals := 26 } : Room) D (ty3 cyI cO cyZ) 29 ad fa [.int x, .int y, .int kd] (cC cyI cO ad n d md go ke ha wy ab be sr) (cC cyI cO ad n d md go ke ha wy ab be sr) (some (.int (togV x y kd))) := by
  refine Ct.of (by decide) (Nat.le_of_ble_eq_true rfl) ?_
  intro p e s m args below meth c A C hr H locs hW ls hl
  have C : Cx p s m args meth c cX3_together 3 RX3 D (ty3 cyI cO cyZ) fa A := C
  have hx := C.1
  have hb := C.2.1
  have hl : lv_has ls 3 [(0, .int x), (1, .int y), (2, .int kd)] := hl
  refine lv_iload_n hx hb dX3_together_0 rfl (lv_at hl 2 rfl) ?_
  refine lv_if_ne (tgt := 10) hx hb dX3_together_1 (by decide) (fun c1_1 => ?_) (fun c1_1 => ?_)
  · skip
    refine lv_iload_n hx hb dX3_together_10 rfl (lv_at hl 0 rfl) ?_
    refine lv_iload_n hx hb dX3_together_11 rfl (lv_at hl 1 rfl) ?_
    refine u_max C mw_145 hl (by decide) (Nat.le_of_ble_eq_true rfl) dX3_together_12 ?_
    refine u_top (y := mx x y) rfl ?_
    exact u_iret C hr hW dX3_together_15 (by simp only [togV, if_neg c1_1]) rfl
  · skip
    refine lv_iload_n hx hb dX3_together_4 rfl (lv_at hl 0 rfl) ?_
    refine lv_iload_n hx hb dX3_together_5 rfl (lv_at hl 1 rfl) ?_
    refine lv_iadd hx hb dX3_together_6 ?_
    refine lv_goto (tgt := 15) hx hb dX3_together_7 (by decide) ?_
    exact u_iret C hr hW dX3_together_15 (by simp only [togV, if_pos c1_1]) rfl
set_option maxHeartbeats 4000000 in
set_option maxRecDepth 100000 in
theorem c_X3_shorterBy (l : Launch) (D : va_G) (cyI cO cyZ : ClassId) (ad : Nat → Nat) (fa : Nat) (n : Nat) (d md : Nat → Nat → Int32) (go ke ha : Nat → Int32) (wy : Nat → Nat → Int32) (ab be sr : Int32) (i j : Nat) (kd : Int32) (hn : n ≤ 6) (hi : i < 6) (hj : j < 6) : Ct l yX3_shorterBy (Cond.code yX3_shorterBy cX3_shorterBy 6 (some .int) :: wsL_law) ({ frames := 2, cells := 0, slots := 0, locals := 48 } : Room) D (ty3 cyI cO cyZ) 29 ad fa [.ref (ad 1), .int (nI i), .int (nI j), .int kd] (cC cyI cO ad n d md go ke ha wy ab be sr) (cC cyI cO ad n d md go ke ha wy ab be sr) (some (.int (sbV n d i j kd))) := by
  refine Ct.of (by decide) (Nat.le_of_ble_eq_true rfl) ?_
  intro p e s m args below meth c A C hr H locs hW ls hl
  have C : Cx p s m args meth c cX3_shorterBy 6 RX3 D (ty3 cyI cO cyZ) fa A := C
  have hx := C.1
  have hb := C.2.1
  have hl : lv_has ls 6 [(0, .ref (ad 1)), (1, .int (nI i)), (2, .int (nI j)), (3, .int kd)] := hl
  refine lv_iconst (v := 0) hx hb dX3_shorterBy_0 (by decide) ?_
  refine lv_istore (lv' := [(4, .int 0), (0, .ref (ad 1)), (1, .int (nI i)), (2, .int (nI j)), (3, .int kd)]) hx hb dX3_shorterBy_1 hl (by decide) rfl (fun ls hl => ?_)
  refine lv_iconst (v := 0) hx hb dX3_shorterBy_3 (by decide) ?_
  refine lv_istore (lv' := [(5, .int 0), (4, .int 0), (0, .ref (ad 1)), (1, .int (nI i)), (2, .int (nI j)), (3, .int kd)]) hx hb dX3_shorterBy_4 hl (by decide) rfl (fun ls hl => ?_)
  have L6 : ∀ (k6 : Nat) (k : Nat) (a : Int32), k + k6 = n → lp (fun a k => if d i j ≤ togV (d i k) (d k j) kd then a else a + 1) k k6 a = sbV n d i j kd → ∀ (H : Heap) (locs : List Loc), Wd D 29 ad (cC cyI cO ad n d md go ke ha wy ab be sr) A s.heap H locs → ∀ ls : Array Slot, lv_has ls 6 [(5, .int (nI k)), (0, .ref (ad 1)), (1, .int (nI i)), (2, .int (nI j)), (3, .int kd), (4, .int a)] → W p l e ({ frames := 2, cells := 0, slots := 0, locals := 48 } : Room) s m args below meth c H locs 0 0 (MQ below (uQ D 29 ad (cC cyI cO ad n d md go ke ha wy ab be sr) (some (.int (sbV n d i j kd))) A) args s 0 0 A) (F0 m 6 ls []) := by
    intro k6
    induction k6 with
    | zero =>
      intro k a hk r6 H locs hW ls hl
      refine lv_iload hx hb dX3_shorterBy_6 (lv_at hl 0 rfl) ?_
      refine lv_aload_n hx hb dX3_shorterBy_8 rfl (lv_at hl 1 rfl) ?_
      refine u_get C hW inlX3 (by decide) cC_1 rfl 2 (by decide) mw_62 rfl dX3_shorterBy_9 ?_
      refine lv_icmp_ge (tgt := 57) hx hb dX3_shorterBy_12 (by decide) (fun _ => ?_) (fun c9 => absurd (nI_le (by omega) (by omega)) c9)
      refine lv_iload hx hb dX3_shorterBy_57 (lv_at hl 5 rfl) ?_
      exact u_iret C hr hW dX3_shorterBy_59 r6 rfl
    | succ k6 ih6 =>
      intro k a hk r6 H locs hW ls hl
      refine lv_iload hx hb dX3_shorterBy_6 (lv_at hl 0 rfl) ?_
      refine lv_aload_n hx hb dX3_shorterBy_8 rfl (lv_at hl 1 rfl) ?_
      refine u_get C hW inlX3 (by decide) cC_1 rfl 2 (by decide) mw_62 rfl dX3_shorterBy_9 ?_
      refine lv_icmp_ge (tgt := 57) hx hb dX3_shorterBy_12 (by decide) (fun c9 => absurd c9 (nI_ge (by omega) (by omega))) (fun _ => ?_)
      refine lv_aload_n hx hb dX3_shorterBy_15 rfl (lv_at hl 1 rfl) ?_
      refine u_get C hW inlX3 (by decide) cC_1 rfl 0 (by decide) mw_34 rfl dX3_shorterBy_16 ?_
      refine lv_iload_n hx hb dX3_shorterBy_19 rfl (lv_at hl 2 rfl) ?_
      refine u_aald C hW (by decide) cC_2 1 rfl i rfl (by omega) (by decide) (cC_outer (by omega)) dX3_shorterBy_20 ?_
      refine lv_iload_n hx hb dX3_shorterBy_21 rfl (lv_at hl 3 rfl) ?_
      refine u_iald C hW (by omega) (cC_d (by omega)) 0 rfl j rfl (by omega) (by decide) dX3_shorterBy_22 ?_
      refine lv_aload_n hx hb dX3_shorterBy_23 rfl (lv_at hl 1 rfl) ?_
      refine u_get C hW inlX3 (by decide) cC_1 rfl 0 (by decide) mw_34 rfl dX3_shorterBy_24 ?_
      refine lv_iload_n hx hb dX3_shorterBy_27 rfl (lv_at hl 2 rfl) ?_
      refine u_aald C hW (by decide) cC_2 1 rfl i rfl (by omega) (by decide) (cC_outer (by omega)) dX3_shorterBy_28 ?_
      refine lv_iload hx hb dX3_shorterBy_29 (lv_at hl 0 rfl) ?_
      refine u_iald C hW (by omega) (cC_d (by omega)) 0 rfl k rfl (by omega) (by decide) dX3_shorterBy_31 ?_
      refine lv_aload_n hx hb dX3_shorterBy_32 rfl (lv_at hl 1 rfl) ?_
      refine u_get C hW inlX3 (by decide) cC_1 rfl 0 (by decide) mw_34 rfl dX3_shorterBy_33 ?_
      refine lv_iload hx hb dX3_shorterBy_36 (lv_at hl 0 rfl) ?_
      refine u_aald C hW (by decide) cC_2 1 rfl k rfl (by omega) (by decide) (cC_outer (by omega)) dX3_shorterBy_38 ?_
      refine lv_iload_n hx hb dX3_shorterBy_39 rfl (lv_at hl 3 rfl) ?_
      refine u_iald C hW (by omega) (cC_d (by omega)) 0 rfl j rfl (by omega) (by decide) dX3_shorterBy_40 ?_
      refine lv_iload_n hx hb dX3_shorterBy_41 rfl (lv_at hl 4 rfl) ?_
      refine u_callS (cf' := cC cyI cO ad n d md go ke ha wy ab be sr) (As := [.int (d i k), .int (d k j), .int kd]) (rest := [.int (d i j)]) (st1 := [.int (togV (d i k) (d k j) kd), .int (d i j)]) C hW (c_X3_together l D cyI cO cyZ ad fa n d md go ke ha wy ab be sr (d i k) (d k j) kd ) ms_yX3_together mw_142 rfl ⟨rfl, rfl, Nat.le_of_ble_eq_true rfl, Nat.le_of_ble_eq_true rfl⟩ hl (Nat.le_of_ble_eq_true rfl) rfl rfl dX3_shorterBy_42 (fun H locs hW => ?_)
      refine lv_icmp_le (tgt := 51) hx hb dX3_shorterBy_45 (by decide) (fun c45_1 => ?_) (fun c45_1 => ?_)
      · skip
        refine lv_iinc (v := nI (k + 1)) (lv' := [(5, .int (nI (k + 1))), (0, .ref (ad 1)), (1, .int (nI i)), (2, .int (nI j)), (3, .int kd), (4, .int a)]) hx hb dX3_shorterBy_51 hl (k := 0) rfl (nI_1 _) (by decide) rfl (fun ls hl => ?_)
        refine lv_goto (tgt := 6) hx hb dX3_shorterBy_54 (by decide) ?_
        exact ih6  (k + 1) a (by omega) (by first | exact r6 | (have h9 := r6; simp only [lp_s, lp_0, if_pos c45_1] at h9; exact h9)) H locs hW ls (lv_sub hl [0, 1, 2, 3, 4, 5] rfl)
      · skip
        refine lv_iinc (v := a + 1) (lv' := [(4, .int (a + 1)), (5, .int (nI k)), (0, .ref (ad 1)), (1, .int (nI i)), (2, .int (nI j)), (3, .int kd)]) hx hb dX3_shorterBy_48 hl (k := 5) rfl rfl (by decide) rfl (fun ls hl => ?_)
        refine lv_iinc (v := nI (k + 1)) (lv' := [(5, .int (nI (k + 1))), (4, .int (a + 1)), (0, .ref (ad 1)), (1, .int (nI i)), (2, .int (nI j)), (3, .int kd)]) hx hb dX3_shorterBy_51 hl (k := 1) rfl (nI_1 _) (by decide) rfl (fun ls hl => ?_)
        refine lv_goto (tgt := 6) hx hb dX3_shorterBy_54 (by decide) ?_
        exact ih6  (k + 1) (a + 1) (by omega) (by first | exact r6 | (have h9 := r6; simp only [lp_s, lp_0, if_neg c45_1] at h9; exact h9)) H locs hW ls (lv_sub hl [0, 2, 3, 4, 5, 1] rfl)
  exact L6 n 0 0 (by omega) rfl H locs hW ls (lv_sub hl [0, 2, 3, 4, 5, 1] rfl)
set_option maxHeartbeats 4000000 in
set_option maxRecDepth 100000 in
theorem c_X3_brokenThrees (l : Launch) (D : va_G) (cyI cO cyZ : ClassId) (ad : Nat → Nat) (fa : Nat) (n : Nat) (d md : Nat → Nat → Int32) (go ke ha : Nat → Int32) (wy : Nat → Nat → Int32) (ab be sr : Int32) (kd : Int32) (hn : n ≤ 6) : Ct l yX3_brokenThrees (Cond.code yX3_brokenThrees cX3_brokenThrees 5 (some .int) :: wsL_law) ({ frames := 3, cells := 0, slots := 0, locals := 73 } : Room) D (ty3 cyI cO cyZ) 29 ad fa [.ref (ad 1), .int kd] (cC cyI cO ad n d md go ke ha wy ab be sr) (cC cyI cO ad n d md go ke ha wy ab be sr) (some (.int (btV n d kd))) := by
  refine Ct.of (by decide) (Nat.le_of_ble_eq_true rfl) ?_
  intro p e s m args below meth c A C hr H locs hW ls hl
  have C : Cx p s m args meth c cX3_brokenThrees 5 RX3 D (ty3 cyI cO cyZ) fa A := C
  have hx := C.1
  have hb := C.2.1
  have hl : lv_has ls 5 [(0, .ref (ad 1)), (1, .int kd)] := hl
  refine lv_iconst (v := 0) hx hb dX3_brokenThrees_0 (by decide) ?_
  refine lv_istore_n (lv' := [(2, .int 0), (0, .ref (ad 1)), (1, .int kd)]) hx hb dX3_brokenThrees_1 rfl hl (by decide) rfl (fun ls hl => ?_)
  refine lv_iconst (v := 0) hx hb dX3_brokenThrees_2 (by decide) ?_
  refine lv_istore_n (lv' := [(3, .int 0), (2, .int 0), (0, .ref (ad 1)), (1, .int kd)]) hx hb dX3_brokenThrees_3 rfl hl (by decide) rfl (fun ls hl => ?_)
  have L4 : ∀ (k4 : Nat) (i : Nat) (a : Int32), i + k4 = n → lp (fun a i => lp (fun a j => a + sbV n d i j kd) (i + 1) (n - (i + 1)) a) i k4 a = btV n d kd → ∀ (H : Heap) (locs : List Loc), Wd D 29 ad (cC cyI cO ad n d md go ke ha wy ab be sr) A s.heap H locs → ∀ ls : Array Slot, lv_has ls 5 [(3, .int (nI i)), (0, .ref (ad 1)), (1, .int kd), (2, .int a)] → W p l e ({ frames := 3, cells := 0, slots := 0, locals := 73 } : Room) s m args below meth c H locs 0 0 (MQ below (uQ D 29 ad (cC cyI cO ad n d md go ke ha wy ab be sr) (some (.int (btV n d kd))) A) args s 0 0 A) (F0 m 4 ls []) := by
    intro k4
    induction k4 with
    | zero =>
      intro i a hi r4 H locs hW ls hl
      refine lv_iload_n hx hb dX3_brokenThrees_4 rfl (lv_at hl 0 rfl) ?_
      refine lv_aload_n hx hb dX3_brokenThrees_5 rfl (lv_at hl 1 rfl) ?_
      refine u_get C hW inlX3 (by decide) cC_1 rfl 2 (by decide) mw_62 rfl dX3_brokenThrees_6 ?_
      refine lv_icmp_ge (tgt := 49) hx hb dX3_brokenThrees_9 (by decide) (fun _ => ?_) (fun c9 => absurd (nI_le (by omega) (by omega)) c9)
      refine lv_iload_n hx hb dX3_brokenThrees_49 rfl (lv_at hl 3 rfl) ?_
      exact u_iret C hr hW dX3_brokenThrees_50 r4 rfl
    | succ k4 ih4 =>
      intro i a hi r4 H locs hW ls hl
      refine lv_iload_n hx hb dX3_brokenThrees_4 rfl (lv_at hl 0 rfl) ?_
      refine lv_aload_n hx hb dX3_brokenThrees_5 rfl (lv_at hl 1 rfl) ?_
      refine u_get C hW inlX3 (by decide) cC_1 rfl 2 (by decide) mw_62 rfl dX3_brokenThrees_6 ?_
      refine lv_icmp_ge (tgt := 49) hx hb dX3_brokenThrees_9 (by decide) (fun c9 => absurd c9 (nI_ge (by omega) (by omega))) (fun _ => ?_)
      refine lv_iload_n hx hb dX3_brokenThrees_12 rfl (lv_at hl 0 rfl) ?_
      refine lv_iconst (v := 1) hx hb dX3_brokenThrees_13 (by decide) ?_
      refine lv_iadd hx hb dX3_brokenThrees_14 ?_
      refine u_top (show (nI i) + 1 = nI (i + 1) from nI_add i 1) ?_
      refine lv_istore (lv' := [(4, .int (nI (i + 1))), (3, .int (nI i)), (0, .ref (ad 1)), (1, .int kd), (2, .int a)]) hx hb dX3_brokenThrees_15 hl (by decide) rfl (fun ls hl => ?_)
      have L17 : ∀ (k17 : Nat) (j : Nat) (a : Int32), j + k17 = n → lp (fun a i => lp (fun a j => a + sbV n d i j kd) (i + 1) (n - (i + 1)) a) (i + 1) k4 (lp (fun a j => a + sbV n d i j kd) j k17 a) = btV n d kd → ∀ (H : Heap) (locs : List Loc), Wd D 29 ad (cC cyI cO ad n d md go ke ha wy ab be sr) A s.heap H locs → ∀ ls : Array Slot, lv_has ls 5 [(4, .int (nI j)), (0, .ref (ad 1)), (1, .int kd), (2, .int a), (3, .int (nI i))] → W p l e ({ frames := 3, cells := 0, slots := 0, locals := 73 } : Room) s m args below meth c H locs 0 0 (MQ below (uQ D 29 ad (cC cyI cO ad n d md go ke ha wy ab be sr) (some (.int (btV n d kd))) A) args s 0 0 A) (F0 m 17 ls []) := by
        intro k17
        induction k17 with
        | zero =>
          intro j a hj r17 H locs hW ls hl
          refine lv_iload hx hb dX3_brokenThrees_17 (lv_at hl 0 rfl) ?_
          refine lv_aload_n hx hb dX3_brokenThrees_19 rfl (lv_at hl 1 rfl) ?_
          refine u_get C hW inlX3 (by decide) cC_1 rfl 2 (by decide) mw_62 rfl dX3_brokenThrees_20 ?_
          refine lv_icmp_ge (tgt := 43) hx hb dX3_brokenThrees_23 (by decide) (fun _ => ?_) (fun c9 => absurd (nI_le (by omega) (by omega)) c9)
          refine lv_iinc (v := nI (i + 1)) (lv' := [(3, .int (nI (i + 1))), (4, .int (nI j)), (0, .ref (ad 1)), (1, .int kd), (2, .int a)]) hx hb dX3_brokenThrees_43 hl (k := 4) rfl (nI_1 _) (by decide) rfl (fun ls hl => ?_)
          refine lv_goto (tgt := 4) hx hb dX3_brokenThrees_46 (by decide) ?_
          exact ih4  (i + 1) a (by omega) r17 H locs hW ls (lv_sub hl [0, 2, 3, 4] rfl)
        | succ k17 ih17 =>
          intro j a hj r17 H locs hW ls hl
          refine lv_iload hx hb dX3_brokenThrees_17 (lv_at hl 0 rfl) ?_
          refine lv_aload_n hx hb dX3_brokenThrees_19 rfl (lv_at hl 1 rfl) ?_
          refine u_get C hW inlX3 (by decide) cC_1 rfl 2 (by decide) mw_62 rfl dX3_brokenThrees_20 ?_
          refine lv_icmp_ge (tgt := 43) hx hb dX3_brokenThrees_23 (by decide) (fun c9 => absurd c9 (nI_ge (by omega) (by omega))) (fun _ => ?_)
          refine lv_iload_n hx hb dX3_brokenThrees_26 rfl (lv_at hl 3 rfl) ?_
          refine lv_aload_n hx hb dX3_brokenThrees_27 rfl (lv_at hl 1 rfl) ?_
          refine lv_iload_n hx hb dX3_brokenThrees_28 rfl (lv_at hl 4 rfl) ?_
          refine lv_iload hx hb dX3_brokenThrees_29 (lv_at hl 0 rfl) ?_
          refine lv_iload_n hx hb dX3_brokenThrees_31 rfl (lv_at hl 2 rfl) ?_
          refine u_callV (cf' := cC cyI cO ad n d md go ke ha wy ab be sr) (As := [.int (nI i), .int (nI j), .int kd]) (rest := [.int a]) (st1 := [.int (sbV n d i j kd), .int a]) C hW (c_X3_shorterBy l D cyI cO cyZ ad fa n d md go ke ha wy ab be sr i j kd (by omega) (by omega) (by omega)) mv_yX3_shorterBy mw_138 rfl ⟨rfl, rfl, Nat.le_of_ble_eq_true rfl, Nat.le_of_ble_eq_true rfl⟩ (by decide) cC_1 rfl rfl hl (Nat.le_of_ble_eq_true rfl) rfl rfl dX3_brokenThrees_32 (fun H locs hW => ?_)
          refine lv_iadd hx hb dX3_brokenThrees_35 ?_
          refine lv_istore_n (lv' := [(2, .int (a + (sbV n d i j kd))), (4, .int (nI j)), (0, .ref (ad 1)), (1, .int kd), (3, .int (nI i))]) hx hb dX3_brokenThrees_36 rfl hl (by decide) rfl (fun ls hl => ?_)
          refine lv_iinc (v := nI (j + 1)) (lv' := [(4, .int (nI (j + 1))), (2, .int (a + (sbV n d i j kd))), (0, .ref (ad 1)), (1, .int kd), (3, .int (nI i))]) hx hb dX3_brokenThrees_37 hl (k := 1) rfl (nI_1 _) (by decide) rfl (fun ls hl => ?_)
          refine lv_goto (tgt := 17) hx hb dX3_brokenThrees_40 (by decide) ?_
          exact ih17  (j + 1) (a + (sbV n d i j kd)) (by omega) (by first | exact r17 | (have h9 := r17; simp only [lp_s, lp_0] at h9; exact h9)) H locs hW ls (lv_sub hl [0, 2, 3, 1, 4] rfl)
      exact L17 (n - (i + 1)) (i + 1) a (by omega) r4 H locs hW ls (lv_sub hl [0, 2, 3, 4, 1] rfl)
  exact L4 n 0 0 (by omega) rfl H locs hW ls (lv_sub hl [0, 2, 3, 1] rfl)
set_option maxHeartbeats 4000000 in
set_option maxRecDepth 100000 in
theorem c_X3_twoGreatestAlike (l : Launch) (D : va_G) (cyI cO cyZ : ClassId) (ad : Nat → Nat) (fa : Nat) (n : Nat) (d md : Nat → Nat → Int32) (go ke ha : Nat → Int32) (wy : Nat → Nat → Int32) (ab be sr : Int32) (a b g : Int32)  : Ct l yX3_twoGreatestAlike (Cond.code yX3_twoGreatestAlike cX3_twoGreatestAlike 4 (some .boolean) :: wsL_law) ({ frames := 1, cells := 0, slots := 0, locals := 26 } : Room) D (ty3 cyI cO cyZ) 29 ad fa [.int a, .int b, .int g] (cC cyI cO ad n d md go ke ha wy ab be sr) (cC cyI cO ad n d md go ke ha wy ab be sr) (some (.int (tgaV a b g))) := by
  refine Ct.of (by decide) (Nat.le_of_ble_eq_true rfl) ?_
  intro p e s m args below meth c A C hr H locs hW ls hl
  have C : Cx p s m args meth c cX3_twoGreatestAlike 4 RX3 D (ty3 cyI cO cyZ) fa A := C
  have hx := C.1
  have hb := C.2.1
  have hl : lv_has ls 4 [(0, .int a), (1, .int b), (2, .int g)] := hl
  refine lv_iload_n hx hb dX3_twoGreatestAlike_0 rfl (lv_at hl 0 rfl) ?_
  refine lv_iload_n hx hb dX3_twoGreatestAlike_1 rfl (lv_at hl 1 rfl) ?_
  refine lv_iload_n hx hb dX3_twoGreatestAlike_2 rfl (lv_at hl 2 rfl) ?_
  refine u_max C mw_145 hl (by decide) (Nat.le_of_ble_eq_true rfl) dX3_twoGreatestAlike_3 ?_
  refine u_top (y := mx b g) rfl ?_
  refine u_max C mw_145 hl (by decide) (Nat.le_of_ble_eq_true rfl) dX3_twoGreatestAlike_6 ?_
  refine u_top (y := mx a (mx b g)) rfl ?_
  refine lv_istore_n (lv' := [(3, .int (mx a (mx b g))), (0, .int a), (1, .int b), (2, .int g)]) hx hb dX3_twoGreatestAlike_9 rfl hl (by decide) rfl (fun ls hl => ?_)
  refine lv_iload_n hx hb dX3_twoGreatestAlike_10 rfl (lv_at hl 1 rfl) ?_
  refine lv_iload_n hx hb dX3_twoGreatestAlike_11 rfl (lv_at hl 2 rfl) ?_
  refine lv_icmp_ne (tgt := 20) hx hb dX3_twoGreatestAlike_12 (by decide) (fun c12_1 => ?_) (fun c12_1 => ?_)
  · skip
    refine lv_iload_n hx hb dX3_twoGreatestAlike_20 rfl (lv_at hl 1 rfl) ?_
    refine lv_iload_n hx hb dX3_twoGreatestAlike_21 rfl (lv_at hl 3 rfl) ?_
    refine lv_icmp_ne (tgt := 30) hx hb dX3_twoGreatestAlike_22 (by decide) (fun c22_2 => ?_) (fun c22_2 => ?_)
    · skip
      refine lv_iload_n hx hb dX3_twoGreatestAlike_30 rfl (lv_at hl 2 rfl) ?_
      refine lv_iload_n hx hb dX3_twoGreatestAlike_31 rfl (lv_at hl 3 rfl) ?_
      refine lv_icmp_ne (tgt := 44) hx hb dX3_twoGreatestAlike_32 (by decide) (fun c32_3 => ?_) (fun c32_3 => ?_)
      · skip
        refine lv_iconst (v := 0) hx hb dX3_twoGreatestAlike_44 (by decide) ?_
        exact u_zret C hr hW dX3_twoGreatestAlike_45 (by first | exact Or.inl rfl | exact Or.inr rfl) (by first | (simp only [tgaV, if_neg c12_1, if_neg c22_2, if_neg c32_3]; done) | (exfalso; contradiction)) rfl
      · skip
        refine lv_iload_n hx hb dX3_twoGreatestAlike_35 rfl (lv_at hl 2 rfl) ?_
        refine lv_iload_n hx hb dX3_twoGreatestAlike_36 rfl (lv_at hl 0 rfl) ?_
        refine lv_icmp_ne (tgt := 44) hx hb dX3_twoGreatestAlike_37 (by decide) (fun c37_4 => ?_) (fun c37_4 => ?_)
        · skip
          refine lv_iconst (v := 0) hx hb dX3_twoGreatestAlike_44 (by decide) ?_
          exact u_zret C hr hW dX3_twoGreatestAlike_45 (by first | exact Or.inl rfl | exact Or.inr rfl) (by first | (simp only [tgaV, if_neg c12_1, if_neg c22_2, if_pos c32_3, if_neg c37_4]; done) | (exfalso; contradiction)) rfl
        · skip
          refine lv_iconst (v := 1) hx hb dX3_twoGreatestAlike_40 (by decide) ?_
          refine lv_goto (tgt := 45) hx hb dX3_twoGreatestAlike_41 (by decide) ?_
          exact u_zret C hr hW dX3_twoGreatestAlike_45 (by first | exact Or.inl rfl | exact Or.inr rfl) (by first | (simp only [tgaV, if_neg c12_1, if_neg c22_2, if_pos c32_3, if_pos c37_4]; done) | (exfalso; contradiction)) rfl
    · skip
      refine lv_iload_n hx hb dX3_twoGreatestAlike_25 rfl (lv_at hl 1 rfl) ?_
      refine lv_iload_n hx hb dX3_twoGreatestAlike_26 rfl (lv_at hl 0 rfl) ?_
      refine lv_icmp_eq (tgt := 40) hx hb dX3_twoGreatestAlike_27 (by decide) (fun c27_5 => ?_) (fun c27_5 => ?_)
      · skip
        refine lv_iconst (v := 1) hx hb dX3_twoGreatestAlike_40 (by decide) ?_
        refine lv_goto (tgt := 45) hx hb dX3_twoGreatestAlike_41 (by decide) ?_
        exact u_zret C hr hW dX3_twoGreatestAlike_45 (by first | exact Or.inl rfl | exact Or.inr rfl) (by first | (simp only [tgaV, if_neg c12_1, if_pos c22_2, if_pos c27_5]; done) | (exfalso; contradiction)) rfl
      · skip
        refine lv_iload_n hx hb dX3_twoGreatestAlike_30 rfl (lv_at hl 2 rfl) ?_
        refine lv_iload_n hx hb dX3_twoGreatestAlike_31 rfl (lv_at hl 3 rfl) ?_
        refine lv_icmp_ne (tgt := 44) hx hb dX3_twoGreatestAlike_32 (by decide) (fun c32_6 => ?_) (fun c32_6 => ?_)
        · skip
          refine lv_iconst (v := 0) hx hb dX3_twoGreatestAlike_44 (by decide) ?_
          exact u_zret C hr hW dX3_twoGreatestAlike_45 (by first | exact Or.inl rfl | exact Or.inr rfl) (by first | (simp only [tgaV, if_neg c12_1, if_pos c22_2, if_neg c27_5, if_neg c32_6]; done) | (exfalso; contradiction)) rfl
        · skip
          refine lv_iload_n hx hb dX3_twoGreatestAlike_35 rfl (lv_at hl 2 rfl) ?_
          refine lv_iload_n hx hb dX3_twoGreatestAlike_36 rfl (lv_at hl 0 rfl) ?_
          refine lv_icmp_ne (tgt := 44) hx hb dX3_twoGreatestAlike_37 (by decide) (fun c37_7 => ?_) (fun c37_7 => ?_)
          · skip
            refine lv_iconst (v := 0) hx hb dX3_twoGreatestAlike_44 (by decide) ?_
            exact u_zret C hr hW dX3_twoGreatestAlike_45 (by first | exact Or.inl rfl | exact Or.inr rfl) (by first | (simp only [tgaV, if_neg c12_1, if_pos c22_2, if_neg c27_5, if_pos c32_6, if_neg c37_7]; done) | (exfalso; contradiction)) rfl
          · skip
            refine lv_iconst (v := 1) hx hb dX3_twoGreatestAlike_40 (by decide) ?_
            refine lv_goto (tgt := 45) hx hb dX3_twoGreatestAlike_41 (by decide) ?_
            exact u_zret C hr hW dX3_twoGreatestAlike_45 (by first | exact Or.inl rfl | exact Or.inr rfl) (by first | (simp only [tgaV, if_neg c12_1, if_pos c22_2, if_neg c27_5, if_pos c32_6, if_pos c37_7]; done) | (exfalso; contradiction)) rfl
  · skip
    refine lv_iload_n hx hb dX3_twoGreatestAlike_15 rfl (lv_at hl 1 rfl) ?_
    refine lv_iload_n hx hb dX3_twoGreatestAlike_16 rfl (lv_at hl 0 rfl) ?_
    refine lv_icmp_eq (tgt := 40) hx hb dX3_twoGreatestAlike_17 (by decide) (fun c17_8 => ?_) (fun c17_8 => ?_)
    · skip
      refine lv_iconst (v := 1) hx hb dX3_twoGreatestAlike_40 (by decide) ?_
      refine lv_goto (tgt := 45) hx hb dX3_twoGreatestAlike_41 (by decide) ?_
      exact u_zret C hr hW dX3_twoGreatestAlike_45 (by first | exact Or.inl rfl | exact Or.inr rfl) (by first | (simp only [tgaV, if_pos c12_1, if_pos c17_8]; done) | (exfalso; contradiction)) rfl
    · skip
      refine lv_iload_n hx hb dX3_twoGreatestAlike_20 rfl (lv_at hl 1 rfl) ?_
      refine lv_iload_n hx hb dX3_twoGreatestAlike_21 rfl (lv_at hl 3 rfl) ?_
      refine lv_icmp_ne (tgt := 30) hx hb dX3_twoGreatestAlike_22 (by decide) (fun c22_9 => ?_) (fun c22_9 => ?_)
      · skip
        refine lv_iload_n hx hb dX3_twoGreatestAlike_30 rfl (lv_at hl 2 rfl) ?_
        refine lv_iload_n hx hb dX3_twoGreatestAlike_31 rfl (lv_at hl 3 rfl) ?_
        refine lv_icmp_ne (tgt := 44) hx hb dX3_twoGreatestAlike_32 (by decide) (fun c32_10 => ?_) (fun c32_10 => ?_)
        · skip
          refine lv_iconst (v := 0) hx hb dX3_twoGreatestAlike_44 (by decide) ?_
          exact u_zret C hr hW dX3_twoGreatestAlike_45 (by first | exact Or.inl rfl | exact Or.inr rfl) (by first | (simp only [tgaV, if_pos c12_1, if_neg c17_8, if_neg c22_9, if_neg c32_10]; done) | (exfalso; contradiction)) rfl
        · skip
          refine lv_iload_n hx hb dX3_twoGreatestAlike_35 rfl (lv_at hl 2 rfl) ?_
          refine lv_iload_n hx hb dX3_twoGreatestAlike_36 rfl (lv_at hl 0 rfl) ?_
          refine lv_icmp_ne (tgt := 44) hx hb dX3_twoGreatestAlike_37 (by decide) (fun c37_11 => ?_) (fun c37_11 => ?_)
          · skip
            refine lv_iconst (v := 0) hx hb dX3_twoGreatestAlike_44 (by decide) ?_
            exact u_zret C hr hW dX3_twoGreatestAlike_45 (by first | exact Or.inl rfl | exact Or.inr rfl) (by first | (simp only [tgaV, if_pos c12_1, if_neg c17_8, if_neg c22_9, if_pos c32_10, if_neg c37_11]; done) | (exfalso; contradiction)) rfl
          · skip
            refine lv_iconst (v := 1) hx hb dX3_twoGreatestAlike_40 (by decide) ?_
            refine lv_goto (tgt := 45) hx hb dX3_twoGreatestAlike_41 (by decide) ?_
            exact u_zret C hr hW dX3_twoGreatestAlike_45 (by first | exact Or.inl rfl | exact Or.inr rfl) (by first | (simp only [tgaV, if_pos c12_1, if_neg c17_8, if_neg c22_9, if_pos c32_10, if_pos c37_11]; done) | (exfalso; contradiction)) rfl
      · skip
        refine lv_iload_n hx hb dX3_twoGreatestAlike_25 rfl (lv_at hl 1 rfl) ?_
        refine lv_iload_n hx hb dX3_twoGreatestAlike_26 rfl (lv_at hl 0 rfl) ?_
        refine lv_icmp_eq (tgt := 40) hx hb dX3_twoGreatestAlike_27 (by decide) (fun c27_12 => ?_) (fun c27_12 => ?_)
        · skip
          refine lv_iconst (v := 1) hx hb dX3_twoGreatestAlike_40 (by decide) ?_
          refine lv_goto (tgt := 45) hx hb dX3_twoGreatestAlike_41 (by decide) ?_
          exact u_zret C hr hW dX3_twoGreatestAlike_45 (by first | exact Or.inl rfl | exact Or.inr rfl) (by first | (simp only [tgaV, if_pos c12_1, if_neg c17_8, if_pos c22_9, if_pos c27_12]; done) | (exfalso; contradiction)) rfl
        · skip
          refine lv_iload_n hx hb dX3_twoGreatestAlike_30 rfl (lv_at hl 2 rfl) ?_
          refine lv_iload_n hx hb dX3_twoGreatestAlike_31 rfl (lv_at hl 3 rfl) ?_
          refine lv_icmp_ne (tgt := 44) hx hb dX3_twoGreatestAlike_32 (by decide) (fun c32_13 => ?_) (fun c32_13 => ?_)
          · skip
            refine lv_iconst (v := 0) hx hb dX3_twoGreatestAlike_44 (by decide) ?_
            exact u_zret C hr hW dX3_twoGreatestAlike_45 (by first | exact Or.inl rfl | exact Or.inr rfl) (by first | (simp only [tgaV, if_pos c12_1, if_neg c17_8, if_pos c22_9, if_neg c27_12, if_neg c32_13]; done) | (exfalso; contradiction)) rfl
          · skip
            refine lv_iload_n hx hb dX3_twoGreatestAlike_35 rfl (lv_at hl 2 rfl) ?_
            refine lv_iload_n hx hb dX3_twoGreatestAlike_36 rfl (lv_at hl 0 rfl) ?_
            refine lv_icmp_ne (tgt := 44) hx hb dX3_twoGreatestAlike_37 (by decide) (fun c37_14 => ?_) (fun c37_14 => ?_)
            · skip
              refine lv_iconst (v := 0) hx hb dX3_twoGreatestAlike_44 (by decide) ?_
              exact u_zret C hr hW dX3_twoGreatestAlike_45 (by first | exact Or.inl rfl | exact Or.inr rfl) (by first | (simp only [tgaV, if_pos c12_1, if_neg c17_8, if_pos c22_9, if_neg c27_12, if_pos c32_13, if_neg c37_14]; done) | (exfalso; contradiction)) rfl
            · skip
              refine lv_iconst (v := 1) hx hb dX3_twoGreatestAlike_40 (by decide) ?_
              refine lv_goto (tgt := 45) hx hb dX3_twoGreatestAlike_41 (by decide) ?_
              exact u_zret C hr hW dX3_twoGreatestAlike_45 (by first | exact Or.inl rfl | exact Or.inr rfl) (by first | (simp only [tgaV, if_pos c12_1, if_neg c17_8, if_pos c22_9, if_neg c27_12, if_pos c32_13, if_pos c37_14]; done) | (exfalso; contradiction)) rfl
set_option maxHeartbeats 4000000 in
set_option maxRecDepth 100000 in
theorem c_X3_brokenFoursFrom (l : Launch) (D : va_G) (cyI cO cyZ : ClassId) (ad : Nat → Nat) (fa : Nat) (n : Nat) (d md : Nat → Nat → Int32) (go ke ha : Nat → Int32) (wy : Nat → Nat → Int32) (ab be sr : Int32) (i j k : Nat) (hn : n ≤ 6) (hi : i < 6) (hj : j < 6) (hk : k < n) : Ct l yX3_brokenFoursFrom (Cond.code yX3_brokenFoursFrom cX3_brokenFoursFrom 6 (some .int) :: wsL_law) ({ frames := 2, cells := 0, slots := 0, locals := 49 } : Room) D (ty3 cyI cO cyZ) 29 ad fa [.ref (ad 1), .int (nI i), .int (nI j), .int (nI k)] (cC cyI cO ad n d md go ke ha wy ab be sr) (cC cyI cO ad n d md go ke ha wy ab be sr) (some (.int (bffV n d i j k))) := by
  refine Ct.of (by decide) (Nat.le_of_ble_eq_true rfl) ?_
  intro p e s m args below meth c A C hr H locs hW ls hl
  have C : Cx p s m args meth c cX3_brokenFoursFrom 6 RX3 D (ty3 cyI cO cyZ) fa A := C
  have hx := C.1
  have hb := C.2.1
  have hl : lv_has ls 6 [(0, .ref (ad 1)), (1, .int (nI i)), (2, .int (nI j)), (3, .int (nI k))] := hl
  refine lv_iconst (v := 0) hx hb dX3_brokenFoursFrom_0 (by decide) ?_
  refine lv_istore (lv' := [(4, .int 0), (0, .ref (ad 1)), (1, .int (nI i)), (2, .int (nI j)), (3, .int (nI k))]) hx hb dX3_brokenFoursFrom_1 hl (by decide) rfl (fun ls hl => ?_)
  refine lv_iload_n hx hb dX3_brokenFoursFrom_3 rfl (lv_at hl 4 rfl) ?_
  refine lv_iconst (v := 1) hx hb dX3_brokenFoursFrom_4 (by decide) ?_
  refine lv_iadd hx hb dX3_brokenFoursFrom_5 ?_
  refine u_top (show (nI k) + 1 = nI (k + 1) from nI_add k 1) ?_
  refine lv_istore (lv' := [(5, .int (nI (k + 1))), (4, .int 0), (0, .ref (ad 1)), (1, .int (nI i)), (2, .int (nI j)), (3, .int (nI k))]) hx hb dX3_brokenFoursFrom_6 hl (by decide) rfl (fun ls hl => ?_)
  have L8 : ∀ (k8 : Nat) (q : Nat) (a : Int32), q + k8 = n → lp (fun a l => if tgaV (d i j + d k l) (d i k + d j l) (d i l + d j k) = 0 then a + 1 else a) q k8 a = bffV n d i j k → ∀ (H : Heap) (locs : List Loc), Wd D 29 ad (cC cyI cO ad n d md go ke ha wy ab be sr) A s.heap H locs → ∀ ls : Array Slot, lv_has ls 6 [(5, .int (nI q)), (0, .ref (ad 1)), (1, .int (nI i)), (2, .int (nI j)), (3, .int (nI k)), (4, .int a)] → W p l e ({ frames := 2, cells := 0, slots := 0, locals := 49 } : Room) s m args below meth c H locs 0 0 (MQ below (uQ D 29 ad (cC cyI cO ad n d md go ke ha wy ab be sr) (some (.int (bffV n d i j k))) A) args s 0 0 A) (F0 m 8 ls []) := by
    intro k8
    induction k8 with
    | zero =>
      intro q a hq r8 H locs hW ls hl
      refine lv_iload hx hb dX3_brokenFoursFrom_8 (lv_at hl 0 rfl) ?_
      refine lv_aload_n hx hb dX3_brokenFoursFrom_10 rfl (lv_at hl 1 rfl) ?_
      refine u_get C hW inlX3 (by decide) cC_1 rfl 2 (by decide) mw_62 rfl dX3_brokenFoursFrom_11 ?_
      refine lv_icmp_ge (tgt := 86) hx hb dX3_brokenFoursFrom_14 (by decide) (fun _ => ?_) (fun c9 => absurd (nI_le (by omega) (by omega)) c9)
      refine lv_iload hx hb dX3_brokenFoursFrom_86 (lv_at hl 5 rfl) ?_
      exact u_iret C hr hW dX3_brokenFoursFrom_88 r8 rfl
    | succ k8 ih8 =>
      intro q a hq r8 H locs hW ls hl
      refine lv_iload hx hb dX3_brokenFoursFrom_8 (lv_at hl 0 rfl) ?_
      refine lv_aload_n hx hb dX3_brokenFoursFrom_10 rfl (lv_at hl 1 rfl) ?_
      refine u_get C hW inlX3 (by decide) cC_1 rfl 2 (by decide) mw_62 rfl dX3_brokenFoursFrom_11 ?_
      refine lv_icmp_ge (tgt := 86) hx hb dX3_brokenFoursFrom_14 (by decide) (fun c9 => absurd c9 (nI_ge (by omega) (by omega))) (fun _ => ?_)
      refine lv_aload_n hx hb dX3_brokenFoursFrom_17 rfl (lv_at hl 1 rfl) ?_
      refine u_get C hW inlX3 (by decide) cC_1 rfl 0 (by decide) mw_34 rfl dX3_brokenFoursFrom_18 ?_
      refine lv_iload_n hx hb dX3_brokenFoursFrom_21 rfl (lv_at hl 2 rfl) ?_
      refine u_aald C hW (by decide) cC_2 1 rfl i rfl (by omega) (by decide) (cC_outer (by omega)) dX3_brokenFoursFrom_22 ?_
      refine lv_iload_n hx hb dX3_brokenFoursFrom_23 rfl (lv_at hl 3 rfl) ?_
      refine u_iald C hW (by omega) (cC_d (by omega)) 0 rfl j rfl (by omega) (by decide) dX3_brokenFoursFrom_24 ?_
      refine lv_aload_n hx hb dX3_brokenFoursFrom_25 rfl (lv_at hl 1 rfl) ?_
      refine u_get C hW inlX3 (by decide) cC_1 rfl 0 (by decide) mw_34 rfl dX3_brokenFoursFrom_26 ?_
      refine lv_iload_n hx hb dX3_brokenFoursFrom_29 rfl (lv_at hl 4 rfl) ?_
      refine u_aald C hW (by decide) cC_2 1 rfl k rfl (by omega) (by decide) (cC_outer (by omega)) dX3_brokenFoursFrom_30 ?_
      refine lv_iload hx hb dX3_brokenFoursFrom_31 (lv_at hl 0 rfl) ?_
      refine u_iald C hW (by omega) (cC_d (by omega)) 0 rfl q rfl (by omega) (by decide) dX3_brokenFoursFrom_33 ?_
      refine lv_iadd hx hb dX3_brokenFoursFrom_34 ?_
      refine lv_aload_n hx hb dX3_brokenFoursFrom_35 rfl (lv_at hl 1 rfl) ?_
      refine u_get C hW inlX3 (by decide) cC_1 rfl 0 (by decide) mw_34 rfl dX3_brokenFoursFrom_36 ?_
      refine lv_iload_n hx hb dX3_brokenFoursFrom_39 rfl (lv_at hl 2 rfl) ?_
      refine u_aald C hW (by decide) cC_2 1 rfl i rfl (by omega) (by decide) (cC_outer (by omega)) dX3_brokenFoursFrom_40 ?_
      refine lv_iload_n hx hb dX3_brokenFoursFrom_41 rfl (lv_at hl 4 rfl) ?_
      refine u_iald C hW (by omega) (cC_d (by omega)) 0 rfl k rfl (by omega) (by decide) dX3_brokenFoursFrom_42 ?_
      refine lv_aload_n hx hb dX3_brokenFoursFrom_43 rfl (lv_at hl 1 rfl) ?_
      refine u_get C hW inlX3 (by decide) cC_1 rfl 0 (by decide) mw_34 rfl dX3_brokenFoursFrom_44 ?_
      refine lv_iload_n hx hb dX3_brokenFoursFrom_47 rfl (lv_at hl 3 rfl) ?_
      refine u_aald C hW (by decide) cC_2 1 rfl j rfl (by omega) (by decide) (cC_outer (by omega)) dX3_brokenFoursFrom_48 ?_
      refine lv_iload hx hb dX3_brokenFoursFrom_49 (lv_at hl 0 rfl) ?_
      refine u_iald C hW (by omega) (cC_d (by omega)) 0 rfl q rfl (by omega) (by decide) dX3_brokenFoursFrom_51 ?_
      refine lv_iadd hx hb dX3_brokenFoursFrom_52 ?_
      refine lv_aload_n hx hb dX3_brokenFoursFrom_53 rfl (lv_at hl 1 rfl) ?_
      refine u_get C hW inlX3 (by decide) cC_1 rfl 0 (by decide) mw_34 rfl dX3_brokenFoursFrom_54 ?_
      refine lv_iload_n hx hb dX3_brokenFoursFrom_57 rfl (lv_at hl 2 rfl) ?_
      refine u_aald C hW (by decide) cC_2 1 rfl i rfl (by omega) (by decide) (cC_outer (by omega)) dX3_brokenFoursFrom_58 ?_
      refine lv_iload hx hb dX3_brokenFoursFrom_59 (lv_at hl 0 rfl) ?_
      refine u_iald C hW (by omega) (cC_d (by omega)) 0 rfl q rfl (by omega) (by decide) dX3_brokenFoursFrom_61 ?_
      refine lv_aload_n hx hb dX3_brokenFoursFrom_62 rfl (lv_at hl 1 rfl) ?_
      refine u_get C hW inlX3 (by decide) cC_1 rfl 0 (by decide) mw_34 rfl dX3_brokenFoursFrom_63 ?_
      refine lv_iload_n hx hb dX3_brokenFoursFrom_66 rfl (lv_at hl 3 rfl) ?_
      refine u_aald C hW (by decide) cC_2 1 rfl j rfl (by omega) (by decide) (cC_outer (by omega)) dX3_brokenFoursFrom_67 ?_
      refine lv_iload_n hx hb dX3_brokenFoursFrom_68 rfl (lv_at hl 4 rfl) ?_
      refine u_iald C hW (by omega) (cC_d (by omega)) 0 rfl k rfl (by omega) (by decide) dX3_brokenFoursFrom_69 ?_
      refine lv_iadd hx hb dX3_brokenFoursFrom_70 ?_
      refine u_callS (cf' := cC cyI cO ad n d md go ke ha wy ab be sr) (As := [.int ((d i j) + (d k q)), .int ((d i k) + (d j q)), .int ((d i q) + (d j k))]) (rest := []) (st1 := [.int (tgaV ((d i j) + (d k q)) ((d i k) + (d j q)) ((d i q) + (d j k)))]) C hW (c_X3_twoGreatestAlike l D cyI cO cyZ ad fa n d md go ke ha wy ab be sr ((d i j) + (d k q)) ((d i k) + (d j q)) ((d i q) + (d j k)) ) ms_yX3_twoGreatestAlike mw_164 rfl ⟨rfl, rfl, Nat.le_of_ble_eq_true rfl, Nat.le_of_ble_eq_true rfl⟩ hl (Nat.le_of_ble_eq_true rfl) rfl rfl dX3_brokenFoursFrom_71 (fun H locs hW => ?_)
      refine lv_if_ne (tgt := 80) hx hb dX3_brokenFoursFrom_74 (by decide) (fun c74_1 => ?_) (fun c74_1 => ?_)
      · skip
        refine lv_iinc (v := nI (q + 1)) (lv' := [(5, .int (nI (q + 1))), (0, .ref (ad 1)), (1, .int (nI i)), (2, .int (nI j)), (3, .int (nI k)), (4, .int a)]) hx hb dX3_brokenFoursFrom_80 hl (k := 0) rfl (nI_1 _) (by decide) rfl (fun ls hl => ?_)
        refine lv_goto (tgt := 8) hx hb dX3_brokenFoursFrom_83 (by decide) ?_
        exact ih8  (q + 1) a (by omega) (by first | exact r8 | (have h9 := r8; simp only [lp_s, lp_0, if_neg c74_1] at h9; exact h9)) H locs hW ls (lv_sub hl [0, 1, 2, 3, 4, 5] rfl)
      · skip
        refine lv_iinc (v := a + 1) (lv' := [(4, .int (a + 1)), (5, .int (nI q)), (0, .ref (ad 1)), (1, .int (nI i)), (2, .int (nI j)), (3, .int (nI k))]) hx hb dX3_brokenFoursFrom_77 hl (k := 5) rfl rfl (by decide) rfl (fun ls hl => ?_)
        refine lv_iinc (v := nI (q + 1)) (lv' := [(5, .int (nI (q + 1))), (4, .int (a + 1)), (0, .ref (ad 1)), (1, .int (nI i)), (2, .int (nI j)), (3, .int (nI k))]) hx hb dX3_brokenFoursFrom_80 hl (k := 1) rfl (nI_1 _) (by decide) rfl (fun ls hl => ?_)
        refine lv_goto (tgt := 8) hx hb dX3_brokenFoursFrom_83 (by decide) ?_
        exact ih8  (q + 1) (a + 1) (by omega) (by first | exact r8 | (have h9 := r8; simp only [lp_s, lp_0, if_pos c74_1] at h9; exact h9)) H locs hW ls (lv_sub hl [0, 2, 3, 4, 5, 1] rfl)
  exact L8 (n - (k + 1)) (k + 1) 0 (by omega) rfl H locs hW ls (lv_sub hl [0, 2, 3, 4, 5, 1] rfl)
set_option maxHeartbeats 4000000 in
set_option maxRecDepth 100000 in
theorem c_X3_brokenFours (l : Launch) (D : va_G) (cyI cO cyZ : ClassId) (ad : Nat → Nat) (fa : Nat) (n : Nat) (d md : Nat → Nat → Int32) (go ke ha : Nat → Int32) (wy : Nat → Nat → Int32) (ab be sr : Int32)  (hn : n ≤ 6) : Ct l yX3_brokenFours (Cond.code yX3_brokenFours cX3_brokenFours 5 (some .int) :: wsL_law) ({ frames := 3, cells := 0, slots := 0, locals := 74 } : Room) D (ty3 cyI cO cyZ) 29 ad fa [.ref (ad 1)] (cC cyI cO ad n d md go ke ha wy ab be sr) (cC cyI cO ad n d md go ke ha wy ab be sr) (some (.int (bfV n d))) := by
  refine Ct.of (by decide) (Nat.le_of_ble_eq_true rfl) ?_
  intro p e s m args below meth c A C hr H locs hW ls hl
  have C : Cx p s m args meth c cX3_brokenFours 5 RX3 D (ty3 cyI cO cyZ) fa A := C
  have hx := C.1
  have hb := C.2.1
  have hl : lv_has ls 5 [(0, .ref (ad 1))] := hl
  refine lv_iconst (v := 0) hx hb dX3_brokenFours_0 (by decide) ?_
  refine lv_istore_n (lv' := [(1, .int 0), (0, .ref (ad 1))]) hx hb dX3_brokenFours_1 rfl hl (by decide) rfl (fun ls hl => ?_)
  refine lv_iconst (v := 0) hx hb dX3_brokenFours_2 (by decide) ?_
  refine lv_istore_n (lv' := [(2, .int 0), (1, .int 0), (0, .ref (ad 1))]) hx hb dX3_brokenFours_3 rfl hl (by decide) rfl (fun ls hl => ?_)
  have L4 : ∀ (k4 : Nat) (i : Nat) (a : Int32), i + k4 = n → lp (fun a i => lp (fun a j => lp (fun a k => a + bffV n d i j k) (j + 1) (n - (j + 1)) a) (i + 1) (n - (i + 1)) a) i k4 a = bfV n d → ∀ (H : Heap) (locs : List Loc), Wd D 29 ad (cC cyI cO ad n d md go ke ha wy ab be sr) A s.heap H locs → ∀ ls : Array Slot, lv_has ls 5 [(2, .int (nI i)), (0, .ref (ad 1)), (1, .int a)] → W p l e ({ frames := 3, cells := 0, slots := 0, locals := 74 } : Room) s m args below meth c H locs 0 0 (MQ below (uQ D 29 ad (cC cyI cO ad n d md go ke ha wy ab be sr) (some (.int (bfV n d))) A) args s 0 0 A) (F0 m 4 ls []) := by
    intro k4
    induction k4 with
    | zero =>
      intro i a hi r4 H locs hW ls hl
      refine lv_iload_n hx hb dX3_brokenFours_4 rfl (lv_at hl 0 rfl) ?_
      refine lv_aload_n hx hb dX3_brokenFours_5 rfl (lv_at hl 1 rfl) ?_
      refine u_get C hW inlX3 (by decide) cC_1 rfl 2 (by decide) mw_62 rfl dX3_brokenFours_6 ?_
      refine lv_icmp_ge (tgt := 67) hx hb dX3_brokenFours_9 (by decide) (fun _ => ?_) (fun c9 => absurd (nI_le (by omega) (by omega)) c9)
      refine lv_iload_n hx hb dX3_brokenFours_67 rfl (lv_at hl 2 rfl) ?_
      exact u_iret C hr hW dX3_brokenFours_68 r4 rfl
    | succ k4 ih4 =>
      intro i a hi r4 H locs hW ls hl
      refine lv_iload_n hx hb dX3_brokenFours_4 rfl (lv_at hl 0 rfl) ?_
      refine lv_aload_n hx hb dX3_brokenFours_5 rfl (lv_at hl 1 rfl) ?_
      refine u_get C hW inlX3 (by decide) cC_1 rfl 2 (by decide) mw_62 rfl dX3_brokenFours_6 ?_
      refine lv_icmp_ge (tgt := 67) hx hb dX3_brokenFours_9 (by decide) (fun c9 => absurd c9 (nI_ge (by omega) (by omega))) (fun _ => ?_)
      refine lv_iload_n hx hb dX3_brokenFours_12 rfl (lv_at hl 0 rfl) ?_
      refine lv_iconst (v := 1) hx hb dX3_brokenFours_13 (by decide) ?_
      refine lv_iadd hx hb dX3_brokenFours_14 ?_
      refine u_top (show (nI i) + 1 = nI (i + 1) from nI_add i 1) ?_
      refine lv_istore_n (lv' := [(3, .int (nI (i + 1))), (2, .int (nI i)), (0, .ref (ad 1)), (1, .int a)]) hx hb dX3_brokenFours_15 rfl hl (by decide) rfl (fun ls hl => ?_)
      have L16 : ∀ (k16 : Nat) (j : Nat) (a : Int32), j + k16 = n → lp (fun a i => lp (fun a j => lp (fun a k => a + bffV n d i j k) (j + 1) (n - (j + 1)) a) (i + 1) (n - (i + 1)) a) (i + 1) k4 (lp (fun a j => lp (fun a k => a + bffV n d i j k) (j + 1) (n - (j + 1)) a) j k16 a) = bfV n d → ∀ (H : Heap) (locs : List Loc), Wd D 29 ad (cC cyI cO ad n d md go ke ha wy ab be sr) A s.heap H locs → ∀ ls : Array Slot, lv_has ls 5 [(3, .int (nI j)), (0, .ref (ad 1)), (1, .int a), (2, .int (nI i))] → W p l e ({ frames := 3, cells := 0, slots := 0, locals := 74 } : Room) s m args below meth c H locs 0 0 (MQ below (uQ D 29 ad (cC cyI cO ad n d md go ke ha wy ab be sr) (some (.int (bfV n d))) A) args s 0 0 A) (F0 m 16 ls []) := by
        intro k16
        induction k16 with
        | zero =>
          intro j a hj r16 H locs hW ls hl
          refine lv_iload_n hx hb dX3_brokenFours_16 rfl (lv_at hl 0 rfl) ?_
          refine lv_aload_n hx hb dX3_brokenFours_17 rfl (lv_at hl 1 rfl) ?_
          refine u_get C hW inlX3 (by decide) cC_1 rfl 2 (by decide) mw_62 rfl dX3_brokenFours_18 ?_
          refine lv_icmp_ge (tgt := 61) hx hb dX3_brokenFours_21 (by decide) (fun _ => ?_) (fun c9 => absurd (nI_le (by omega) (by omega)) c9)
          refine lv_iinc (v := nI (i + 1)) (lv' := [(2, .int (nI (i + 1))), (3, .int (nI j)), (0, .ref (ad 1)), (1, .int a)]) hx hb dX3_brokenFours_61 hl (k := 3) rfl (nI_1 _) (by decide) rfl (fun ls hl => ?_)
          refine lv_goto (tgt := 4) hx hb dX3_brokenFours_64 (by decide) ?_
          exact ih4  (i + 1) a (by omega) r16 H locs hW ls (lv_sub hl [0, 2, 3] rfl)
        | succ k16 ih16 =>
          intro j a hj r16 H locs hW ls hl
          refine lv_iload_n hx hb dX3_brokenFours_16 rfl (lv_at hl 0 rfl) ?_
          refine lv_aload_n hx hb dX3_brokenFours_17 rfl (lv_at hl 1 rfl) ?_
          refine u_get C hW inlX3 (by decide) cC_1 rfl 2 (by decide) mw_62 rfl dX3_brokenFours_18 ?_
          refine lv_icmp_ge (tgt := 61) hx hb dX3_brokenFours_21 (by decide) (fun c9 => absurd c9 (nI_ge (by omega) (by omega))) (fun _ => ?_)
          refine lv_iload_n hx hb dX3_brokenFours_24 rfl (lv_at hl 0 rfl) ?_
          refine lv_iconst (v := 1) hx hb dX3_brokenFours_25 (by decide) ?_
          refine lv_iadd hx hb dX3_brokenFours_26 ?_
          refine u_top (show (nI j) + 1 = nI (j + 1) from nI_add j 1) ?_
          refine lv_istore (lv' := [(4, .int (nI (j + 1))), (3, .int (nI j)), (0, .ref (ad 1)), (1, .int a), (2, .int (nI i))]) hx hb dX3_brokenFours_27 hl (by decide) rfl (fun ls hl => ?_)
          have L29 : ∀ (k29 : Nat) (k : Nat) (a : Int32), k + k29 = n → lp (fun a i => lp (fun a j => lp (fun a k => a + bffV n d i j k) (j + 1) (n - (j + 1)) a) (i + 1) (n - (i + 1)) a) (i + 1) k4 (lp (fun a j => lp (fun a k => a + bffV n d i j k) (j + 1) (n - (j + 1)) a) (j + 1) k16 (lp (fun a k => a + bffV n d i j k) k k29 a)) = bfV n d → ∀ (H : Heap) (locs : List Loc), Wd D 29 ad (cC cyI cO ad n d md go ke ha wy ab be sr) A s.heap H locs → ∀ ls : Array Slot, lv_has ls 5 [(4, .int (nI k)), (0, .ref (ad 1)), (1, .int a), (2, .int (nI i)), (3, .int (nI j))] → W p l e ({ frames := 3, cells := 0, slots := 0, locals := 74 } : Room) s m args below meth c H locs 0 0 (MQ below (uQ D 29 ad (cC cyI cO ad n d md go ke ha wy ab be sr) (some (.int (bfV n d))) A) args s 0 0 A) (F0 m 29 ls []) := by
            intro k29
            induction k29 with
            | zero =>
              intro k a hk r29 H locs hW ls hl
              refine lv_iload hx hb dX3_brokenFours_29 (lv_at hl 0 rfl) ?_
              refine lv_aload_n hx hb dX3_brokenFours_31 rfl (lv_at hl 1 rfl) ?_
              refine u_get C hW inlX3 (by decide) cC_1 rfl 2 (by decide) mw_62 rfl dX3_brokenFours_32 ?_
              refine lv_icmp_ge (tgt := 55) hx hb dX3_brokenFours_35 (by decide) (fun _ => ?_) (fun c9 => absurd (nI_le (by omega) (by omega)) c9)
              refine lv_iinc (v := nI (j + 1)) (lv' := [(3, .int (nI (j + 1))), (4, .int (nI k)), (0, .ref (ad 1)), (1, .int a), (2, .int (nI i))]) hx hb dX3_brokenFours_55 hl (k := 4) rfl (nI_1 _) (by decide) rfl (fun ls hl => ?_)
              refine lv_goto (tgt := 16) hx hb dX3_brokenFours_58 (by decide) ?_
              exact ih16  (j + 1) a (by omega) r29 H locs hW ls (lv_sub hl [0, 2, 3, 4] rfl)
            | succ k29 ih29 =>
              intro k a hk r29 H locs hW ls hl
              refine lv_iload hx hb dX3_brokenFours_29 (lv_at hl 0 rfl) ?_
              refine lv_aload_n hx hb dX3_brokenFours_31 rfl (lv_at hl 1 rfl) ?_
              refine u_get C hW inlX3 (by decide) cC_1 rfl 2 (by decide) mw_62 rfl dX3_brokenFours_32 ?_
              refine lv_icmp_ge (tgt := 55) hx hb dX3_brokenFours_35 (by decide) (fun c9 => absurd c9 (nI_ge (by omega) (by omega))) (fun _ => ?_)
              refine lv_iload_n hx hb dX3_brokenFours_38 rfl (lv_at hl 2 rfl) ?_
              refine lv_aload_n hx hb dX3_brokenFours_39 rfl (lv_at hl 1 rfl) ?_
              refine lv_iload_n hx hb dX3_brokenFours_40 rfl (lv_at hl 3 rfl) ?_
              refine lv_iload_n hx hb dX3_brokenFours_41 rfl (lv_at hl 4 rfl) ?_
              refine lv_iload hx hb dX3_brokenFours_42 (lv_at hl 0 rfl) ?_
              refine u_callV (cf' := cC cyI cO ad n d md go ke ha wy ab be sr) (As := [.int (nI i), .int (nI j), .int (nI k)]) (rest := [.int a]) (st1 := [.int (bffV n d i j k), .int a]) C hW (c_X3_brokenFoursFrom l D cyI cO cyZ ad fa n d md go ke ha wy ab be sr i j k (by omega) (by omega) (by omega) (by omega)) mv_yX3_brokenFoursFrom mw_160 rfl ⟨rfl, rfl, Nat.le_of_ble_eq_true rfl, Nat.le_of_ble_eq_true rfl⟩ (by decide) cC_1 rfl rfl hl (Nat.le_of_ble_eq_true rfl) rfl rfl dX3_brokenFours_44 (fun H locs hW => ?_)
              refine lv_iadd hx hb dX3_brokenFours_47 ?_
              refine lv_istore_n (lv' := [(1, .int (a + (bffV n d i j k))), (4, .int (nI k)), (0, .ref (ad 1)), (2, .int (nI i)), (3, .int (nI j))]) hx hb dX3_brokenFours_48 rfl hl (by decide) rfl (fun ls hl => ?_)
              refine lv_iinc (v := nI (k + 1)) (lv' := [(4, .int (nI (k + 1))), (1, .int (a + (bffV n d i j k))), (0, .ref (ad 1)), (2, .int (nI i)), (3, .int (nI j))]) hx hb dX3_brokenFours_49 hl (k := 1) rfl (nI_1 _) (by decide) rfl (fun ls hl => ?_)
              refine lv_goto (tgt := 29) hx hb dX3_brokenFours_52 (by decide) ?_
              exact ih29  (k + 1) (a + (bffV n d i j k)) (by omega) (by first | exact r29 | (have h9 := r29; simp only [lp_s, lp_0] at h9; exact h9)) H locs hW ls (lv_sub hl [0, 2, 1, 3, 4] rfl)
          exact L29 (n - (j + 1)) (j + 1) a (by omega) r16 H locs hW ls (lv_sub hl [0, 2, 3, 4, 1] rfl)
      exact L16 (n - (i + 1)) (i + 1) a (by omega) r4 H locs hW ls (lv_sub hl [0, 2, 3, 1] rfl)
  exact L4 n 0 0 (by omega) rfl H locs hW ls (lv_sub hl [0, 2, 1] rfl)
set_option maxHeartbeats 4000000 in
set_option maxRecDepth 100000 in
theorem c_X3_shortenBy (l : Launch) (D : va_G) (cyI cO cyZ : ClassId) (ad : Nat → Nat) (fa : Nat) (n : Nat) (d md : Nat → Nat → Int32) (go ke ha : Nat → Int32) (wy : Nat → Nat → Int32) (ab be sr : Int32) (kk : Nat) (kd : Int32) (hn : n ≤ 6) (hk : kk < 6) : Ct l yX3_shortenBy (Cond.code yX3_shortenBy cX3_shortenBy 5 none :: wsL_law) ({ frames := 2, cells := 0, slots := 0, locals := 48 } : Room) D (ty3 cyI cO cyZ) 29 ad fa [.ref (ad 1), .int (nI kk), .int kd] (cC cyI cO ad n d md go ke ha wy ab be sr) (cC cyI cO ad n d (shV n md kk kd) go ke ha wy ab be sr) (none) := by
  refine Ct.of (by decide) (Nat.le_of_ble_eq_true rfl) ?_
  intro p e s m args below meth c A C hr H locs hW ls hl
  have C : Cx p s m args meth c cX3_shortenBy 5 RX3 D (ty3 cyI cO cyZ) fa A := C
  have hx := C.1
  have hb := C.2.1
  have hl : lv_has ls 5 [(0, .ref (ad 1)), (1, .int (nI kk)), (2, .int kd)] := hl
  refine lv_iconst (v := 0) hx hb dX3_shortenBy_0 (by decide) ?_
  refine lv_istore_n (lv' := [(3, .int 0), (0, .ref (ad 1)), (1, .int (nI kk)), (2, .int kd)]) hx hb dX3_shortenBy_1 rfl hl (by decide) rfl (fun ls hl => ?_)
  have L2 : ∀ (k2 : Nat) (i : Nat) (mm : Nat → Nat → Int32), i + k2 = n → lp (fun mm i => lp (fun mm j => u2 mm i j (mn (mm i j) (togV (mm i kk) (mm kk j) kd))) 0 n mm) i k2 mm = shV n md kk kd → ∀ (H : Heap) (locs : List Loc), Wd D 29 ad (cC cyI cO ad n d mm go ke ha wy ab be sr) A s.heap H locs → ∀ ls : Array Slot, lv_has ls 5 [(3, .int (nI i)), (0, .ref (ad 1)), (1, .int (nI kk)), (2, .int kd)] → W p l e ({ frames := 2, cells := 0, slots := 0, locals := 48 } : Room) s m args below meth c H locs 0 0 (MQ below (uQ D 29 ad (cC cyI cO ad n d (shV n md kk kd) go ke ha wy ab be sr) (none) A) args s 0 0 A) (F0 m 2 ls []) := by
    intro k2
    induction k2 with
    | zero =>
      intro i mm hi r2 H locs hW ls hl
      refine lv_iload_n hx hb dX3_shortenBy_2 rfl (lv_at hl 0 rfl) ?_
      refine lv_aload_n hx hb dX3_shortenBy_3 rfl (lv_at hl 1 rfl) ?_
      refine u_get C hW inlX3 (by decide) cC_1 rfl 2 (by decide) mw_62 rfl dX3_shortenBy_4 ?_
      refine lv_icmp_ge (tgt := 76) hx hb dX3_shortenBy_7 (by decide) (fun _ => ?_) (fun c9 => absurd (nI_le (by omega) (by omega)) c9)
      exact u_vret C hr hW dX3_shortenBy_76 (by rw [← r2]; rfl)
    | succ k2 ih2 =>
      intro i mm hi r2 H locs hW ls hl
      refine lv_iload_n hx hb dX3_shortenBy_2 rfl (lv_at hl 0 rfl) ?_
      refine lv_aload_n hx hb dX3_shortenBy_3 rfl (lv_at hl 1 rfl) ?_
      refine u_get C hW inlX3 (by decide) cC_1 rfl 2 (by decide) mw_62 rfl dX3_shortenBy_4 ?_
      refine lv_icmp_ge (tgt := 76) hx hb dX3_shortenBy_7 (by decide) (fun c9 => absurd c9 (nI_ge (by omega) (by omega))) (fun _ => ?_)
      refine lv_iconst (v := 0) hx hb dX3_shortenBy_10 (by decide) ?_
      refine lv_istore (lv' := [(4, .int 0), (3, .int (nI i)), (0, .ref (ad 1)), (1, .int (nI kk)), (2, .int kd)]) hx hb dX3_shortenBy_11 hl (by decide) rfl (fun ls hl => ?_)
      have L13 : ∀ (k13 : Nat) (j : Nat) (mm : Nat → Nat → Int32), j + k13 = n → lp (fun mm i => lp (fun mm j => u2 mm i j (mn (mm i j) (togV (mm i kk) (mm kk j) kd))) 0 n mm) (i + 1) k2 (lp (fun mm j => u2 mm i j (mn (mm i j) (togV (mm i kk) (mm kk j) kd))) j k13 mm) = shV n md kk kd → ∀ (H : Heap) (locs : List Loc), Wd D 29 ad (cC cyI cO ad n d mm go ke ha wy ab be sr) A s.heap H locs → ∀ ls : Array Slot, lv_has ls 5 [(4, .int (nI j)), (0, .ref (ad 1)), (1, .int (nI kk)), (2, .int kd), (3, .int (nI i))] → W p l e ({ frames := 2, cells := 0, slots := 0, locals := 48 } : Room) s m args below meth c H locs 0 0 (MQ below (uQ D 29 ad (cC cyI cO ad n d (shV n md kk kd) go ke ha wy ab be sr) (none) A) args s 0 0 A) (F0 m 13 ls []) := by
        intro k13
        induction k13 with
        | zero =>
          intro j mm hj r13 H locs hW ls hl
          refine lv_iload hx hb dX3_shortenBy_13 (lv_at hl 0 rfl) ?_
          refine lv_aload_n hx hb dX3_shortenBy_15 rfl (lv_at hl 1 rfl) ?_
          refine u_get C hW inlX3 (by decide) cC_1 rfl 2 (by decide) mw_62 rfl dX3_shortenBy_16 ?_
          refine lv_icmp_ge (tgt := 70) hx hb dX3_shortenBy_19 (by decide) (fun _ => ?_) (fun c9 => absurd (nI_le (by omega) (by omega)) c9)
          refine lv_iinc (v := nI (i + 1)) (lv' := [(3, .int (nI (i + 1))), (4, .int (nI j)), (0, .ref (ad 1)), (1, .int (nI kk)), (2, .int kd)]) hx hb dX3_shortenBy_70 hl (k := 4) rfl (nI_1 _) (by decide) rfl (fun ls hl => ?_)
          refine lv_goto (tgt := 2) hx hb dX3_shortenBy_73 (by decide) ?_
          exact ih2  (i + 1) mm (by omega) r13 H locs hW ls (lv_sub hl [0, 2, 3, 4] rfl)
        | succ k13 ih13 =>
          intro j mm hj r13 H locs hW ls hl
          refine lv_iload hx hb dX3_shortenBy_13 (lv_at hl 0 rfl) ?_
          refine lv_aload_n hx hb dX3_shortenBy_15 rfl (lv_at hl 1 rfl) ?_
          refine u_get C hW inlX3 (by decide) cC_1 rfl 2 (by decide) mw_62 rfl dX3_shortenBy_16 ?_
          refine lv_icmp_ge (tgt := 70) hx hb dX3_shortenBy_19 (by decide) (fun c9 => absurd c9 (nI_ge (by omega) (by omega))) (fun _ => ?_)
          refine lv_aload_n hx hb dX3_shortenBy_22 rfl (lv_at hl 1 rfl) ?_
          refine u_get C hW inlX3 (by decide) cC_1 rfl 1 (by decide) mw_35 rfl dX3_shortenBy_23 ?_
          refine lv_iload_n hx hb dX3_shortenBy_26 rfl (lv_at hl 4 rfl) ?_
          refine u_aald C hW (by decide) cC_9 1 rfl i rfl (by omega) (by decide) (cC_outer (by omega)) dX3_shortenBy_27 ?_
          refine lv_iload hx hb dX3_shortenBy_28 (lv_at hl 0 rfl) ?_
          refine lv_aload_n hx hb dX3_shortenBy_30 rfl (lv_at hl 1 rfl) ?_
          refine u_get C hW inlX3 (by decide) cC_1 rfl 1 (by decide) mw_35 rfl dX3_shortenBy_31 ?_
          refine lv_iload_n hx hb dX3_shortenBy_34 rfl (lv_at hl 4 rfl) ?_
          refine u_aald C hW (by decide) cC_9 1 rfl i rfl (by omega) (by decide) (cC_outer (by omega)) dX3_shortenBy_35 ?_
          refine lv_iload hx hb dX3_shortenBy_36 (lv_at hl 0 rfl) ?_
          refine u_iald C hW (by omega) (cC_m (by omega)) 0 rfl j rfl (by omega) (by decide) dX3_shortenBy_38 ?_
          refine lv_aload_n hx hb dX3_shortenBy_39 rfl (lv_at hl 1 rfl) ?_
          refine u_get C hW inlX3 (by decide) cC_1 rfl 1 (by decide) mw_35 rfl dX3_shortenBy_40 ?_
          refine lv_iload_n hx hb dX3_shortenBy_43 rfl (lv_at hl 4 rfl) ?_
          refine u_aald C hW (by decide) cC_9 1 rfl i rfl (by omega) (by decide) (cC_outer (by omega)) dX3_shortenBy_44 ?_
          refine lv_iload_n hx hb dX3_shortenBy_45 rfl (lv_at hl 2 rfl) ?_
          refine u_iald C hW (by omega) (cC_m (by omega)) 0 rfl kk rfl (by omega) (by decide) dX3_shortenBy_46 ?_
          refine lv_aload_n hx hb dX3_shortenBy_47 rfl (lv_at hl 1 rfl) ?_
          refine u_get C hW inlX3 (by decide) cC_1 rfl 1 (by decide) mw_35 rfl dX3_shortenBy_48 ?_
          refine lv_iload_n hx hb dX3_shortenBy_51 rfl (lv_at hl 2 rfl) ?_
          refine u_aald C hW (by decide) cC_9 1 rfl kk rfl (by omega) (by decide) (cC_outer (by omega)) dX3_shortenBy_52 ?_
          refine lv_iload hx hb dX3_shortenBy_53 (lv_at hl 0 rfl) ?_
          refine u_iald C hW (by omega) (cC_m (by omega)) 0 rfl j rfl (by omega) (by decide) dX3_shortenBy_55 ?_
          refine lv_iload_n hx hb dX3_shortenBy_56 rfl (lv_at hl 3 rfl) ?_
          refine u_callS (cf' := cC cyI cO ad n d mm go ke ha wy ab be sr) (As := [.int (mm i kk), .int (mm kk j), .int kd]) (rest := [.int (mm i j), .int (nI j), .ref (ad (10 + i))]) (st1 := [.int (togV (mm i kk) (mm kk j) kd), .int (mm i j), .int (nI j), .ref (ad (10 + i))]) C hW (c_X3_together l D cyI cO cyZ ad fa n d mm go ke ha wy ab be sr (mm i kk) (mm kk j) kd ) ms_yX3_together mw_142 rfl ⟨rfl, rfl, Nat.le_of_ble_eq_true rfl, Nat.le_of_ble_eq_true rfl⟩ hl (Nat.le_of_ble_eq_true rfl) rfl rfl dX3_shortenBy_57 (fun H locs hW => ?_)
          refine u_min C mw_206 hl (by decide) (Nat.le_of_ble_eq_true rfl) dX3_shortenBy_60 ?_
          refine u_top (y := mn (mm i j) (togV (mm i kk) (mm kk j) kd)) rfl ?_
          refine u_iast (cf' := cC cyI cO ad n d (u2 mm i j (mn (mm i j) (togV (mm i kk) (mm kk j) kd))) go ke ha wy ab be sr) C hW (by omega) (cC_m (by omega)) 0 rfl j rfl (by omega) (by decide) (cC_sm (by omega)) dX3_shortenBy_63 (fun H locs hW => ?_)
          refine lv_iinc (v := nI (j + 1)) (lv' := [(4, .int (nI (j + 1))), (0, .ref (ad 1)), (1, .int (nI kk)), (2, .int kd), (3, .int (nI i))]) hx hb dX3_shortenBy_64 hl (k := 0) rfl (nI_1 _) (by decide) rfl (fun ls hl => ?_)
          refine lv_goto (tgt := 13) hx hb dX3_shortenBy_67 (by decide) ?_
          exact ih13  (j + 1) (u2 mm i j (mn (mm i j) (togV (mm i kk) (mm kk j) kd))) (by omega) (by first | exact r13 | (have h9 := r13; simp only [lp_s, lp_0] at h9; exact h9)) H locs hW ls (lv_sub hl [0, 1, 2, 3, 4] rfl)
      exact L13 n 0 mm (by omega) r2 H locs hW ls (lv_sub hl [0, 2, 3, 4, 1] rfl)
  exact L2 n 0 md (by omega) rfl H locs hW ls (lv_sub hl [0, 1, 2, 3] rfl)
set_option maxHeartbeats 4000000 in
set_option maxRecDepth 100000 in
theorem c_X3_closed (l : Launch) (D : va_G) (cyI cO cyZ : ClassId) (ad : Nat → Nat) (fa : Nat) (n : Nat) (d md : Nat → Nat → Int32) (go ke ha : Nat → Int32) (wy : Nat → Nat → Int32) (ab be sr : Int32) (kd : Int32) (hn : n ≤ 6) : Ct l yX3_closed (Cond.code yX3_closed cX3_closed 3 (some (.array (.array .int))) :: wsL_law) ({ frames := 3, cells := 0, slots := 0, locals := 72 } : Room) D (ty3 cyI cO cyZ) 29 ad fa [.ref (ad 1), .int kd] (cC cyI cO ad n d md go ke ha wy ab be sr) (cC cyI cO ad n d (clV n d md kd) go ke ha wy ab be sr) (some (.ref (ad 9))) := by
  refine Ct.of (by decide) (Nat.le_of_ble_eq_true rfl) ?_
  intro p e s m args below meth c A C hr H locs hW ls hl
  have C : Cx p s m args meth c cX3_closed 3 RX3 D (ty3 cyI cO cyZ) fa A := C
  have hx := C.1
  have hb := C.2.1
  have hl : lv_has ls 3 [(0, .ref (ad 1)), (1, .int kd)] := hl
  refine lv_iconst (v := 0) hx hb dX3_closed_0 (by decide) ?_
  refine lv_istore_n (lv' := [(2, .int 0), (0, .ref (ad 1)), (1, .int kd)]) hx hb dX3_closed_1 rfl hl (by decide) rfl (fun ls hl => ?_)
  have L2 : ∀ (k2 : Nat) (i : Nat) (mm : Nat → Nat → Int32), i + k2 = n → lp (fun mm i => va_up mm i (va_cpy (d i) (mm i) 0 0 n)) i k2 mm = cpV n d md → ∀ (H : Heap) (locs : List Loc), Wd D 29 ad (cC cyI cO ad n d mm go ke ha wy ab be sr) A s.heap H locs → ∀ ls : Array Slot, lv_has ls 3 [(2, .int (nI i)), (0, .ref (ad 1)), (1, .int kd)] → W p l e ({ frames := 3, cells := 0, slots := 0, locals := 72 } : Room) s m args below meth c H locs 0 0 (MQ below (uQ D 29 ad (cC cyI cO ad n d (clV n d md kd) go ke ha wy ab be sr) (some (.ref (ad 9))) A) args s 0 0 A) (F0 m 2 ls []) := by
    intro k2
    induction k2 with
    | zero =>
      intro i mm hi r2 H locs hW ls hl
      refine lv_iload_n hx hb dX3_closed_2 rfl (lv_at hl 0 rfl) ?_
      refine lv_aload_n hx hb dX3_closed_3 rfl (lv_at hl 1 rfl) ?_
      refine u_get C hW inlX3 (by decide) cC_1 rfl 2 (by decide) mw_62 rfl dX3_closed_4 ?_
      refine lv_icmp_ge (tgt := 37) hx hb dX3_closed_7 (by decide) (fun _ => ?_) (fun c9 => absurd (nI_le (by omega) (by omega)) c9)
      refine lv_iconst (v := 0) hx hb dX3_closed_37 (by decide) ?_
      refine lv_istore_n (lv' := [(2, .int 0), (0, .ref (ad 1)), (1, .int kd)]) hx hb dX3_closed_38 rfl hl (by decide) rfl (fun ls hl => ?_)
      have L39 : ∀ (k39 : Nat) (k : Nat) (mm : Nat → Nat → Int32), k + k39 = n → lp (fun mm k => shV n mm k kd) k k39 mm = clV n d md kd → ∀ (H : Heap) (locs : List Loc), Wd D 29 ad (cC cyI cO ad n d mm go ke ha wy ab be sr) A s.heap H locs → ∀ ls : Array Slot, lv_has ls 3 [(2, .int (nI k)), (0, .ref (ad 1)), (1, .int kd)] → W p l e ({ frames := 3, cells := 0, slots := 0, locals := 72 } : Room) s m args below meth c H locs 0 0 (MQ below (uQ D 29 ad (cC cyI cO ad n d (clV n d md kd) go ke ha wy ab be sr) (some (.ref (ad 9))) A) args s 0 0 A) (F0 m 39 ls []) := by
        intro k39
        induction k39 with
        | zero =>
          intro k mm hk r39 H locs hW ls hl
          refine lv_iload_n hx hb dX3_closed_39 rfl (lv_at hl 0 rfl) ?_
          refine lv_aload_n hx hb dX3_closed_40 rfl (lv_at hl 1 rfl) ?_
          refine u_get C hW inlX3 (by decide) cC_1 rfl 2 (by decide) mw_62 rfl dX3_closed_41 ?_
          refine lv_icmp_ge (tgt := 59) hx hb dX3_closed_44 (by decide) (fun _ => ?_) (fun c9 => absurd (nI_le (by omega) (by omega)) c9)
          refine lv_aload_n hx hb dX3_closed_59 rfl (lv_at hl 1 rfl) ?_
          refine u_get C hW inlX3 (by decide) cC_1 rfl 1 (by decide) mw_35 rfl dX3_closed_60 ?_
          exact u_aret C hr (Or.inr ⟨_, rfl⟩) hW dX3_closed_63 (by rw [← r39]; rfl)
        | succ k39 ih39 =>
          intro k mm hk r39 H locs hW ls hl
          refine lv_iload_n hx hb dX3_closed_39 rfl (lv_at hl 0 rfl) ?_
          refine lv_aload_n hx hb dX3_closed_40 rfl (lv_at hl 1 rfl) ?_
          refine u_get C hW inlX3 (by decide) cC_1 rfl 2 (by decide) mw_62 rfl dX3_closed_41 ?_
          refine lv_icmp_ge (tgt := 59) hx hb dX3_closed_44 (by decide) (fun c9 => absurd c9 (nI_ge (by omega) (by omega))) (fun _ => ?_)
          refine lv_aload_n hx hb dX3_closed_47 rfl (lv_at hl 1 rfl) ?_
          refine lv_iload_n hx hb dX3_closed_48 rfl (lv_at hl 0 rfl) ?_
          refine lv_iload_n hx hb dX3_closed_49 rfl (lv_at hl 2 rfl) ?_
          refine u_callV (cf' := cC cyI cO ad n d (shV n mm k kd) go ke ha wy ab be sr) (As := [.int (nI k), .int kd]) (rest := []) (st1 := []) C hW (c_X3_shortenBy l D cyI cO cyZ ad fa n d mm go ke ha wy ab be sr k kd (by omega) (by omega)) mv_yX3_shortenBy mw_202 rfl ⟨rfl, rfl, Nat.le_of_ble_eq_true rfl, Nat.le_of_ble_eq_true rfl⟩ (by decide) cC_1 rfl rfl hl (Nat.le_of_ble_eq_true rfl) rfl rfl dX3_closed_50 (fun H locs hW => ?_)
          refine lv_iinc (v := nI (k + 1)) (lv' := [(2, .int (nI (k + 1))), (0, .ref (ad 1)), (1, .int kd)]) hx hb dX3_closed_53 hl (k := 0) rfl (nI_1 _) (by decide) rfl (fun ls hl => ?_)
          refine lv_goto (tgt := 39) hx hb dX3_closed_56 (by decide) ?_
          exact ih39  (k + 1) (shV n mm k kd) (by omega) (by first | exact r39 | (have h9 := r39; simp only [lp_s, lp_0] at h9; exact h9)) H locs hW ls (lv_sub hl [0, 1, 2] rfl)
      exact L39 n 0 mm (by omega) (by have h9 : mm = cpV n d md := r2; rw [h9]; rfl) H locs hW ls (lv_sub hl [0, 1, 2] rfl)
    | succ k2 ih2 =>
      intro i mm hi r2 H locs hW ls hl
      refine lv_iload_n hx hb dX3_closed_2 rfl (lv_at hl 0 rfl) ?_
      refine lv_aload_n hx hb dX3_closed_3 rfl (lv_at hl 1 rfl) ?_
      refine u_get C hW inlX3 (by decide) cC_1 rfl 2 (by decide) mw_62 rfl dX3_closed_4 ?_
      refine lv_icmp_ge (tgt := 37) hx hb dX3_closed_7 (by decide) (fun c9 => absurd c9 (nI_ge (by omega) (by omega))) (fun _ => ?_)
      refine lv_aload_n hx hb dX3_closed_10 rfl (lv_at hl 1 rfl) ?_
      refine u_get C hW inlX3 (by decide) cC_1 rfl 0 (by decide) mw_34 rfl dX3_closed_11 ?_
      refine lv_iload_n hx hb dX3_closed_14 rfl (lv_at hl 0 rfl) ?_
      refine u_aald C hW (by decide) cC_2 1 rfl i rfl (by omega) (by decide) (cC_outer (by omega)) dX3_closed_15 ?_
      refine lv_iconst (v := 0) hx hb dX3_closed_16 (by decide) ?_
      refine lv_aload_n hx hb dX3_closed_17 rfl (lv_at hl 1 rfl) ?_
      refine u_get C hW inlX3 (by decide) cC_1 rfl 1 (by decide) mw_35 rfl dX3_closed_18 ?_
      refine lv_iload_n hx hb dX3_closed_21 rfl (lv_at hl 0 rfl) ?_
      refine u_aald C hW (by decide) cC_9 1 rfl i rfl (by omega) (by decide) (cC_outer (by omega)) dX3_closed_22 ?_
      refine lv_iconst (v := 0) hx hb dX3_closed_23 (by decide) ?_
      refine lv_aload_n hx hb dX3_closed_24 rfl (lv_at hl 1 rfl) ?_
      refine u_get C hW inlX3 (by decide) cC_1 rfl 2 (by decide) mw_62 rfl dX3_closed_25 ?_
      refine u_copy (cf' := cC cyI cO ad n d (va_up mm i (va_cpy (d i) (mm i) 0 0 n)) go ke ha wy ab be sr) C hW mw_198 mw_199 mw_200 mw_201 hl (by omega) (by omega) (cC_d (by omega)) (cC_m (by omega)) 0 rfl hn (cC_sm (by omega)) (by decide) (Nat.le_of_ble_eq_true rfl) dX3_closed_28 (fun H locs hW => ?_)
      refine lv_iinc (v := nI (i + 1)) (lv' := [(2, .int (nI (i + 1))), (0, .ref (ad 1)), (1, .int kd)]) hx hb dX3_closed_31 hl (k := 0) rfl (nI_1 _) (by decide) rfl (fun ls hl => ?_)
      refine lv_goto (tgt := 2) hx hb dX3_closed_34 (by decide) ?_
      exact ih2  (i + 1) (va_up mm i (va_cpy (d i) (mm i) 0 0 n)) (by omega) (by first | exact r2 | (have h9 := r2; simp only [lp_s, lp_0] at h9; exact h9)) H locs hW ls (lv_sub hl [0, 1, 2] rfl)
  exact L2 n 0 md (by omega) rfl H locs hW ls (lv_sub hl [0, 1, 2] rfl)
set_option maxHeartbeats 4000000 in
set_option maxRecDepth 100000 in
theorem c_becomeM (l : Launch) (D : va_G) (cyI cO cyZ : ClassId) (ad : Nat → Nat) (fa : Nat) (n : Nat) (d md : Nat → Nat → Int32) (go ke ha : Nat → Int32) (wy : Nat → Nat → Int32) (ab be sr : Int32)  (hn : n ≤ 6) : Ct l yX3_become (Cond.code yX3_become cX3_become 5 (some .int) :: wsL_law) ({ frames := 1, cells := 0, slots := 0, locals := 23 } : Room) D (ty3 cyI cO cyZ) 29 ad fa [.ref (ad 1), .ref (ad 9)] (cC cyI cO ad n d md go ke ha wy ab be sr) (cC cyI cO ad n ((bcV n d md).2) md go ke ha wy ab be sr) (some (.int ((bcV n d md).1))) := by
  refine Ct.of (by decide) (Nat.le_of_ble_eq_true rfl) ?_
  intro p e s m args below meth c A C hr H locs hW ls hl
  have C : Cx p s m args meth c cX3_become 5 RX3 D (ty3 cyI cO cyZ) fa A := C
  have hx := C.1
  have hb := C.2.1
  have hl : lv_has ls 5 [(0, .ref (ad 1)), (1, .ref (ad 9))] := hl
  refine lv_iconst (v := 0) hx hb dX3_become_0 (by decide) ?_
  refine lv_istore_n (lv' := [(2, .int 0), (0, .ref (ad 1)), (1, .ref (ad 9))]) hx hb dX3_become_1 rfl hl (by decide) rfl (fun ls hl => ?_)
  refine lv_iconst (v := 0) hx hb dX3_become_2 (by decide) ?_
  refine lv_istore_n (lv' := [(3, .int 0), (2, .int 0), (0, .ref (ad 1)), (1, .ref (ad 9))]) hx hb dX3_become_3 rfl hl (by decide) rfl (fun ls hl => ?_)
  have L4 : ∀ (k4 : Nat) (i : Nat) (a : Int32) (dd : Nat → Nat → Int32), i + k4 = n → (lp (fun (p : Int32 × (Nat → Nat → Int32)) i => lp (fun p j => if p.2 i j = md i j then p else (p.1 + 1, putV p.2 i j (md i j))) (i + 1) (n - (i + 1)) p) i k4 (a, dd) = bcV n d md) → ∀ (H : Heap) (locs : List Loc), Wd D 29 ad (cC cyI cO ad n dd md go ke ha wy ab be sr) A s.heap H locs → ∀ ls : Array Slot, lv_has ls 5 [(3, .int (nI i)), (0, .ref (ad 1)), (1, .ref (ad 9)), (2, .int a)] → W p l e ({ frames := 1, cells := 0, slots := 0, locals := 23 } : Room) s m args below meth c H locs 0 0 (MQ below (uQ D 29 ad (cC cyI cO ad n ((bcV n d md).2) md go ke ha wy ab be sr) (some (.int ((bcV n d md).1))) A) args s 0 0 A) (F0 m 4 ls []) := by
    intro k4
    induction k4 with
    | zero =>
      intro i a dd hi r4 H locs hW ls hl
      refine lv_iload_n hx hb dX3_become_4 rfl (lv_at hl 0 rfl) ?_
      refine lv_aload_n hx hb dX3_become_5 rfl (lv_at hl 1 rfl) ?_
      refine u_get C hW inlX3 (by decide) cC_1 rfl 2 (by decide) mw_62 rfl dX3_become_6 ?_
      refine lv_icmp_ge (tgt := 72) hx hb dX3_become_9 (by decide) (fun _ => ?_) (fun c9 => absurd (nI_le (by omega) (by omega)) c9)
      refine lv_iload_n hx hb dX3_become_72 rfl (lv_at hl 3 rfl) ?_
      exact u_iret C hr hW dX3_become_73 (by rw [← r4]; rfl) (by rw [← r4]; rfl)
    | succ k4 ih4 =>
      intro i a dd hi r4 H locs hW ls hl
      refine lv_iload_n hx hb dX3_become_4 rfl (lv_at hl 0 rfl) ?_
      refine lv_aload_n hx hb dX3_become_5 rfl (lv_at hl 1 rfl) ?_
      refine u_get C hW inlX3 (by decide) cC_1 rfl 2 (by decide) mw_62 rfl dX3_become_6 ?_
      refine lv_icmp_ge (tgt := 72) hx hb dX3_become_9 (by decide) (fun c9 => absurd c9 (nI_ge (by omega) (by omega))) (fun _ => ?_)
      refine lv_iload_n hx hb dX3_become_12 rfl (lv_at hl 0 rfl) ?_
      refine lv_iconst (v := 1) hx hb dX3_become_13 (by decide) ?_
      refine lv_iadd hx hb dX3_become_14 ?_
      refine u_top (show (nI i) + 1 = nI (i + 1) from nI_add i 1) ?_
      refine lv_istore (lv' := [(4, .int (nI (i + 1))), (3, .int (nI i)), (0, .ref (ad 1)), (1, .ref (ad 9)), (2, .int a)]) hx hb dX3_become_15 hl (by decide) rfl (fun ls hl => ?_)
      have L17 : ∀ (k17 : Nat) (j : Nat) (a : Int32) (dd : Nat → Nat → Int32), j + k17 = n → (lp (fun (p : Int32 × (Nat → Nat → Int32)) i => lp (fun p j => if p.2 i j = md i j then p else (p.1 + 1, putV p.2 i j (md i j))) (i + 1) (n - (i + 1)) p) (i + 1) k4 (lp (fun p j => if p.2 i j = md i j then p else (p.1 + 1, putV p.2 i j (md i j))) j k17 (a, dd)) = bcV n d md) → ∀ (H : Heap) (locs : List Loc), Wd D 29 ad (cC cyI cO ad n dd md go ke ha wy ab be sr) A s.heap H locs → ∀ ls : Array Slot, lv_has ls 5 [(4, .int (nI j)), (0, .ref (ad 1)), (1, .ref (ad 9)), (2, .int a), (3, .int (nI i))] → W p l e ({ frames := 1, cells := 0, slots := 0, locals := 23 } : Room) s m args below meth c H locs 0 0 (MQ below (uQ D 29 ad (cC cyI cO ad n ((bcV n d md).2) md go ke ha wy ab be sr) (some (.int ((bcV n d md).1))) A) args s 0 0 A) (F0 m 17 ls []) := by
        intro k17
        induction k17 with
        | zero =>
          intro j a dd hj r17 H locs hW ls hl
          refine lv_iload hx hb dX3_become_17 (lv_at hl 0 rfl) ?_
          refine lv_aload_n hx hb dX3_become_19 rfl (lv_at hl 1 rfl) ?_
          refine u_get C hW inlX3 (by decide) cC_1 rfl 2 (by decide) mw_62 rfl dX3_become_20 ?_
          refine lv_icmp_ge (tgt := 66) hx hb dX3_become_23 (by decide) (fun _ => ?_) (fun c9 => absurd (nI_le (by omega) (by omega)) c9)
          refine lv_iinc (v := nI (i + 1)) (lv' := [(3, .int (nI (i + 1))), (4, .int (nI j)), (0, .ref (ad 1)), (1, .ref (ad 9)), (2, .int a)]) hx hb dX3_become_66 hl (k := 4) rfl (nI_1 _) (by decide) rfl (fun ls hl => ?_)
          refine lv_goto (tgt := 4) hx hb dX3_become_69 (by decide) ?_
          exact ih4  (i + 1) a dd (by omega) r17 H locs hW ls (lv_sub hl [0, 2, 3, 4] rfl)
        | succ k17 ih17 =>
          intro j a dd hj r17 H locs hW ls hl
          refine lv_iload hx hb dX3_become_17 (lv_at hl 0 rfl) ?_
          refine lv_aload_n hx hb dX3_become_19 rfl (lv_at hl 1 rfl) ?_
          refine u_get C hW inlX3 (by decide) cC_1 rfl 2 (by decide) mw_62 rfl dX3_become_20 ?_
          refine lv_icmp_ge (tgt := 66) hx hb dX3_become_23 (by decide) (fun c9 => absurd c9 (nI_ge (by omega) (by omega))) (fun _ => ?_)
          refine lv_aload_n hx hb dX3_become_26 rfl (lv_at hl 1 rfl) ?_
          refine u_get C hW inlX3 (by decide) cC_1 rfl 0 (by decide) mw_34 rfl dX3_become_27 ?_
          refine lv_iload_n hx hb dX3_become_30 rfl (lv_at hl 4 rfl) ?_
          refine u_aald C hW (by decide) cC_2 1 rfl i rfl (by omega) (by decide) (cC_outer (by omega)) dX3_become_31 ?_
          refine lv_iload hx hb dX3_become_32 (lv_at hl 0 rfl) ?_
          refine u_iald C hW (by omega) (cC_d (by omega)) 0 rfl j rfl (by omega) (by decide) dX3_become_34 ?_
          refine lv_aload_n hx hb dX3_become_35 rfl (lv_at hl 2 rfl) ?_
          refine lv_iload_n hx hb dX3_become_36 rfl (lv_at hl 4 rfl) ?_
          refine u_aald C hW (by decide) cC_9 1 rfl i rfl (by omega) (by decide) (cC_outer (by omega)) dX3_become_37 ?_
          refine lv_iload hx hb dX3_become_38 (lv_at hl 0 rfl) ?_
          refine u_iald C hW (by omega) (cC_m (by omega)) 0 rfl j rfl (by omega) (by decide) dX3_become_40 ?_
          refine lv_icmp_eq (tgt := 60) hx hb dX3_become_41 (by decide) (fun c41_1 => ?_) (fun c41_1 => ?_)
          · skip
            refine lv_iinc (v := nI (j + 1)) (lv' := [(4, .int (nI (j + 1))), (0, .ref (ad 1)), (1, .ref (ad 9)), (2, .int a), (3, .int (nI i))]) hx hb dX3_become_60 hl (k := 0) rfl (nI_1 _) (by decide) rfl (fun ls hl => ?_)
            refine lv_goto (tgt := 17) hx hb dX3_become_63 (by decide) ?_
            exact ih17  (j + 1) a dd (by omega) (by first | exact r17 | (have h9 := r17; simp only [lp_s, lp_0, if_pos c41_1] at h9; exact h9)) H locs hW ls (lv_sub hl [0, 1, 2, 3, 4] rfl)
          · skip
            refine lv_iinc (v := a + 1) (lv' := [(2, .int (a + 1)), (4, .int (nI j)), (0, .ref (ad 1)), (1, .ref (ad 9)), (3, .int (nI i))]) hx hb dX3_become_44 hl (k := 3) rfl rfl (by decide) rfl (fun ls hl => ?_)
            refine lv_aload_n hx hb dX3_become_47 rfl (lv_at hl 2 rfl) ?_
            refine lv_iload_n hx hb dX3_become_48 rfl (lv_at hl 4 rfl) ?_
            refine lv_iload hx hb dX3_become_49 (lv_at hl 1 rfl) ?_
            refine lv_aload_n hx hb dX3_become_51 rfl (lv_at hl 3 rfl) ?_
            refine lv_iload_n hx hb dX3_become_52 rfl (lv_at hl 4 rfl) ?_
            refine u_aald C hW (by decide) cC_9 1 rfl i rfl (by omega) (by decide) (cC_outer (by omega)) dX3_become_53 ?_
            refine lv_iload hx hb dX3_become_54 (lv_at hl 1 rfl) ?_
            refine u_iald C hW (by omega) (cC_m (by omega)) 0 rfl j rfl (by omega) (by decide) dX3_become_56 ?_
            refine u_callV (cf' := cC cyI cO ad n (putV dd i j (md i j)) md go ke ha wy ab be sr) (As := [.int (nI i), .int (nI j), .int (md i j)]) (rest := []) (st1 := []) C hW (c_X3_put l D cyI cO cyZ ad fa n dd md go ke ha wy ab be sr i j (md i j) (by omega) (by omega)) mv_yX3_put mw_213 rfl ⟨rfl, rfl, Nat.le_of_ble_eq_true rfl, Nat.le_of_ble_eq_true rfl⟩ (by decide) cC_1 rfl rfl hl (Nat.le_of_ble_eq_true rfl) rfl rfl dX3_become_57 (fun H locs hW => ?_)
            refine lv_iinc (v := nI (j + 1)) (lv' := [(4, .int (nI (j + 1))), (2, .int (a + 1)), (0, .ref (ad 1)), (1, .ref (ad 9)), (3, .int (nI i))]) hx hb dX3_become_60 hl (k := 1) rfl (nI_1 _) (by decide) rfl (fun ls hl => ?_)
            refine lv_goto (tgt := 17) hx hb dX3_become_63 (by decide) ?_
            exact ih17  (j + 1) (a + 1) (putV dd i j (md i j)) (by omega) (by first | exact r17 | (have h9 := r17; simp only [lp_s, lp_0, if_neg c41_1] at h9; exact h9)) H locs hW ls (lv_sub hl [0, 2, 3, 1, 4] rfl)
      exact L17 (n - (i + 1)) (i + 1) a dd (by omega) r4 H locs hW ls (lv_sub hl [0, 2, 3, 4, 1] rfl)
  exact L4 n 0 0 d (by omega) rfl H locs hW ls (lv_sub hl [0, 2, 3, 1] rfl)
set_option maxHeartbeats 4000000 in
set_option maxRecDepth 100000 in
theorem c_becomeW (l : Launch) (D : va_G) (cyI cO cyZ : ClassId) (ad : Nat → Nat) (fa : Nat) (n : Nat) (d md : Nat → Nat → Int32) (go ke ha : Nat → Int32) (wy : Nat → Nat → Int32) (ab be sr : Int32)  (hn : n ≤ 6) : Ct l yX3_become (Cond.code yX3_become cX3_become 5 (some .int) :: wsL_law) ({ frames := 1, cells := 0, slots := 0, locals := 23 } : Room) D (ty3 cyI cO cyZ) 29 ad fa [.ref (ad 1), .ref (ad 20)] (cC cyI cO ad n d md go ke ha wy ab be sr) (cC cyI cO ad n ((bcV n d wy).2) md go ke ha wy ab be sr) (some (.int ((bcV n d wy).1))) := by
  refine Ct.of (by decide) (Nat.le_of_ble_eq_true rfl) ?_
  intro p e s m args below meth c A C hr H locs hW ls hl
  have C : Cx p s m args meth c cX3_become 5 RX3 D (ty3 cyI cO cyZ) fa A := C
  have hx := C.1
  have hb := C.2.1
  have hl : lv_has ls 5 [(0, .ref (ad 1)), (1, .ref (ad 20))] := hl
  refine lv_iconst (v := 0) hx hb dX3_become_0 (by decide) ?_
  refine lv_istore_n (lv' := [(2, .int 0), (0, .ref (ad 1)), (1, .ref (ad 20))]) hx hb dX3_become_1 rfl hl (by decide) rfl (fun ls hl => ?_)
  refine lv_iconst (v := 0) hx hb dX3_become_2 (by decide) ?_
  refine lv_istore_n (lv' := [(3, .int 0), (2, .int 0), (0, .ref (ad 1)), (1, .ref (ad 20))]) hx hb dX3_become_3 rfl hl (by decide) rfl (fun ls hl => ?_)
  have L4 : ∀ (k4 : Nat) (i : Nat) (a : Int32) (dd : Nat → Nat → Int32), i + k4 = n → (lp (fun (p : Int32 × (Nat → Nat → Int32)) i => lp (fun p j => if p.2 i j = wy i j then p else (p.1 + 1, putV p.2 i j (wy i j))) (i + 1) (n - (i + 1)) p) i k4 (a, dd) = bcV n d wy) → ∀ (H : Heap) (locs : List Loc), Wd D 29 ad (cC cyI cO ad n dd md go ke ha wy ab be sr) A s.heap H locs → ∀ ls : Array Slot, lv_has ls 5 [(3, .int (nI i)), (0, .ref (ad 1)), (1, .ref (ad 20)), (2, .int a)] → W p l e ({ frames := 1, cells := 0, slots := 0, locals := 23 } : Room) s m args below meth c H locs 0 0 (MQ below (uQ D 29 ad (cC cyI cO ad n ((bcV n d wy).2) md go ke ha wy ab be sr) (some (.int ((bcV n d wy).1))) A) args s 0 0 A) (F0 m 4 ls []) := by
    intro k4
    induction k4 with
    | zero =>
      intro i a dd hi r4 H locs hW ls hl
      refine lv_iload_n hx hb dX3_become_4 rfl (lv_at hl 0 rfl) ?_
      refine lv_aload_n hx hb dX3_become_5 rfl (lv_at hl 1 rfl) ?_
      refine u_get C hW inlX3 (by decide) cC_1 rfl 2 (by decide) mw_62 rfl dX3_become_6 ?_
      refine lv_icmp_ge (tgt := 72) hx hb dX3_become_9 (by decide) (fun _ => ?_) (fun c9 => absurd (nI_le (by omega) (by omega)) c9)
      refine lv_iload_n hx hb dX3_become_72 rfl (lv_at hl 3 rfl) ?_
      exact u_iret C hr hW dX3_become_73 (by rw [← r4]; rfl) (by rw [← r4]; rfl)
    | succ k4 ih4 =>
      intro i a dd hi r4 H locs hW ls hl
      refine lv_iload_n hx hb dX3_become_4 rfl (lv_at hl 0 rfl) ?_
      refine lv_aload_n hx hb dX3_become_5 rfl (lv_at hl 1 rfl) ?_
      refine u_get C hW inlX3 (by decide) cC_1 rfl 2 (by decide) mw_62 rfl dX3_become_6 ?_
      refine lv_icmp_ge (tgt := 72) hx hb dX3_become_9 (by decide) (fun c9 => absurd c9 (nI_ge (by omega) (by omega))) (fun _ => ?_)
      refine lv_iload_n hx hb dX3_become_12 rfl (lv_at hl 0 rfl) ?_
      refine lv_iconst (v := 1) hx hb dX3_become_13 (by decide) ?_
      refine lv_iadd hx hb dX3_become_14 ?_
      refine u_top (show (nI i) + 1 = nI (i + 1) from nI_add i 1) ?_
      refine lv_istore (lv' := [(4, .int (nI (i + 1))), (3, .int (nI i)), (0, .ref (ad 1)), (1, .ref (ad 20)), (2, .int a)]) hx hb dX3_become_15 hl (by decide) rfl (fun ls hl => ?_)
      have L17 : ∀ (k17 : Nat) (j : Nat) (a : Int32) (dd : Nat → Nat → Int32), j + k17 = n → (lp (fun (p : Int32 × (Nat → Nat → Int32)) i => lp (fun p j => if p.2 i j = wy i j then p else (p.1 + 1, putV p.2 i j (wy i j))) (i + 1) (n - (i + 1)) p) (i + 1) k4 (lp (fun p j => if p.2 i j = wy i j then p else (p.1 + 1, putV p.2 i j (wy i j))) j k17 (a, dd)) = bcV n d wy) → ∀ (H : Heap) (locs : List Loc), Wd D 29 ad (cC cyI cO ad n dd md go ke ha wy ab be sr) A s.heap H locs → ∀ ls : Array Slot, lv_has ls 5 [(4, .int (nI j)), (0, .ref (ad 1)), (1, .ref (ad 20)), (2, .int a), (3, .int (nI i))] → W p l e ({ frames := 1, cells := 0, slots := 0, locals := 23 } : Room) s m args below meth c H locs 0 0 (MQ below (uQ D 29 ad (cC cyI cO ad n ((bcV n d wy).2) md go ke ha wy ab be sr) (some (.int ((bcV n d wy).1))) A) args s 0 0 A) (F0 m 17 ls []) := by
        intro k17
        induction k17 with
        | zero =>
          intro j a dd hj r17 H locs hW ls hl
          refine lv_iload hx hb dX3_become_17 (lv_at hl 0 rfl) ?_
          refine lv_aload_n hx hb dX3_become_19 rfl (lv_at hl 1 rfl) ?_
          refine u_get C hW inlX3 (by decide) cC_1 rfl 2 (by decide) mw_62 rfl dX3_become_20 ?_
          refine lv_icmp_ge (tgt := 66) hx hb dX3_become_23 (by decide) (fun _ => ?_) (fun c9 => absurd (nI_le (by omega) (by omega)) c9)
          refine lv_iinc (v := nI (i + 1)) (lv' := [(3, .int (nI (i + 1))), (4, .int (nI j)), (0, .ref (ad 1)), (1, .ref (ad 20)), (2, .int a)]) hx hb dX3_become_66 hl (k := 4) rfl (nI_1 _) (by decide) rfl (fun ls hl => ?_)
          refine lv_goto (tgt := 4) hx hb dX3_become_69 (by decide) ?_
          exact ih4  (i + 1) a dd (by omega) r17 H locs hW ls (lv_sub hl [0, 2, 3, 4] rfl)
        | succ k17 ih17 =>
          intro j a dd hj r17 H locs hW ls hl
          refine lv_iload hx hb dX3_become_17 (lv_at hl 0 rfl) ?_
          refine lv_aload_n hx hb dX3_become_19 rfl (lv_at hl 1 rfl) ?_
          refine u_get C hW inlX3 (by decide) cC_1 rfl 2 (by decide) mw_62 rfl dX3_become_20 ?_
          refine lv_icmp_ge (tgt := 66) hx hb dX3_become_23 (by decide) (fun c9 => absurd c9 (nI_ge (by omega) (by omega))) (fun _ => ?_)
          refine lv_aload_n hx hb dX3_become_26 rfl (lv_at hl 1 rfl) ?_
          refine u_get C hW inlX3 (by decide) cC_1 rfl 0 (by decide) mw_34 rfl dX3_become_27 ?_
          refine lv_iload_n hx hb dX3_become_30 rfl (lv_at hl 4 rfl) ?_
          refine u_aald C hW (by decide) cC_2 1 rfl i rfl (by omega) (by decide) (cC_outer (by omega)) dX3_become_31 ?_
          refine lv_iload hx hb dX3_become_32 (lv_at hl 0 rfl) ?_
          refine u_iald C hW (by omega) (cC_d (by omega)) 0 rfl j rfl (by omega) (by decide) dX3_become_34 ?_
          refine lv_aload_n hx hb dX3_become_35 rfl (lv_at hl 2 rfl) ?_
          refine lv_iload_n hx hb dX3_become_36 rfl (lv_at hl 4 rfl) ?_
          refine u_aald C hW (by decide) cC_20 1 rfl i rfl (by omega) (by decide) (cC_outer (by omega)) dX3_become_37 ?_
          refine lv_iload hx hb dX3_become_38 (lv_at hl 0 rfl) ?_
          refine u_iald C hW (by omega) (cC_w (by omega)) 0 rfl j rfl (by omega) (by decide) dX3_become_40 ?_
          refine lv_icmp_eq (tgt := 60) hx hb dX3_become_41 (by decide) (fun c41_1 => ?_) (fun c41_1 => ?_)
          · skip
            refine lv_iinc (v := nI (j + 1)) (lv' := [(4, .int (nI (j + 1))), (0, .ref (ad 1)), (1, .ref (ad 20)), (2, .int a), (3, .int (nI i))]) hx hb dX3_become_60 hl (k := 0) rfl (nI_1 _) (by decide) rfl (fun ls hl => ?_)
            refine lv_goto (tgt := 17) hx hb dX3_become_63 (by decide) ?_
            exact ih17  (j + 1) a dd (by omega) (by first | exact r17 | (have h9 := r17; simp only [lp_s, lp_0, if_pos c41_1] at h9; exact h9)) H locs hW ls (lv_sub hl [0, 1, 2, 3, 4] rfl)
          · skip
            refine lv_iinc (v := a + 1) (lv' := [(2, .int (a + 1)), (4, .int (nI j)), (0, .ref (ad 1)), (1, .ref (ad 20)), (3, .int (nI i))]) hx hb dX3_become_44 hl (k := 3) rfl rfl (by decide) rfl (fun ls hl => ?_)
            refine lv_aload_n hx hb dX3_become_47 rfl (lv_at hl 2 rfl) ?_
            refine lv_iload_n hx hb dX3_become_48 rfl (lv_at hl 4 rfl) ?_
            refine lv_iload hx hb dX3_become_49 (lv_at hl 1 rfl) ?_
            refine lv_aload_n hx hb dX3_become_51 rfl (lv_at hl 3 rfl) ?_
            refine lv_iload_n hx hb dX3_become_52 rfl (lv_at hl 4 rfl) ?_
            refine u_aald C hW (by decide) cC_20 1 rfl i rfl (by omega) (by decide) (cC_outer (by omega)) dX3_become_53 ?_
            refine lv_iload hx hb dX3_become_54 (lv_at hl 1 rfl) ?_
            refine u_iald C hW (by omega) (cC_w (by omega)) 0 rfl j rfl (by omega) (by decide) dX3_become_56 ?_
            refine u_callV (cf' := cC cyI cO ad n (putV dd i j (wy i j)) md go ke ha wy ab be sr) (As := [.int (nI i), .int (nI j), .int (wy i j)]) (rest := []) (st1 := []) C hW (c_X3_put l D cyI cO cyZ ad fa n dd md go ke ha wy ab be sr i j (wy i j) (by omega) (by omega)) mv_yX3_put mw_213 rfl ⟨rfl, rfl, Nat.le_of_ble_eq_true rfl, Nat.le_of_ble_eq_true rfl⟩ (by decide) cC_1 rfl rfl hl (Nat.le_of_ble_eq_true rfl) rfl rfl dX3_become_57 (fun H locs hW => ?_)
            refine lv_iinc (v := nI (j + 1)) (lv' := [(4, .int (nI (j + 1))), (2, .int (a + 1)), (0, .ref (ad 1)), (1, .ref (ad 20)), (3, .int (nI i))]) hx hb dX3_become_60 hl (k := 1) rfl (nI_1 _) (by decide) rfl (fun ls hl => ?_)
            refine lv_goto (tgt := 17) hx hb dX3_become_63 (by decide) ?_
            exact ih17  (j + 1) (a + 1) (putV dd i j (wy i j)) (by omega) (by first | exact r17 | (have h9 := r17; simp only [lp_s, lp_0, if_neg c41_1] at h9; exact h9)) H locs hW ls (lv_sub hl [0, 2, 3, 1, 4] rfl)
      exact L17 (n - (i + 1)) (i + 1) a dd (by omega) r4 H locs hW ls (lv_sub hl [0, 2, 3, 4, 1] rfl)
  exact L4 n 0 0 d (by omega) rfl H locs hW ls (lv_sub hl [0, 2, 3, 1] rfl)
set_option maxHeartbeats 4000000 in
set_option maxRecDepth 100000 in
theorem c_greatestAbove (l : Launch) (D : va_G) (cyI cO cyZ : ClassId) (ad : Nat → Nat) (fa : Nat) (n : Nat) (d md : Nat → Nat → Int32) (go ke ha : Nat → Int32) (wy : Nat → Nat → Int32) (ab be sr : Int32)  (hn : n ≤ 6) : Ct l yX3_greatestAbove (Cond.code yX3_greatestAbove cX3_greatestAbove 5 (some .int) :: wsL_law) ({ frames := 1, cells := 0, slots := 0, locals := 26 } : Room) D (ty3 cyI cO cyZ) 29 ad fa [.ref (ad 1), .ref (ad 9)] (cC cyI cO ad n d md go ke ha wy ab be sr) (cC cyI cO ad n d md go ke ha wy ab be sr) (some (.int (gaV n d md))) := by
  refine Ct.of (by decide) (Nat.le_of_ble_eq_true rfl) ?_
  intro p e s m args below meth c A C hr H locs hW ls hl
  have C : Cx p s m args meth c cX3_greatestAbove 5 RX3 D (ty3 cyI cO cyZ) fa A := C
  have hx := C.1
  have hb := C.2.1
  have hl : lv_has ls 5 [(0, .ref (ad 1)), (1, .ref (ad 9))] := hl
  refine lv_iconst (v := 0) hx hb dX3_greatestAbove_0 (by decide) ?_
  refine lv_istore_n (lv' := [(2, .int 0), (0, .ref (ad 1)), (1, .ref (ad 9))]) hx hb dX3_greatestAbove_1 rfl hl (by decide) rfl (fun ls hl => ?_)
  refine lv_iconst (v := 0) hx hb dX3_greatestAbove_2 (by decide) ?_
  refine lv_istore_n (lv' := [(3, .int 0), (2, .int 0), (0, .ref (ad 1)), (1, .ref (ad 9))]) hx hb dX3_greatestAbove_3 rfl hl (by decide) rfl (fun ls hl => ?_)
  have L4 : ∀ (k4 : Nat) (i : Nat) (a : Int32), i + k4 = n → lp (fun a i => lp (fun a j => mx a (d i j - md i j)) (i + 1) (n - (i + 1)) a) i k4 a = gaV n d md → ∀ (H : Heap) (locs : List Loc), Wd D 29 ad (cC cyI cO ad n d md go ke ha wy ab be sr) A s.heap H locs → ∀ ls : Array Slot, lv_has ls 5 [(3, .int (nI i)), (0, .ref (ad 1)), (1, .ref (ad 9)), (2, .int a)] → W p l e ({ frames := 1, cells := 0, slots := 0, locals := 26 } : Room) s m args below meth c H locs 0 0 (MQ below (uQ D 29 ad (cC cyI cO ad n d md go ke ha wy ab be sr) (some (.int (gaV n d md))) A) args s 0 0 A) (F0 m 4 ls []) := by
    intro k4
    induction k4 with
    | zero =>
      intro i a hi r4 H locs hW ls hl
      refine lv_iload_n hx hb dX3_greatestAbove_4 rfl (lv_at hl 0 rfl) ?_
      refine lv_aload_n hx hb dX3_greatestAbove_5 rfl (lv_at hl 1 rfl) ?_
      refine u_get C hW inlX3 (by decide) cC_1 rfl 2 (by decide) mw_62 rfl dX3_greatestAbove_6 ?_
      refine lv_icmp_ge (tgt := 59) hx hb dX3_greatestAbove_9 (by decide) (fun _ => ?_) (fun c9 => absurd (nI_le (by omega) (by omega)) c9)
      refine lv_iload_n hx hb dX3_greatestAbove_59 rfl (lv_at hl 3 rfl) ?_
      exact u_iret C hr hW dX3_greatestAbove_60 r4 rfl
    | succ k4 ih4 =>
      intro i a hi r4 H locs hW ls hl
      refine lv_iload_n hx hb dX3_greatestAbove_4 rfl (lv_at hl 0 rfl) ?_
      refine lv_aload_n hx hb dX3_greatestAbove_5 rfl (lv_at hl 1 rfl) ?_
      refine u_get C hW inlX3 (by decide) cC_1 rfl 2 (by decide) mw_62 rfl dX3_greatestAbove_6 ?_
      refine lv_icmp_ge (tgt := 59) hx hb dX3_greatestAbove_9 (by decide) (fun c9 => absurd c9 (nI_ge (by omega) (by omega))) (fun _ => ?_)
      refine lv_iload_n hx hb dX3_greatestAbove_12 rfl (lv_at hl 0 rfl) ?_
      refine lv_iconst (v := 1) hx hb dX3_greatestAbove_13 (by decide) ?_
      refine lv_iadd hx hb dX3_greatestAbove_14 ?_
      refine u_top (show (nI i) + 1 = nI (i + 1) from nI_add i 1) ?_
      refine lv_istore (lv' := [(4, .int (nI (i + 1))), (3, .int (nI i)), (0, .ref (ad 1)), (1, .ref (ad 9)), (2, .int a)]) hx hb dX3_greatestAbove_15 hl (by decide) rfl (fun ls hl => ?_)
      have L17 : ∀ (k17 : Nat) (j : Nat) (a : Int32), j + k17 = n → lp (fun a i => lp (fun a j => mx a (d i j - md i j)) (i + 1) (n - (i + 1)) a) (i + 1) k4 (lp (fun a j => mx a (d i j - md i j)) j k17 a) = gaV n d md → ∀ (H : Heap) (locs : List Loc), Wd D 29 ad (cC cyI cO ad n d md go ke ha wy ab be sr) A s.heap H locs → ∀ ls : Array Slot, lv_has ls 5 [(4, .int (nI j)), (0, .ref (ad 1)), (1, .ref (ad 9)), (2, .int a), (3, .int (nI i))] → W p l e ({ frames := 1, cells := 0, slots := 0, locals := 26 } : Room) s m args below meth c H locs 0 0 (MQ below (uQ D 29 ad (cC cyI cO ad n d md go ke ha wy ab be sr) (some (.int (gaV n d md))) A) args s 0 0 A) (F0 m 17 ls []) := by
        intro k17
        induction k17 with
        | zero =>
          intro j a hj r17 H locs hW ls hl
          refine lv_iload hx hb dX3_greatestAbove_17 (lv_at hl 0 rfl) ?_
          refine lv_aload_n hx hb dX3_greatestAbove_19 rfl (lv_at hl 1 rfl) ?_
          refine u_get C hW inlX3 (by decide) cC_1 rfl 2 (by decide) mw_62 rfl dX3_greatestAbove_20 ?_
          refine lv_icmp_ge (tgt := 53) hx hb dX3_greatestAbove_23 (by decide) (fun _ => ?_) (fun c9 => absurd (nI_le (by omega) (by omega)) c9)
          refine lv_iinc (v := nI (i + 1)) (lv' := [(3, .int (nI (i + 1))), (4, .int (nI j)), (0, .ref (ad 1)), (1, .ref (ad 9)), (2, .int a)]) hx hb dX3_greatestAbove_53 hl (k := 4) rfl (nI_1 _) (by decide) rfl (fun ls hl => ?_)
          refine lv_goto (tgt := 4) hx hb dX3_greatestAbove_56 (by decide) ?_
          exact ih4  (i + 1) a (by omega) r17 H locs hW ls (lv_sub hl [0, 2, 3, 4] rfl)
        | succ k17 ih17 =>
          intro j a hj r17 H locs hW ls hl
          refine lv_iload hx hb dX3_greatestAbove_17 (lv_at hl 0 rfl) ?_
          refine lv_aload_n hx hb dX3_greatestAbove_19 rfl (lv_at hl 1 rfl) ?_
          refine u_get C hW inlX3 (by decide) cC_1 rfl 2 (by decide) mw_62 rfl dX3_greatestAbove_20 ?_
          refine lv_icmp_ge (tgt := 53) hx hb dX3_greatestAbove_23 (by decide) (fun c9 => absurd c9 (nI_ge (by omega) (by omega))) (fun _ => ?_)
          refine lv_iload_n hx hb dX3_greatestAbove_26 rfl (lv_at hl 3 rfl) ?_
          refine lv_aload_n hx hb dX3_greatestAbove_27 rfl (lv_at hl 1 rfl) ?_
          refine u_get C hW inlX3 (by decide) cC_1 rfl 0 (by decide) mw_34 rfl dX3_greatestAbove_28 ?_
          refine lv_iload_n hx hb dX3_greatestAbove_31 rfl (lv_at hl 4 rfl) ?_
          refine u_aald C hW (by decide) cC_2 1 rfl i rfl (by omega) (by decide) (cC_outer (by omega)) dX3_greatestAbove_32 ?_
          refine lv_iload hx hb dX3_greatestAbove_33 (lv_at hl 0 rfl) ?_
          refine u_iald C hW (by omega) (cC_d (by omega)) 0 rfl j rfl (by omega) (by decide) dX3_greatestAbove_35 ?_
          refine lv_aload_n hx hb dX3_greatestAbove_36 rfl (lv_at hl 2 rfl) ?_
          refine lv_iload_n hx hb dX3_greatestAbove_37 rfl (lv_at hl 4 rfl) ?_
          refine u_aald C hW (by decide) cC_9 1 rfl i rfl (by omega) (by decide) (cC_outer (by omega)) dX3_greatestAbove_38 ?_
          refine lv_iload hx hb dX3_greatestAbove_39 (lv_at hl 0 rfl) ?_
          refine u_iald C hW (by omega) (cC_m (by omega)) 0 rfl j rfl (by omega) (by decide) dX3_greatestAbove_41 ?_
          refine lv_isub hx hb dX3_greatestAbove_42 ?_
          refine u_max C mw_145 hl (by decide) (Nat.le_of_ble_eq_true rfl) dX3_greatestAbove_43 ?_
          refine u_top (y := mx a ((d i j) - (md i j))) rfl ?_
          refine lv_istore_n (lv' := [(2, .int (mx a ((d i j) - (md i j)))), (4, .int (nI j)), (0, .ref (ad 1)), (1, .ref (ad 9)), (3, .int (nI i))]) hx hb dX3_greatestAbove_46 rfl hl (by decide) rfl (fun ls hl => ?_)
          refine lv_iinc (v := nI (j + 1)) (lv' := [(4, .int (nI (j + 1))), (2, .int (mx a ((d i j) - (md i j)))), (0, .ref (ad 1)), (1, .ref (ad 9)), (3, .int (nI i))]) hx hb dX3_greatestAbove_47 hl (k := 1) rfl (nI_1 _) (by decide) rfl (fun ls hl => ?_)
          refine lv_goto (tgt := 17) hx hb dX3_greatestAbove_50 (by decide) ?_
          exact ih17  (j + 1) (mx a ((d i j) - (md i j))) (by omega) (by first | exact r17 | (have h9 := r17; simp only [lp_s, lp_0] at h9; exact h9)) H locs hW ls (lv_sub hl [0, 2, 3, 1, 4] rfl)
      exact L17 (n - (i + 1)) (i + 1) a (by omega) r4 H locs hW ls (lv_sub hl [0, 2, 3, 4, 1] rfl)
  exact L4 n 0 0 (by omega) rfl H locs hW ls (lv_sub hl [0, 2, 3, 1] rfl)
set_option maxHeartbeats 4000000 in
set_option maxRecDepth 100000 in
theorem c_sumOfD (l : Launch) (D : va_G) (cyI cO cyZ : ClassId) (ad : Nat → Nat) (fa : Nat) (n : Nat) (d md : Nat → Nat → Int32) (go ke ha : Nat → Int32) (wy : Nat → Nat → Int32) (ab be sr : Int32)  (hn : n ≤ 6) : Ct l yX3_sumOf (Cond.code yX3_sumOf cX3_sumOf 5 (some .int) :: wsL_law) ({ frames := 0, cells := 0, slots := 0, locals := 0 } : Room) D (ty3 cyI cO cyZ) 29 ad fa [.ref (ad 1), .ref (ad 2)] (cC cyI cO ad n d md go ke ha wy ab be sr) (cC cyI cO ad n d md go ke ha wy ab be sr) (some (.int (suV n d))) := by
  refine Ct.of (by decide) (Nat.le_of_ble_eq_true rfl) ?_
  intro p e s m args below meth c A C hr H locs hW ls hl
  have C : Cx p s m args meth c cX3_sumOf 5 RX3 D (ty3 cyI cO cyZ) fa A := C
  have hx := C.1
  have hb := C.2.1
  have hl : lv_has ls 5 [(0, .ref (ad 1)), (1, .ref (ad 2))] := hl
  refine lv_iconst (v := 0) hx hb dX3_sumOf_0 (by decide) ?_
  refine lv_istore_n (lv' := [(2, .int 0), (0, .ref (ad 1)), (1, .ref (ad 2))]) hx hb dX3_sumOf_1 rfl hl (by decide) rfl (fun ls hl => ?_)
  refine lv_iconst (v := 0) hx hb dX3_sumOf_2 (by decide) ?_
  refine lv_istore_n (lv' := [(3, .int 0), (2, .int 0), (0, .ref (ad 1)), (1, .ref (ad 2))]) hx hb dX3_sumOf_3 rfl hl (by decide) rfl (fun ls hl => ?_)
  have L4 : ∀ (k4 : Nat) (i : Nat) (a : Int32), i + k4 = n → lp (fun a i => lp (fun a j => a + d i j) (i + 1) (n - (i + 1)) a) i k4 a = suV n d → ∀ (H : Heap) (locs : List Loc), Wd D 29 ad (cC cyI cO ad n d md go ke ha wy ab be sr) A s.heap H locs → ∀ ls : Array Slot, lv_has ls 5 [(3, .int (nI i)), (0, .ref (ad 1)), (1, .ref (ad 2)), (2, .int a)] → W p l e ({ frames := 0, cells := 0, slots := 0, locals := 0 } : Room) s m args below meth c H locs 0 0 (MQ below (uQ D 29 ad (cC cyI cO ad n d md go ke ha wy ab be sr) (some (.int (suV n d))) A) args s 0 0 A) (F0 m 4 ls []) := by
    intro k4
    induction k4 with
    | zero =>
      intro i a hi r4 H locs hW ls hl
      refine lv_iload_n hx hb dX3_sumOf_4 rfl (lv_at hl 0 rfl) ?_
      refine lv_aload_n hx hb dX3_sumOf_5 rfl (lv_at hl 1 rfl) ?_
      refine u_get C hW inlX3 (by decide) cC_1 rfl 2 (by decide) mw_62 rfl dX3_sumOf_6 ?_
      refine lv_icmp_ge (tgt := 47) hx hb dX3_sumOf_9 (by decide) (fun _ => ?_) (fun c9 => absurd (nI_le (by omega) (by omega)) c9)
      refine lv_iload_n hx hb dX3_sumOf_47 rfl (lv_at hl 3 rfl) ?_
      exact u_iret C hr hW dX3_sumOf_48 r4 rfl
    | succ k4 ih4 =>
      intro i a hi r4 H locs hW ls hl
      refine lv_iload_n hx hb dX3_sumOf_4 rfl (lv_at hl 0 rfl) ?_
      refine lv_aload_n hx hb dX3_sumOf_5 rfl (lv_at hl 1 rfl) ?_
      refine u_get C hW inlX3 (by decide) cC_1 rfl 2 (by decide) mw_62 rfl dX3_sumOf_6 ?_
      refine lv_icmp_ge (tgt := 47) hx hb dX3_sumOf_9 (by decide) (fun c9 => absurd c9 (nI_ge (by omega) (by omega))) (fun _ => ?_)
      refine lv_iload_n hx hb dX3_sumOf_12 rfl (lv_at hl 0 rfl) ?_
      refine lv_iconst (v := 1) hx hb dX3_sumOf_13 (by decide) ?_
      refine lv_iadd hx hb dX3_sumOf_14 ?_
      refine u_top (show (nI i) + 1 = nI (i + 1) from nI_add i 1) ?_
      refine lv_istore (lv' := [(4, .int (nI (i + 1))), (3, .int (nI i)), (0, .ref (ad 1)), (1, .ref (ad 2)), (2, .int a)]) hx hb dX3_sumOf_15 hl (by decide) rfl (fun ls hl => ?_)
      have L17 : ∀ (k17 : Nat) (j : Nat) (a : Int32), j + k17 = n → lp (fun a i => lp (fun a j => a + d i j) (i + 1) (n - (i + 1)) a) (i + 1) k4 (lp (fun a j => a + d i j) j k17 a) = suV n d → ∀ (H : Heap) (locs : List Loc), Wd D 29 ad (cC cyI cO ad n d md go ke ha wy ab be sr) A s.heap H locs → ∀ ls : Array Slot, lv_has ls 5 [(4, .int (nI j)), (0, .ref (ad 1)), (1, .ref (ad 2)), (2, .int a), (3, .int (nI i))] → W p l e ({ frames := 0, cells := 0, slots := 0, locals := 0 } : Room) s m args below meth c H locs 0 0 (MQ below (uQ D 29 ad (cC cyI cO ad n d md go ke ha wy ab be sr) (some (.int (suV n d))) A) args s 0 0 A) (F0 m 17 ls []) := by
        intro k17
        induction k17 with
        | zero =>
          intro j a hj r17 H locs hW ls hl
          refine lv_iload hx hb dX3_sumOf_17 (lv_at hl 0 rfl) ?_
          refine lv_aload_n hx hb dX3_sumOf_19 rfl (lv_at hl 1 rfl) ?_
          refine u_get C hW inlX3 (by decide) cC_1 rfl 2 (by decide) mw_62 rfl dX3_sumOf_20 ?_
          refine lv_icmp_ge (tgt := 41) hx hb dX3_sumOf_23 (by decide) (fun _ => ?_) (fun c9 => absurd (nI_le (by omega) (by omega)) c9)
          refine lv_iinc (v := nI (i + 1)) (lv' := [(3, .int (nI (i + 1))), (4, .int (nI j)), (0, .ref (ad 1)), (1, .ref (ad 2)), (2, .int a)]) hx hb dX3_sumOf_41 hl (k := 4) rfl (nI_1 _) (by decide) rfl (fun ls hl => ?_)
          refine lv_goto (tgt := 4) hx hb dX3_sumOf_44 (by decide) ?_
          exact ih4  (i + 1) a (by omega) r17 H locs hW ls (lv_sub hl [0, 2, 3, 4] rfl)
        | succ k17 ih17 =>
          intro j a hj r17 H locs hW ls hl
          refine lv_iload hx hb dX3_sumOf_17 (lv_at hl 0 rfl) ?_
          refine lv_aload_n hx hb dX3_sumOf_19 rfl (lv_at hl 1 rfl) ?_
          refine u_get C hW inlX3 (by decide) cC_1 rfl 2 (by decide) mw_62 rfl dX3_sumOf_20 ?_
          refine lv_icmp_ge (tgt := 41) hx hb dX3_sumOf_23 (by decide) (fun c9 => absurd c9 (nI_ge (by omega) (by omega))) (fun _ => ?_)
          refine lv_iload_n hx hb dX3_sumOf_26 rfl (lv_at hl 3 rfl) ?_
          refine lv_aload_n hx hb dX3_sumOf_27 rfl (lv_at hl 2 rfl) ?_
          refine lv_iload_n hx hb dX3_sumOf_28 rfl (lv_at hl 4 rfl) ?_
          refine u_aald C hW (by decide) cC_2 1 rfl i rfl (by omega) (by decide) (cC_outer (by omega)) dX3_sumOf_29 ?_
          refine lv_iload hx hb dX3_sumOf_30 (lv_at hl 0 rfl) ?_
          refine u_iald C hW (by omega) (cC_d (by omega)) 0 rfl j rfl (by omega) (by decide) dX3_sumOf_32 ?_
          refine lv_iadd hx hb dX3_sumOf_33 ?_
          refine lv_istore_n (lv' := [(2, .int (a + (d i j))), (4, .int (nI j)), (0, .ref (ad 1)), (1, .ref (ad 2)), (3, .int (nI i))]) hx hb dX3_sumOf_34 rfl hl (by decide) rfl (fun ls hl => ?_)
          refine lv_iinc (v := nI (j + 1)) (lv' := [(4, .int (nI (j + 1))), (2, .int (a + (d i j))), (0, .ref (ad 1)), (1, .ref (ad 2)), (3, .int (nI i))]) hx hb dX3_sumOf_35 hl (k := 1) rfl (nI_1 _) (by decide) rfl (fun ls hl => ?_)
          refine lv_goto (tgt := 17) hx hb dX3_sumOf_38 (by decide) ?_
          exact ih17  (j + 1) (a + (d i j)) (by omega) (by first | exact r17 | (have h9 := r17; simp only [lp_s, lp_0] at h9; exact h9)) H locs hW ls (lv_sub hl [0, 2, 3, 1, 4] rfl)
      exact L17 (n - (i + 1)) (i + 1) a (by omega) r4 H locs hW ls (lv_sub hl [0, 2, 3, 4, 1] rfl)
  exact L4 n 0 0 (by omega) rfl H locs hW ls (lv_sub hl [0, 2, 3, 1] rfl)
set_option maxHeartbeats 4000000 in
set_option maxRecDepth 100000 in
theorem c_sumOfW (l : Launch) (D : va_G) (cyI cO cyZ : ClassId) (ad : Nat → Nat) (fa : Nat) (n : Nat) (d md : Nat → Nat → Int32) (go ke ha : Nat → Int32) (wy : Nat → Nat → Int32) (ab be sr : Int32)  (hn : n ≤ 6) : Ct l yX3_sumOf (Cond.code yX3_sumOf cX3_sumOf 5 (some .int) :: wsL_law) ({ frames := 0, cells := 0, slots := 0, locals := 0 } : Room) D (ty3 cyI cO cyZ) 29 ad fa [.ref (ad 1), .ref (ad 20)] (cC cyI cO ad n d md go ke ha wy ab be sr) (cC cyI cO ad n d md go ke ha wy ab be sr) (some (.int (suV n wy))) := by
  refine Ct.of (by decide) (Nat.le_of_ble_eq_true rfl) ?_
  intro p e s m args below meth c A C hr H locs hW ls hl
  have C : Cx p s m args meth c cX3_sumOf 5 RX3 D (ty3 cyI cO cyZ) fa A := C
  have hx := C.1
  have hb := C.2.1
  have hl : lv_has ls 5 [(0, .ref (ad 1)), (1, .ref (ad 20))] := hl
  refine lv_iconst (v := 0) hx hb dX3_sumOf_0 (by decide) ?_
  refine lv_istore_n (lv' := [(2, .int 0), (0, .ref (ad 1)), (1, .ref (ad 20))]) hx hb dX3_sumOf_1 rfl hl (by decide) rfl (fun ls hl => ?_)
  refine lv_iconst (v := 0) hx hb dX3_sumOf_2 (by decide) ?_
  refine lv_istore_n (lv' := [(3, .int 0), (2, .int 0), (0, .ref (ad 1)), (1, .ref (ad 20))]) hx hb dX3_sumOf_3 rfl hl (by decide) rfl (fun ls hl => ?_)
  have L4 : ∀ (k4 : Nat) (i : Nat) (a : Int32), i + k4 = n → lp (fun a i => lp (fun a j => a + wy i j) (i + 1) (n - (i + 1)) a) i k4 a = suV n wy → ∀ (H : Heap) (locs : List Loc), Wd D 29 ad (cC cyI cO ad n d md go ke ha wy ab be sr) A s.heap H locs → ∀ ls : Array Slot, lv_has ls 5 [(3, .int (nI i)), (0, .ref (ad 1)), (1, .ref (ad 20)), (2, .int a)] → W p l e ({ frames := 0, cells := 0, slots := 0, locals := 0 } : Room) s m args below meth c H locs 0 0 (MQ below (uQ D 29 ad (cC cyI cO ad n d md go ke ha wy ab be sr) (some (.int (suV n wy))) A) args s 0 0 A) (F0 m 4 ls []) := by
    intro k4
    induction k4 with
    | zero =>
      intro i a hi r4 H locs hW ls hl
      refine lv_iload_n hx hb dX3_sumOf_4 rfl (lv_at hl 0 rfl) ?_
      refine lv_aload_n hx hb dX3_sumOf_5 rfl (lv_at hl 1 rfl) ?_
      refine u_get C hW inlX3 (by decide) cC_1 rfl 2 (by decide) mw_62 rfl dX3_sumOf_6 ?_
      refine lv_icmp_ge (tgt := 47) hx hb dX3_sumOf_9 (by decide) (fun _ => ?_) (fun c9 => absurd (nI_le (by omega) (by omega)) c9)
      refine lv_iload_n hx hb dX3_sumOf_47 rfl (lv_at hl 3 rfl) ?_
      exact u_iret C hr hW dX3_sumOf_48 r4 rfl
    | succ k4 ih4 =>
      intro i a hi r4 H locs hW ls hl
      refine lv_iload_n hx hb dX3_sumOf_4 rfl (lv_at hl 0 rfl) ?_
      refine lv_aload_n hx hb dX3_sumOf_5 rfl (lv_at hl 1 rfl) ?_
      refine u_get C hW inlX3 (by decide) cC_1 rfl 2 (by decide) mw_62 rfl dX3_sumOf_6 ?_
      refine lv_icmp_ge (tgt := 47) hx hb dX3_sumOf_9 (by decide) (fun c9 => absurd c9 (nI_ge (by omega) (by omega))) (fun _ => ?_)
      refine lv_iload_n hx hb dX3_sumOf_12 rfl (lv_at hl 0 rfl) ?_
      refine lv_iconst (v := 1) hx hb dX3_sumOf_13 (by decide) ?_
      refine lv_iadd hx hb dX3_sumOf_14 ?_
      refine u_top (show (nI i) + 1 = nI (i + 1) from nI_add i 1) ?_
      refine lv_istore (lv' := [(4, .int (nI (i + 1))), (3, .int (nI i)), (0, .ref (ad 1)), (1, .ref (ad 20)), (2, .int a)]) hx hb dX3_sumOf_15 hl (by decide) rfl (fun ls hl => ?_)
      have L17 : ∀ (k17 : Nat) (j : Nat) (a : Int32), j + k17 = n → lp (fun a i => lp (fun a j => a + wy i j) (i + 1) (n - (i + 1)) a) (i + 1) k4 (lp (fun a j => a + wy i j) j k17 a) = suV n wy → ∀ (H : Heap) (locs : List Loc), Wd D 29 ad (cC cyI cO ad n d md go ke ha wy ab be sr) A s.heap H locs → ∀ ls : Array Slot, lv_has ls 5 [(4, .int (nI j)), (0, .ref (ad 1)), (1, .ref (ad 20)), (2, .int a), (3, .int (nI i))] → W p l e ({ frames := 0, cells := 0, slots := 0, locals := 0 } : Room) s m args below meth c H locs 0 0 (MQ below (uQ D 29 ad (cC cyI cO ad n d md go ke ha wy ab be sr) (some (.int (suV n wy))) A) args s 0 0 A) (F0 m 17 ls []) := by
        intro k17
        induction k17 with
        | zero =>
          intro j a hj r17 H locs hW ls hl
          refine lv_iload hx hb dX3_sumOf_17 (lv_at hl 0 rfl) ?_
          refine lv_aload_n hx hb dX3_sumOf_19 rfl (lv_at hl 1 rfl) ?_
          refine u_get C hW inlX3 (by decide) cC_1 rfl 2 (by decide) mw_62 rfl dX3_sumOf_20 ?_
          refine lv_icmp_ge (tgt := 41) hx hb dX3_sumOf_23 (by decide) (fun _ => ?_) (fun c9 => absurd (nI_le (by omega) (by omega)) c9)
          refine lv_iinc (v := nI (i + 1)) (lv' := [(3, .int (nI (i + 1))), (4, .int (nI j)), (0, .ref (ad 1)), (1, .ref (ad 20)), (2, .int a)]) hx hb dX3_sumOf_41 hl (k := 4) rfl (nI_1 _) (by decide) rfl (fun ls hl => ?_)
          refine lv_goto (tgt := 4) hx hb dX3_sumOf_44 (by decide) ?_
          exact ih4  (i + 1) a (by omega) r17 H locs hW ls (lv_sub hl [0, 2, 3, 4] rfl)
        | succ k17 ih17 =>
          intro j a hj r17 H locs hW ls hl
          refine lv_iload hx hb dX3_sumOf_17 (lv_at hl 0 rfl) ?_
          refine lv_aload_n hx hb dX3_sumOf_19 rfl (lv_at hl 1 rfl) ?_
          refine u_get C hW inlX3 (by decide) cC_1 rfl 2 (by decide) mw_62 rfl dX3_sumOf_20 ?_
          refine lv_icmp_ge (tgt := 41) hx hb dX3_sumOf_23 (by decide) (fun c9 => absurd c9 (nI_ge (by omega) (by omega))) (fun _ => ?_)
          refine lv_iload_n hx hb dX3_sumOf_26 rfl (lv_at hl 3 rfl) ?_
          refine lv_aload_n hx hb dX3_sumOf_27 rfl (lv_at hl 2 rfl) ?_
          refine lv_iload_n hx hb dX3_sumOf_28 rfl (lv_at hl 4 rfl) ?_
          refine u_aald C hW (by decide) cC_20 1 rfl i rfl (by omega) (by decide) (cC_outer (by omega)) dX3_sumOf_29 ?_
          refine lv_iload hx hb dX3_sumOf_30 (lv_at hl 0 rfl) ?_
          refine u_iald C hW (by omega) (cC_w (by omega)) 0 rfl j rfl (by omega) (by decide) dX3_sumOf_32 ?_
          refine lv_iadd hx hb dX3_sumOf_33 ?_
          refine lv_istore_n (lv' := [(2, .int (a + (wy i j))), (4, .int (nI j)), (0, .ref (ad 1)), (1, .ref (ad 20)), (3, .int (nI i))]) hx hb dX3_sumOf_34 rfl hl (by decide) rfl (fun ls hl => ?_)
          refine lv_iinc (v := nI (j + 1)) (lv' := [(4, .int (nI (j + 1))), (2, .int (a + (wy i j))), (0, .ref (ad 1)), (1, .ref (ad 20)), (3, .int (nI i))]) hx hb dX3_sumOf_35 hl (k := 1) rfl (nI_1 _) (by decide) rfl (fun ls hl => ?_)
          refine lv_goto (tgt := 17) hx hb dX3_sumOf_38 (by decide) ?_
          exact ih17  (j + 1) (a + (wy i j)) (by omega) (by first | exact r17 | (have h9 := r17; simp only [lp_s, lp_0] at h9; exact h9)) H locs hW ls (lv_sub hl [0, 2, 3, 1, 4] rfl)
      exact L17 (n - (i + 1)) (i + 1) a (by omega) r4 H locs hW ls (lv_sub hl [0, 2, 3, 4, 1] rfl)
  exact L4 n 0 0 (by omega) rfl H locs hW ls (lv_sub hl [0, 2, 3, 1] rfl)
set_option maxHeartbeats 4000000 in
set_option maxRecDepth 100000 in
theorem c_greatestOfD (l : Launch) (D : va_G) (cyI cO cyZ : ClassId) (ad : Nat → Nat) (fa : Nat) (n : Nat) (d md : Nat → Nat → Int32) (go ke ha : Nat → Int32) (wy : Nat → Nat → Int32) (ab be sr : Int32)  (hn : n ≤ 6) : Ct l yX3_greatestOf (Cond.code yX3_greatestOf cX3_greatestOf 5 (some .int) :: wsL_law) ({ frames := 1, cells := 0, slots := 0, locals := 26 } : Room) D (ty3 cyI cO cyZ) 29 ad fa [.ref (ad 1), .ref (ad 2)] (cC cyI cO ad n d md go ke ha wy ab be sr) (cC cyI cO ad n d md go ke ha wy ab be sr) (some (.int (goV n d))) := by
  refine Ct.of (by decide) (Nat.le_of_ble_eq_true rfl) ?_
  intro p e s m args below meth c A C hr H locs hW ls hl
  have C : Cx p s m args meth c cX3_greatestOf 5 RX3 D (ty3 cyI cO cyZ) fa A := C
  have hx := C.1
  have hb := C.2.1
  have hl : lv_has ls 5 [(0, .ref (ad 1)), (1, .ref (ad 2))] := hl
  refine lv_iconst (v := 0) hx hb dX3_greatestOf_0 (by decide) ?_
  refine lv_istore_n (lv' := [(2, .int 0), (0, .ref (ad 1)), (1, .ref (ad 2))]) hx hb dX3_greatestOf_1 rfl hl (by decide) rfl (fun ls hl => ?_)
  refine lv_iconst (v := 0) hx hb dX3_greatestOf_2 (by decide) ?_
  refine lv_istore_n (lv' := [(3, .int 0), (2, .int 0), (0, .ref (ad 1)), (1, .ref (ad 2))]) hx hb dX3_greatestOf_3 rfl hl (by decide) rfl (fun ls hl => ?_)
  have L4 : ∀ (k4 : Nat) (i : Nat) (a : Int32), i + k4 = n → lp (fun a i => lp (fun a j => mx a (d i j)) (i + 1) (n - (i + 1)) a) i k4 a = goV n d → ∀ (H : Heap) (locs : List Loc), Wd D 29 ad (cC cyI cO ad n d md go ke ha wy ab be sr) A s.heap H locs → ∀ ls : Array Slot, lv_has ls 5 [(3, .int (nI i)), (0, .ref (ad 1)), (1, .ref (ad 2)), (2, .int a)] → W p l e ({ frames := 1, cells := 0, slots := 0, locals := 26 } : Room) s m args below meth c H locs 0 0 (MQ below (uQ D 29 ad (cC cyI cO ad n d md go ke ha wy ab be sr) (some (.int (goV n d))) A) args s 0 0 A) (F0 m 4 ls []) := by
    intro k4
    induction k4 with
    | zero =>
      intro i a hi r4 H locs hW ls hl
      refine lv_iload_n hx hb dX3_greatestOf_4 rfl (lv_at hl 0 rfl) ?_
      refine lv_aload_n hx hb dX3_greatestOf_5 rfl (lv_at hl 1 rfl) ?_
      refine u_get C hW inlX3 (by decide) cC_1 rfl 2 (by decide) mw_62 rfl dX3_greatestOf_6 ?_
      refine lv_icmp_ge (tgt := 49) hx hb dX3_greatestOf_9 (by decide) (fun _ => ?_) (fun c9 => absurd (nI_le (by omega) (by omega)) c9)
      refine lv_iload_n hx hb dX3_greatestOf_49 rfl (lv_at hl 3 rfl) ?_
      exact u_iret C hr hW dX3_greatestOf_50 r4 rfl
    | succ k4 ih4 =>
      intro i a hi r4 H locs hW ls hl
      refine lv_iload_n hx hb dX3_greatestOf_4 rfl (lv_at hl 0 rfl) ?_
      refine lv_aload_n hx hb dX3_greatestOf_5 rfl (lv_at hl 1 rfl) ?_
      refine u_get C hW inlX3 (by decide) cC_1 rfl 2 (by decide) mw_62 rfl dX3_greatestOf_6 ?_
      refine lv_icmp_ge (tgt := 49) hx hb dX3_greatestOf_9 (by decide) (fun c9 => absurd c9 (nI_ge (by omega) (by omega))) (fun _ => ?_)
      refine lv_iload_n hx hb dX3_greatestOf_12 rfl (lv_at hl 0 rfl) ?_
      refine lv_iconst (v := 1) hx hb dX3_greatestOf_13 (by decide) ?_
      refine lv_iadd hx hb dX3_greatestOf_14 ?_
      refine u_top (show (nI i) + 1 = nI (i + 1) from nI_add i 1) ?_
      refine lv_istore (lv' := [(4, .int (nI (i + 1))), (3, .int (nI i)), (0, .ref (ad 1)), (1, .ref (ad 2)), (2, .int a)]) hx hb dX3_greatestOf_15 hl (by decide) rfl (fun ls hl => ?_)
      have L17 : ∀ (k17 : Nat) (j : Nat) (a : Int32), j + k17 = n → lp (fun a i => lp (fun a j => mx a (d i j)) (i + 1) (n - (i + 1)) a) (i + 1) k4 (lp (fun a j => mx a (d i j)) j k17 a) = goV n d → ∀ (H : Heap) (locs : List Loc), Wd D 29 ad (cC cyI cO ad n d md go ke ha wy ab be sr) A s.heap H locs → ∀ ls : Array Slot, lv_has ls 5 [(4, .int (nI j)), (0, .ref (ad 1)), (1, .ref (ad 2)), (2, .int a), (3, .int (nI i))] → W p l e ({ frames := 1, cells := 0, slots := 0, locals := 26 } : Room) s m args below meth c H locs 0 0 (MQ below (uQ D 29 ad (cC cyI cO ad n d md go ke ha wy ab be sr) (some (.int (goV n d))) A) args s 0 0 A) (F0 m 17 ls []) := by
        intro k17
        induction k17 with
        | zero =>
          intro j a hj r17 H locs hW ls hl
          refine lv_iload hx hb dX3_greatestOf_17 (lv_at hl 0 rfl) ?_
          refine lv_aload_n hx hb dX3_greatestOf_19 rfl (lv_at hl 1 rfl) ?_
          refine u_get C hW inlX3 (by decide) cC_1 rfl 2 (by decide) mw_62 rfl dX3_greatestOf_20 ?_
          refine lv_icmp_ge (tgt := 43) hx hb dX3_greatestOf_23 (by decide) (fun _ => ?_) (fun c9 => absurd (nI_le (by omega) (by omega)) c9)
          refine lv_iinc (v := nI (i + 1)) (lv' := [(3, .int (nI (i + 1))), (4, .int (nI j)), (0, .ref (ad 1)), (1, .ref (ad 2)), (2, .int a)]) hx hb dX3_greatestOf_43 hl (k := 4) rfl (nI_1 _) (by decide) rfl (fun ls hl => ?_)
          refine lv_goto (tgt := 4) hx hb dX3_greatestOf_46 (by decide) ?_
          exact ih4  (i + 1) a (by omega) r17 H locs hW ls (lv_sub hl [0, 2, 3, 4] rfl)
        | succ k17 ih17 =>
          intro j a hj r17 H locs hW ls hl
          refine lv_iload hx hb dX3_greatestOf_17 (lv_at hl 0 rfl) ?_
          refine lv_aload_n hx hb dX3_greatestOf_19 rfl (lv_at hl 1 rfl) ?_
          refine u_get C hW inlX3 (by decide) cC_1 rfl 2 (by decide) mw_62 rfl dX3_greatestOf_20 ?_
          refine lv_icmp_ge (tgt := 43) hx hb dX3_greatestOf_23 (by decide) (fun c9 => absurd c9 (nI_ge (by omega) (by omega))) (fun _ => ?_)
          refine lv_iload_n hx hb dX3_greatestOf_26 rfl (lv_at hl 3 rfl) ?_
          refine lv_aload_n hx hb dX3_greatestOf_27 rfl (lv_at hl 2 rfl) ?_
          refine lv_iload_n hx hb dX3_greatestOf_28 rfl (lv_at hl 4 rfl) ?_
          refine u_aald C hW (by decide) cC_2 1 rfl i rfl (by omega) (by decide) (cC_outer (by omega)) dX3_greatestOf_29 ?_
          refine lv_iload hx hb dX3_greatestOf_30 (lv_at hl 0 rfl) ?_
          refine u_iald C hW (by omega) (cC_d (by omega)) 0 rfl j rfl (by omega) (by decide) dX3_greatestOf_32 ?_
          refine u_max C mw_145 hl (by decide) (Nat.le_of_ble_eq_true rfl) dX3_greatestOf_33 ?_
          refine u_top (y := mx a (d i j)) rfl ?_
          refine lv_istore_n (lv' := [(2, .int (mx a (d i j))), (4, .int (nI j)), (0, .ref (ad 1)), (1, .ref (ad 2)), (3, .int (nI i))]) hx hb dX3_greatestOf_36 rfl hl (by decide) rfl (fun ls hl => ?_)
          refine lv_iinc (v := nI (j + 1)) (lv' := [(4, .int (nI (j + 1))), (2, .int (mx a (d i j))), (0, .ref (ad 1)), (1, .ref (ad 2)), (3, .int (nI i))]) hx hb dX3_greatestOf_37 hl (k := 1) rfl (nI_1 _) (by decide) rfl (fun ls hl => ?_)
          refine lv_goto (tgt := 17) hx hb dX3_greatestOf_40 (by decide) ?_
          exact ih17  (j + 1) (mx a (d i j)) (by omega) (by first | exact r17 | (have h9 := r17; simp only [lp_s, lp_0] at h9; exact h9)) H locs hW ls (lv_sub hl [0, 2, 3, 1, 4] rfl)
      exact L17 (n - (i + 1)) (i + 1) a (by omega) r4 H locs hW ls (lv_sub hl [0, 2, 3, 4, 1] rfl)
  exact L4 n 0 0 (by omega) rfl H locs hW ls (lv_sub hl [0, 2, 3, 1] rfl)
set_option maxHeartbeats 4000000 in
set_option maxRecDepth 100000 in
theorem c_greatestOfW (l : Launch) (D : va_G) (cyI cO cyZ : ClassId) (ad : Nat → Nat) (fa : Nat) (n : Nat) (d md : Nat → Nat → Int32) (go ke ha : Nat → Int32) (wy : Nat → Nat → Int32) (ab be sr : Int32)  (hn : n ≤ 6) : Ct l yX3_greatestOf (Cond.code yX3_greatestOf cX3_greatestOf 5 (some .int) :: wsL_law) ({ frames := 1, cells := 0, slots := 0, locals := 26 } : Room) D (ty3 cyI cO cyZ) 29 ad fa [.ref (ad 1), .ref (ad 20)] (cC cyI cO ad n d md go ke ha wy ab be sr) (cC cyI cO ad n d md go ke ha wy ab be sr) (some (.int (goV n wy))) := by
  refine Ct.of (by decide) (Nat.le_of_ble_eq_true rfl) ?_
  intro p e s m args below meth c A C hr H locs hW ls hl
  have C : Cx p s m args meth c cX3_greatestOf 5 RX3 D (ty3 cyI cO cyZ) fa A := C
  have hx := C.1
  have hb := C.2.1
  have hl : lv_has ls 5 [(0, .ref (ad 1)), (1, .ref (ad 20))] := hl
  refine lv_iconst (v := 0) hx hb dX3_greatestOf_0 (by decide) ?_
  refine lv_istore_n (lv' := [(2, .int 0), (0, .ref (ad 1)), (1, .ref (ad 20))]) hx hb dX3_greatestOf_1 rfl hl (by decide) rfl (fun ls hl => ?_)
  refine lv_iconst (v := 0) hx hb dX3_greatestOf_2 (by decide) ?_
  refine lv_istore_n (lv' := [(3, .int 0), (2, .int 0), (0, .ref (ad 1)), (1, .ref (ad 20))]) hx hb dX3_greatestOf_3 rfl hl (by decide) rfl (fun ls hl => ?_)
  have L4 : ∀ (k4 : Nat) (i : Nat) (a : Int32), i + k4 = n → lp (fun a i => lp (fun a j => mx a (wy i j)) (i + 1) (n - (i + 1)) a) i k4 a = goV n wy → ∀ (H : Heap) (locs : List Loc), Wd D 29 ad (cC cyI cO ad n d md go ke ha wy ab be sr) A s.heap H locs → ∀ ls : Array Slot, lv_has ls 5 [(3, .int (nI i)), (0, .ref (ad 1)), (1, .ref (ad 20)), (2, .int a)] → W p l e ({ frames := 1, cells := 0, slots := 0, locals := 26 } : Room) s m args below meth c H locs 0 0 (MQ below (uQ D 29 ad (cC cyI cO ad n d md go ke ha wy ab be sr) (some (.int (goV n wy))) A) args s 0 0 A) (F0 m 4 ls []) := by
    intro k4
    induction k4 with
    | zero =>
      intro i a hi r4 H locs hW ls hl
      refine lv_iload_n hx hb dX3_greatestOf_4 rfl (lv_at hl 0 rfl) ?_
      refine lv_aload_n hx hb dX3_greatestOf_5 rfl (lv_at hl 1 rfl) ?_
      refine u_get C hW inlX3 (by decide) cC_1 rfl 2 (by decide) mw_62 rfl dX3_greatestOf_6 ?_
      refine lv_icmp_ge (tgt := 49) hx hb dX3_greatestOf_9 (by decide) (fun _ => ?_) (fun c9 => absurd (nI_le (by omega) (by omega)) c9)
      refine lv_iload_n hx hb dX3_greatestOf_49 rfl (lv_at hl 3 rfl) ?_
      exact u_iret C hr hW dX3_greatestOf_50 r4 rfl
    | succ k4 ih4 =>
      intro i a hi r4 H locs hW ls hl
      refine lv_iload_n hx hb dX3_greatestOf_4 rfl (lv_at hl 0 rfl) ?_
      refine lv_aload_n hx hb dX3_greatestOf_5 rfl (lv_at hl 1 rfl) ?_
      refine u_get C hW inlX3 (by decide) cC_1 rfl 2 (by decide) mw_62 rfl dX3_greatestOf_6 ?_
      refine lv_icmp_ge (tgt := 49) hx hb dX3_greatestOf_9 (by decide) (fun c9 => absurd c9 (nI_ge (by omega) (by omega))) (fun _ => ?_)
      refine lv_iload_n hx hb dX3_greatestOf_12 rfl (lv_at hl 0 rfl) ?_
      refine lv_iconst (v := 1) hx hb dX3_greatestOf_13 (by decide) ?_
      refine lv_iadd hx hb dX3_greatestOf_14 ?_
      refine u_top (show (nI i) + 1 = nI (i + 1) from nI_add i 1) ?_
      refine lv_istore (lv' := [(4, .int (nI (i + 1))), (3, .int (nI i)), (0, .ref (ad 1)), (1, .ref (ad 20)), (2, .int a)]) hx hb dX3_greatestOf_15 hl (by decide) rfl (fun ls hl => ?_)
      have L17 : ∀ (k17 : Nat) (j : Nat) (a : Int32), j + k17 = n → lp (fun a i => lp (fun a j => mx a (wy i j)) (i + 1) (n - (i + 1)) a) (i + 1) k4 (lp (fun a j => mx a (wy i j)) j k17 a) = goV n wy → ∀ (H : Heap) (locs : List Loc), Wd D 29 ad (cC cyI cO ad n d md go ke ha wy ab be sr) A s.heap H locs → ∀ ls : Array Slot, lv_has ls 5 [(4, .int (nI j)), (0, .ref (ad 1)), (1, .ref (ad 20)), (2, .int a), (3, .int (nI i))] → W p l e ({ frames := 1, cells := 0, slots := 0, locals := 26 } : Room) s m args below meth c H locs 0 0 (MQ below (uQ D 29 ad (cC cyI cO ad n d md go ke ha wy ab be sr) (some (.int (goV n wy))) A) args s 0 0 A) (F0 m 17 ls []) := by
        intro k17
        induction k17 with
        | zero =>
          intro j a hj r17 H locs hW ls hl
          refine lv_iload hx hb dX3_greatestOf_17 (lv_at hl 0 rfl) ?_
          refine lv_aload_n hx hb dX3_greatestOf_19 rfl (lv_at hl 1 rfl) ?_
          refine u_get C hW inlX3 (by decide) cC_1 rfl 2 (by decide) mw_62 rfl dX3_greatestOf_20 ?_
          refine lv_icmp_ge (tgt := 43) hx hb dX3_greatestOf_23 (by decide) (fun _ => ?_) (fun c9 => absurd (nI_le (by omega) (by omega)) c9)
          refine lv_iinc (v := nI (i + 1)) (lv' := [(3, .int (nI (i + 1))), (4, .int (nI j)), (0, .ref (ad 1)), (1, .ref (ad 20)), (2, .int a)]) hx hb dX3_greatestOf_43 hl (k := 4) rfl (nI_1 _) (by decide) rfl (fun ls hl => ?_)
          refine lv_goto (tgt := 4) hx hb dX3_greatestOf_46 (by decide) ?_
          exact ih4  (i + 1) a (by omega) r17 H locs hW ls (lv_sub hl [0, 2, 3, 4] rfl)
        | succ k17 ih17 =>
          intro j a hj r17 H locs hW ls hl
          refine lv_iload hx hb dX3_greatestOf_17 (lv_at hl 0 rfl) ?_
          refine lv_aload_n hx hb dX3_greatestOf_19 rfl (lv_at hl 1 rfl) ?_
          refine u_get C hW inlX3 (by decide) cC_1 rfl 2 (by decide) mw_62 rfl dX3_greatestOf_20 ?_
          refine lv_icmp_ge (tgt := 43) hx hb dX3_greatestOf_23 (by decide) (fun c9 => absurd c9 (nI_ge (by omega) (by omega))) (fun _ => ?_)
          refine lv_iload_n hx hb dX3_greatestOf_26 rfl (lv_at hl 3 rfl) ?_
          refine lv_aload_n hx hb dX3_greatestOf_27 rfl (lv_at hl 2 rfl) ?_
          refine lv_iload_n hx hb dX3_greatestOf_28 rfl (lv_at hl 4 rfl) ?_
          refine u_aald C hW (by decide) cC_20 1 rfl i rfl (by omega) (by decide) (cC_outer (by omega)) dX3_greatestOf_29 ?_
          refine lv_iload hx hb dX3_greatestOf_30 (lv_at hl 0 rfl) ?_
          refine u_iald C hW (by omega) (cC_w (by omega)) 0 rfl j rfl (by omega) (by decide) dX3_greatestOf_32 ?_
          refine u_max C mw_145 hl (by decide) (Nat.le_of_ble_eq_true rfl) dX3_greatestOf_33 ?_
          refine u_top (y := mx a (wy i j)) rfl ?_
          refine lv_istore_n (lv' := [(2, .int (mx a (wy i j))), (4, .int (nI j)), (0, .ref (ad 1)), (1, .ref (ad 20)), (3, .int (nI i))]) hx hb dX3_greatestOf_36 rfl hl (by decide) rfl (fun ls hl => ?_)
          refine lv_iinc (v := nI (j + 1)) (lv' := [(4, .int (nI (j + 1))), (2, .int (mx a (wy i j))), (0, .ref (ad 1)), (1, .ref (ad 20)), (3, .int (nI i))]) hx hb dX3_greatestOf_37 hl (k := 1) rfl (nI_1 _) (by decide) rfl (fun ls hl => ?_)
          refine lv_goto (tgt := 17) hx hb dX3_greatestOf_40 (by decide) ?_
          exact ih17  (j + 1) (mx a (wy i j)) (by omega) (by first | exact r17 | (have h9 := r17; simp only [lp_s, lp_0] at h9; exact h9)) H locs hW ls (lv_sub hl [0, 2, 3, 1, 4] rfl)
      exact L17 (n - (i + 1)) (i + 1) a (by omega) r4 H locs hW ls (lv_sub hl [0, 2, 3, 4, 1] rfl)
  exact L4 n 0 0 (by omega) rfl H locs hW ls (lv_sub hl [0, 2, 3, 1] rfl)
set_option maxHeartbeats 4000000 in
set_option maxRecDepth 100000 in
theorem c_X4_asAnswer (l : Launch) (D : va_G) (cyI cO cyZ : ClassId) (ad : Nat → Nat) (fa : Nat) (n : Nat) (d md : Nat → Nat → Int32) (go ke ha : Nat → Int32) (wy : Nat → Nat → Int32) (ab be sr : Int32) (b : Int32)  : Ct l yX4_asAnswer (Cond.code yX4_asAnswer cX4_asAnswer 1 (some .int) :: wsL_law) ({ frames := 0, cells := 0, slots := 0, locals := 0 } : Room) D (ty3 cyI cO cyZ) 29 ad fa [.int b] (cC cyI cO ad n d md go ke ha wy ab be sr) (cC cyI cO ad n d md go ke ha wy ab be sr) (some (.int (asA b))) := by
  refine Ct.of (by decide) (Nat.le_of_ble_eq_true rfl) ?_
  intro p e s m args below meth c A C hr H locs hW ls hl
  have C : Cx p s m args meth c cX4_asAnswer 1 RX4 D (ty3 cyI cO cyZ) fa A := C
  have hx := C.1
  have hb := C.2.1
  have hl : lv_has ls 1 [(0, .int b)] := hl
  refine lv_iload_n hx hb dX4_asAnswer_0 rfl (lv_at hl 0 rfl) ?_
  refine lv_if_eq (tgt := 8) hx hb dX4_asAnswer_1 (by decide) (fun c1_1 => ?_) (fun c1_1 => ?_)
  · skip
    refine lv_iconst (v := 0) hx hb dX4_asAnswer_8 (by decide) ?_
    exact u_iret C hr hW dX4_asAnswer_9 (by simp only [asA, if_pos c1_1]) rfl
  · skip
    refine lv_iconst (v := 1) hx hb dX4_asAnswer_4 (by decide) ?_
    refine lv_goto (tgt := 9) hx hb dX4_asAnswer_5 (by decide) ?_
    exact u_iret C hr hW dX4_asAnswer_9 (by simp only [asA, if_neg c1_1]) rfl
set_option maxHeartbeats 4000000 in
set_option maxRecDepth 100000 in
theorem c_X3_groupsWithin (l : Launch) (D : va_G) (cyI cO cyZ : ClassId) (ad : Nat → Nat) (fa : Nat) (n : Nat) (d md : Nat → Nat → Int32) (go ke ha : Nat → Int32) (wy : Nat → Nat → Int32) (ab be sr : Int32) (r : Int32) (hn : n ≤ 6) : Ct l yX3_groupsWithin (Cond.code yX3_groupsWithin cX3_groupsWithin 7 (some .int) :: wsL_law) ({ frames := 4, cells := 0, slots := 0, locals := 94 } : Room) D (ty3 cyI cO cyZ) 29 ad fa [.ref (ad 1), .int r] (cC cyI cO ad n d md go ke ha wy ab be sr) (cC cyI cO ad n d (clV n d md 1) go ke ha wy ab be sr) (some (.int (grV n (clV n d md 1) r))) := by
  refine Ct.of (by decide) (Nat.le_of_ble_eq_true rfl) ?_
  intro p e s m args below meth c A C hr H locs hW ls hl
  have C : Cx p s m args meth c cX3_groupsWithin 7 RX3 D (ty3 cyI cO cyZ) fa A := C
  have hx := C.1
  have hb := C.2.1
  have hl : lv_has ls 7 [(0, .ref (ad 1)), (1, .int r)] := hl
  refine lv_aload_n hx hb dX3_groupsWithin_0 rfl (lv_at hl 0 rfl) ?_
  refine lv_iconst (v := 1) hx hb dX3_groupsWithin_1 (by decide) ?_
  refine u_callV (cf' := cC cyI cO ad n d (clV n d md 1) go ke ha wy ab be sr) (As := [.int 1]) (rest := []) (st1 := [.ref (ad 9)]) C hW (c_X3_closed l D cyI cO cyZ ad fa n d md go ke ha wy ab be sr 1 (by omega)) mv_yX3_closed mw_257 rfl ⟨rfl, rfl, Nat.le_of_ble_eq_true rfl, Nat.le_of_ble_eq_true rfl⟩ (by decide) cC_1 rfl rfl hl (Nat.le_of_ble_eq_true rfl) rfl rfl dX3_groupsWithin_2 (fun H locs hW => ?_)
  refine lv_astore_n (lv' := [(2, .ref (ad 9)), (0, .ref (ad 1)), (1, .int r)]) hx hb dX3_groupsWithin_5 rfl hl (by decide) rfl (fun ls hl => ?_)
  refine lv_iconst (v := 0) hx hb dX3_groupsWithin_6 (by decide) ?_
  refine lv_istore_n (lv' := [(3, .int 0), (2, .ref (ad 9)), (0, .ref (ad 1)), (1, .int r)]) hx hb dX3_groupsWithin_7 rfl hl (by decide) rfl (fun ls hl => ?_)
  refine lv_iconst (v := 0) hx hb dX3_groupsWithin_8 (by decide) ?_
  refine lv_istore (lv' := [(4, .int 0), (3, .int 0), (2, .ref (ad 9)), (0, .ref (ad 1)), (1, .int r)]) hx hb dX3_groupsWithin_9 hl (by decide) rfl (fun ls hl => ?_)
  have L11 : ∀ (k11 : Nat) (i : Nat) (a : Int32), i + k11 = n → lp (fun a i => a + asA (grI (clV n d md 1) r i)) i k11 a = grV n (clV n d md 1) r → ∀ (H : Heap) (locs : List Loc), Wd D 29 ad (cC cyI cO ad n d (clV n d md 1) go ke ha wy ab be sr) A s.heap H locs → ∀ ls : Array Slot, lv_has ls 7 [(4, .int (nI i)), (0, .ref (ad 1)), (1, .int r), (2, .ref (ad 9)), (3, .int a)] → W p l e ({ frames := 4, cells := 0, slots := 0, locals := 94 } : Room) s m args below meth c H locs 0 0 (MQ below (uQ D 29 ad (cC cyI cO ad n d (clV n d md 1) go ke ha wy ab be sr) (some (.int (grV n (clV n d md 1) r))) A) args s 0 0 A) (F0 m 11 ls []) := by
    intro k11
    induction k11 with
    | zero =>
      intro i a hi r11 H locs hW ls hl
      refine lv_iload hx hb dX3_groupsWithin_11 (lv_at hl 0 rfl) ?_
      refine lv_aload_n hx hb dX3_groupsWithin_13 rfl (lv_at hl 1 rfl) ?_
      refine u_get C hW inlX3 (by decide) cC_1 rfl 2 (by decide) mw_62 rfl dX3_groupsWithin_14 ?_
      refine lv_icmp_ge (tgt := 76) hx hb dX3_groupsWithin_17 (by decide) (fun _ => ?_) (fun c9 => absurd (nI_le (by omega) (by omega)) c9)
      refine lv_iload_n hx hb dX3_groupsWithin_76 rfl (lv_at hl 4 rfl) ?_
      exact u_iret C hr hW dX3_groupsWithin_77 r11 rfl
    | succ k11 ih11 =>
      intro i a hi r11 H locs hW ls hl
      refine lv_iload hx hb dX3_groupsWithin_11 (lv_at hl 0 rfl) ?_
      refine lv_aload_n hx hb dX3_groupsWithin_13 rfl (lv_at hl 1 rfl) ?_
      refine u_get C hW inlX3 (by decide) cC_1 rfl 2 (by decide) mw_62 rfl dX3_groupsWithin_14 ?_
      refine lv_icmp_ge (tgt := 76) hx hb dX3_groupsWithin_17 (by decide) (fun c9 => absurd c9 (nI_ge (by omega) (by omega))) (fun _ => ?_)
      refine lv_iconst (v := 1) hx hb dX3_groupsWithin_20 (by decide) ?_
      refine lv_istore (lv' := [(5, .int 1), (4, .int (nI i)), (0, .ref (ad 1)), (1, .int r), (2, .ref (ad 9)), (3, .int a)]) hx hb dX3_groupsWithin_21 hl (by decide) rfl (fun ls hl => ?_)
      refine lv_iconst (v := 0) hx hb dX3_groupsWithin_23 (by decide) ?_
      refine lv_istore (lv' := [(6, .int 0), (5, .int 1), (4, .int (nI i)), (0, .ref (ad 1)), (1, .int r), (2, .ref (ad 9)), (3, .int a)]) hx hb dX3_groupsWithin_24 hl (by decide) rfl (fun ls hl => ?_)
      have L26 : ∀ (k26 : Nat) (j : Nat) (b : Int32), j + k26 = i → lp (fun b j => if b = 0 then 0 else if (clV n d md 1) i j ≤ r then 0 else 1) j k26 b = grI (clV n d md 1) r i → ∀ (H : Heap) (locs : List Loc), Wd D 29 ad (cC cyI cO ad n d (clV n d md 1) go ke ha wy ab be sr) A s.heap H locs → ∀ ls : Array Slot, lv_has ls 7 [(6, .int (nI j)), (0, .ref (ad 1)), (1, .int r), (2, .ref (ad 9)), (3, .int a), (4, .int (nI i)), (5, .int b)] → W p l e ({ frames := 4, cells := 0, slots := 0, locals := 94 } : Room) s m args below meth c H locs 0 0 (MQ below (uQ D 29 ad (cC cyI cO ad n d (clV n d md 1) go ke ha wy ab be sr) (some (.int (grV n (clV n d md 1) r))) A) args s 0 0 A) (F0 m 26 ls []) := by
        intro k26
        induction k26 with
        | zero =>
          intro j b hj r26 H locs hW ls hl
          refine lv_iload hx hb dX3_groupsWithin_26 (lv_at hl 0 rfl) ?_
          refine lv_iload hx hb dX3_groupsWithin_28 (lv_at hl 5 rfl) ?_
          refine lv_icmp_ge (tgt := 62) hx hb dX3_groupsWithin_30 (by decide) (fun _ => ?_) (fun c9 => absurd (nI_le (by omega) (by omega)) c9)
          refine lv_iload_n hx hb dX3_groupsWithin_62 rfl (lv_at hl 4 rfl) ?_
          refine lv_iload hx hb dX3_groupsWithin_63 (lv_at hl 6 rfl) ?_
          refine u_callSN (cf' := cC cyI cO ad n d (clV n d md 1) go ke ha wy ab be sr) (As := [.int b]) (rest := [.int a]) (st1 := [.int (asA b), .int a]) C hW (c_X4_asAnswer l D cyI cO cyZ ad fa n d (clV n d md 1) go ke ha wy ab be sr b ) ms_yX4_asAnswer (List.mem_of_getElem? (i := 14) rfl) rfl ⟨rfl, rfl, Nat.le_of_ble_eq_true rfl, Nat.le_of_ble_eq_true rfl⟩ hl (Nat.le_of_ble_eq_true rfl) rfl rfl dX3_groupsWithin_65 (fun H locs hW => ?_)
          refine lv_iadd hx hb dX3_groupsWithin_68 ?_
          refine lv_istore_n (lv' := [(3, .int (a + (asA b))), (6, .int (nI j)), (0, .ref (ad 1)), (1, .int r), (2, .ref (ad 9)), (4, .int (nI i)), (5, .int b)]) hx hb dX3_groupsWithin_69 rfl hl (by decide) rfl (fun ls hl => ?_)
          refine lv_iinc (v := nI (i + 1)) (lv' := [(4, .int (nI (i + 1))), (3, .int (a + (asA b))), (6, .int (nI j)), (0, .ref (ad 1)), (1, .int r), (2, .ref (ad 9)), (5, .int b)]) hx hb dX3_groupsWithin_70 hl (k := 5) rfl (nI_1 _) (by decide) rfl (fun ls hl => ?_)
          refine lv_goto (tgt := 11) hx hb dX3_groupsWithin_73 (by decide) ?_
          exact ih11  (i + 1) (a + (asA b)) (by omega) (by rw [← r11, lp_s, ← r26]; rfl) H locs hW ls (lv_sub hl [0, 3, 4, 5, 1] rfl)
        | succ k26 ih26 =>
          intro j b hj r26 H locs hW ls hl
          refine lv_iload hx hb dX3_groupsWithin_26 (lv_at hl 0 rfl) ?_
          refine lv_iload hx hb dX3_groupsWithin_28 (lv_at hl 5 rfl) ?_
          refine lv_icmp_ge (tgt := 62) hx hb dX3_groupsWithin_30 (by decide) (fun c9 => absurd c9 (nI_ge (by omega) (by omega))) (fun _ => ?_)
          refine lv_iload hx hb dX3_groupsWithin_33 (lv_at hl 6 rfl) ?_
          refine lv_if_eq (tgt := 53) hx hb dX3_groupsWithin_35 (by decide) (fun c35_1 => ?_) (fun c35_1 => ?_)
          · skip
            refine lv_iconst (v := 0) hx hb dX3_groupsWithin_53 (by decide) ?_
            refine lv_istore (lv' := [(5, .int 0), (6, .int (nI j)), (0, .ref (ad 1)), (1, .int r), (2, .ref (ad 9)), (3, .int a), (4, .int (nI i))]) hx hb dX3_groupsWithin_54 hl (by decide) rfl (fun ls hl => ?_)
            refine lv_iinc (v := nI (j + 1)) (lv' := [(6, .int (nI (j + 1))), (5, .int 0), (0, .ref (ad 1)), (1, .int r), (2, .ref (ad 9)), (3, .int a), (4, .int (nI i))]) hx hb dX3_groupsWithin_56 hl (k := 1) rfl (nI_1 _) (by decide) rfl (fun ls hl => ?_)
            refine lv_goto (tgt := 26) hx hb dX3_groupsWithin_59 (by decide) ?_
            exact ih26  (j + 1) 0 (by omega) (by first | exact r26 | (have h9 := r26; simp only [lp_s, lp_0, if_pos c35_1] at h9; exact h9)) H locs hW ls (lv_sub hl [0, 2, 3, 4, 5, 6, 1] rfl)
          · skip
            refine lv_aload_n hx hb dX3_groupsWithin_38 rfl (lv_at hl 3 rfl) ?_
            refine lv_iload hx hb dX3_groupsWithin_39 (lv_at hl 5 rfl) ?_
            refine u_aald C hW (by decide) cC_9 1 rfl i rfl (by omega) (by decide) (cC_outer (by omega)) dX3_groupsWithin_41 ?_
            refine lv_iload hx hb dX3_groupsWithin_42 (lv_at hl 0 rfl) ?_
            refine u_iald C hW (by omega) (cC_m (by omega)) 0 rfl j rfl (by omega) (by decide) dX3_groupsWithin_44 ?_
            refine lv_iload_n hx hb dX3_groupsWithin_45 rfl (lv_at hl 2 rfl) ?_
            refine lv_icmp_le (tgt := 53) hx hb dX3_groupsWithin_46 (by decide) (fun c46_2 => ?_) (fun c46_2 => ?_)
            · skip
              refine lv_iconst (v := 0) hx hb dX3_groupsWithin_53 (by decide) ?_
              refine lv_istore (lv' := [(5, .int 0), (6, .int (nI j)), (0, .ref (ad 1)), (1, .int r), (2, .ref (ad 9)), (3, .int a), (4, .int (nI i))]) hx hb dX3_groupsWithin_54 hl (by decide) rfl (fun ls hl => ?_)
              refine lv_iinc (v := nI (j + 1)) (lv' := [(6, .int (nI (j + 1))), (5, .int 0), (0, .ref (ad 1)), (1, .int r), (2, .ref (ad 9)), (3, .int a), (4, .int (nI i))]) hx hb dX3_groupsWithin_56 hl (k := 1) rfl (nI_1 _) (by decide) rfl (fun ls hl => ?_)
              refine lv_goto (tgt := 26) hx hb dX3_groupsWithin_59 (by decide) ?_
              exact ih26  (j + 1) 0 (by omega) (by first | exact r26 | (have h9 := r26; simp only [lp_s, lp_0, if_neg c35_1, if_pos c46_2] at h9; exact h9)) H locs hW ls (lv_sub hl [0, 2, 3, 4, 5, 6, 1] rfl)
            · skip
              refine lv_iconst (v := 1) hx hb dX3_groupsWithin_49 (by decide) ?_
              refine lv_goto (tgt := 54) hx hb dX3_groupsWithin_50 (by decide) ?_
              refine lv_istore (lv' := [(5, .int 1), (6, .int (nI j)), (0, .ref (ad 1)), (1, .int r), (2, .ref (ad 9)), (3, .int a), (4, .int (nI i))]) hx hb dX3_groupsWithin_54 hl (by decide) rfl (fun ls hl => ?_)
              refine lv_iinc (v := nI (j + 1)) (lv' := [(6, .int (nI (j + 1))), (5, .int 1), (0, .ref (ad 1)), (1, .int r), (2, .ref (ad 9)), (3, .int a), (4, .int (nI i))]) hx hb dX3_groupsWithin_56 hl (k := 1) rfl (nI_1 _) (by decide) rfl (fun ls hl => ?_)
              refine lv_goto (tgt := 26) hx hb dX3_groupsWithin_59 (by decide) ?_
              exact ih26  (j + 1) 1 (by omega) (by first | exact r26 | (have h9 := r26; simp only [lp_s, lp_0, if_neg c35_1, if_neg c46_2] at h9; exact h9)) H locs hW ls (lv_sub hl [0, 2, 3, 4, 5, 6, 1] rfl)
      exact L26 i 0 1 (by omega) rfl H locs hW ls (lv_sub hl [0, 3, 4, 5, 6, 2, 1] rfl)
  exact L11 n 0 0 (by omega) rfl H locs hW ls (lv_sub hl [0, 3, 4, 2, 1] rfl)
end
section
/-! spanning trees: the code read, the ways laid -/
theorem nI_m3 {n : Nat} (h : 2 ≤ n) : nI n - 3 = nI (n - 2) - 1 := by
  obtain ⟨m, rfl⟩ : ∃ m, n = m + 2 := ⟨n - 2, by omega⟩
  rw [show m + 2 - 2 = m by omega, ← nI_add m 2, Int32.sub_eq_add_neg, Int32.add_assoc, Int32.sub_eq_add_neg]
  rfl
theorem nI_pm {n : Nat} (h : 2 ≤ n) : nI (n - 2) = nI (n - 1) - 1 := by
  rw [show n - 1 = (n - 2) + 1 by omega]
  exact (nI_pred (n - 2)).symm
theorem nI_dn (k : Nat) : nI k + Int32.ofInt (-1) = nI k - 1 := by
  rw [Int32.sub_eq_add_neg]
  rfl
def cmV (n : Nat) : Nat := lp (fun m _ => m * n) 0 (n - 2) 1
theorem cmV_le {n : Nat} (h : n ≤ 6) : cmV n ≤ 1296 := by
  have : n = 0 ∨ n = 1 ∨ n = 2 ∨ n = 3 ∨ n = 4 ∨ n = 5 ∨ n = 6 := by omega
  rcases this with rfl | rfl | rfl | rfl | rfl | rfl | rfl <;> decide
def rfV (n : Nat) : Nat → Nat → (Nat → Int32) → (Nat → Int32) → (Nat → Int32) × (Nat → Int32)
  | 0, _, ke, ha => (ke, ha)
  | k + 1, left, ke, ha => rfV n k (left / n) (upd ke k (nI (left % n))) (upd ha (left % n) (ha (left % n) + 1))
def figV (n cd s : Nat) : Nat := cd / n ^ (n - 2 - (s + 1)) % n
theorem rfV_hi (n : Nat) : ∀ (k left : Nat) (ke ha : Nat → Int32) (s : Nat), k ≤ s → (rfV n k left ke ha).1 s = ke s := by
  intro k
  induction k with
  | zero => intro left ke ha s _; rfl
  | succ k ih =>
    intro left ke ha s h
    rw [rfV, ih _ _ _ _ (by omega), pk_un (by omega)]
theorem rfV_lo (n : Nat) : ∀ (k left : Nat) (ke ha : Nat → Int32) (s : Nat), s < k → (rfV n k left ke ha).1 s = nI (left / n ^ (k - (s + 1)) % n) := by
  intro k
  induction k with
  | zero => intro left ke ha s h; omega
  | succ k ih =>
    intro left ke ha s h
    rw [rfV]
    by_cases e : s = k
    · subst e
      rw [rfV_hi _ _ _ _ _ _ (Nat.le_refl _), pk_us]
      simp
    · rw [ih _ _ _ _ (by omega), Nat.div_div_eq_div_mul, ← Nat.pow_succ', show (k - (s + 1)).succ = k + 1 - (s + 1) by omega]
theorem rfV_fig {n cd s : Nat} {ke ha : Nat → Int32} (h : s < n - 2) : (rfV n (n - 2) cd ke ha).1 s = nI (figV n cd s) := rfV_lo n (n - 2) cd ke ha s h
theorem figV_lt {n : Nat} (cd s : Nat) (h : 2 ≤ n) : figV n cd s < n := Nat.mod_lt _ (by omega)
def tlF (ha : Nat → Int32) : Nat → Nat → Nat
  | 0, p => p
  | k + 1, p => if ha p = 1 then p else tlF ha k (p + 1)
def tlV (n : Nat) (ha : Nat → Int32) : Nat := tlF ha (n - 1) 0
theorem tlF_le (ha : Nat → Int32) : ∀ (k p : Nat), p ≤ tlF ha k p ∧ tlF ha k p ≤ p + k := by
  intro k
  induction k with
  | zero => intro p; exact ⟨Nat.le_refl _, Nat.le_refl _⟩
  | succ k ih =>
    intro p
    unfold tlF
    split
    · omega
    · have := ih (p + 1)
      omega
theorem tlV_lt {n : Nat} (ha : Nat → Int32) (h : 2 ≤ n) : tlV n ha < n := by
  have := (tlF_le ha (n - 1) 0).2
  unfold tlV
  omega
def hqV (n : Nat) (K : Nat → Nat) (h0 : Nat → Int32) : Nat → Nat → Int32
  | 0 => h0
  | s + 1 => upd (upd (hqV n K h0 s) (tlV n (hqV n K h0 s)) 0) (K s) (upd (hqV n K h0 s) (tlV n (hqV n K h0 s)) 0 (K s) - 1)
def goW (n : Nat) (K : Nat → Nat) (h0 : Nat → Int32) (go : Nat → Int32) : Nat → Nat → Int32
  | 0 => go
  | s + 1 => upd (goW n K h0 go s) s (nI (tlV n (hqV n K h0 s)))
def h0V (n cd : Nat) (ke ha : Nat → Int32) : Nat → Int32 := (rfV n (n - 2) cd ke (fillA ha 1)).2
def Gn (n cd : Nat) (ke ha : Nat → Int32) (s : Nat) : Nat := tlV n (hqV n (figV n cd) (h0V n cd ke ha) s)
def rdG (n cd : Nat) (go ke ha : Nat → Int32) : Nat → Int32 := goW n (figV n cd) (h0V n cd ke ha) go (n - 2 + 1)
def rdH1 (n cd : Nat) (ke ha : Nat → Int32) : Nat → Int32 := upd (hqV n (figV n cd) (h0V n cd ke ha) (n - 2)) (tlV n (hqV n (figV n cd) (h0V n cd ke ha) (n - 2))) 0
def rdK (n cd : Nat) (ke ha : Nat → Int32) : Nat → Int32 := upd (rfV n (n - 2) cd ke (fillA ha 1)).1 (n - 2) (nI (tlV n (rdH1 n cd ke ha)))
def rdH (n cd : Nat) (ke ha : Nat → Int32) : Nat → Int32 := upd (rdH1 n cd ke ha) (tlV n (rdH1 n cd ke ha)) 0
def Kn (n cd : Nat) (ke ha : Nat → Int32) (s : Nat) : Nat := if s = n - 2 then tlV n (rdH1 n cd ke ha) else figV n cd s
theorem goW_at (n : Nat) (K : Nat → Nat) (h0 go : Nat → Int32) : ∀ (k s : Nat), s < k → goW n K h0 go k s = nI (tlV n (hqV n K h0 s)) := by
  intro k
  induction k with
  | zero => intro s h; omega
  | succ k ih =>
    intro s h
    rw [goW]
    by_cases e : s = k
    · subst e; exact pk_us
    · rw [pk_un e]; exact ih s (by omega)
theorem rdG_n {n cd s : Nat} {go ke ha : Nat → Int32} (h : s ≤ n - 2) : rdG n cd go ke ha s = nI (Gn n cd ke ha s) := goW_at _ _ _ _ _ _ (by omega)
theorem rdK_n {n cd s : Nat} {ke ha : Nat → Int32} (h : s ≤ n - 2) : rdK n cd ke ha s = nI (Kn n cd ke ha s) := by
  unfold rdK Kn
  by_cases e : s = n - 2
  · subst e; rw [pk_us, if_pos rfl]
  · rw [pk_un e, if_neg e]; exact rfV_fig (by omega)
theorem Gn_lt {n : Nat} (cd : Nat) (ke ha : Nat → Int32) (s : Nat) (h : 2 ≤ n) : Gn n cd ke ha s < n := tlV_lt _ h
theorem Kn_lt {n : Nat} (cd : Nat) (ke ha : Nat → Int32) (s : Nat) (h : 2 ≤ n) : Kn n cd ke ha s < n := by
  unfold Kn
  split
  · exact tlV_lt _ h
  · exact figV_lt _ _ h
def jnF (go ke : Nat → Int32) (x y : Int32) (b : Int32) (s : Nat) : Int32 := if b = 0 then (if go s = x then (if ke s = y then 1 else if go s = y then (if ke s = x then 1 else 0) else 0) else if go s = y then (if ke s = x then 1 else 0) else 0) else 1
def jnV (n : Nat) (go ke : Nat → Int32) (x y : Int32) : Int32 := lp (jnF go ke x y) 0 (n - 1) 0
def lwV (d wy : Nat → Nat → Int32) (f k t : Nat) : Nat → Nat → Int32 := u2 (u2 wy f t (d f k + wy k t)) t f (d f k + wy k t)
def lpd {α : Type} (f : α → Nat → α) : Nat → α → α
  | 0, a => a
  | k + 1, a => lpd f k (f a k)
def lyI (d : Nat → Nat → Int32) (G K : Nat → Nat) (s : Nat) (w : Nat → Nat → Int32) (q : Nat) : Nat → Nat → Int32 := lwV d w (G s) (K s) (G q)
def lyS (n : Nat) (d : Nat → Nat → Int32) (G K : Nat → Nat) (w : Nat → Nat → Int32) (s : Nat) : Nat → Nat → Int32 := lp (lyI d G K s) (s + 1) (n - 2 - s) (lwV d (u2 w (G s) (G s) 0) (G s) (K s) (K (n - 2)))
def lyV (n : Nat) (d : Nat → Nat → Int32) (G K : Nat → Nat) (w : Nat → Nat → Int32) : Nat → Nat → Int32 := lpd (lyS n d G K) (n - 1) (u2 w (K (n - 2)) (K (n - 2)) 0)
def fsI (d wy : Nat → Nat → Int32) (i : Nat) (q : Int32 × Int32) (j : Nat) : Int32 × Int32 := if wy i j * q.2 ≤ q.1 * d i j then q else (wy i j, d i j)
def fsO (n : Nat) (d wy : Nat → Nat → Int32) (q : Int32 × Int32) (i : Nat) : Int32 × Int32 := lp (fsI d wy i) (i + 1) (n - (i + 1)) q
def fsV (n : Nat) (d wy : Nat → Nat → Int32) : Int32 × Int32 := lp (fsO n d wy) 0 n (1, 1)
/-- the scratch rows gone, kept, hangs, ways -/
abbrev Sc : Type := (Nat → Int32) × (Nat → Int32) × (Nat → Int32) × (Nat → Nat → Int32)
def laS (n : Nat) (d : Nat → Nat → Int32) (z : Sc) (cd : Nat) : Sc := (rdG n cd z.1 z.2.1 z.2.2.1, rdK n cd z.2.1 z.2.2.1, rdH n cd z.2.1 z.2.2.1, lyV n d (Gn n cd z.2.1 z.2.2.1) (Kn n cd z.2.1 z.2.2.1) z.2.2.2)
def bsF (n : Nat) (d : Nat → Nat → Int32) (q : Int32 × Int32 × Int32 × Int32 × Int32 × Sc) (cd : Nat) : Int32 × Int32 × Int32 × Int32 × Int32 × Sc :=
  if nI cd = 0 then (nI cd, (fsV n d (laS n d q.2.2.2.2.2 cd).2.2.2).1, (fsV n d (laS n d q.2.2.2.2.2 cd).2.2.2).2, (fsV n d (laS n d q.2.2.2.2.2 cd).2.2.2).1, (fsV n d (laS n d q.2.2.2.2.2 cd).2.2.2).2, laS n d q.2.2.2.2.2 cd)
  else if q.2.1 * (fsV n d (laS n d q.2.2.2.2.2 cd).2.2.2).2 ≤ (fsV n d (laS n d q.2.2.2.2.2 cd).2.2.2).1 * q.2.2.1 then (q.1, q.2.1, q.2.2.1, (fsV n d (laS n d q.2.2.2.2.2 cd).2.2.2).1, (fsV n d (laS n d q.2.2.2.2.2 cd).2.2.2).2, laS n d q.2.2.2.2.2 cd)
  else (nI cd, (fsV n d (laS n d q.2.2.2.2.2 cd).2.2.2).1, (fsV n d (laS n d q.2.2.2.2.2 cd).2.2.2).2, (fsV n d (laS n d q.2.2.2.2.2 cd).2.2.2).1, (fsV n d (laS n d q.2.2.2.2.2 cd).2.2.2).2, laS n d q.2.2.2.2.2 cd)
def bsV (n : Nat) (d : Nat → Nat → Int32) (ab be : Int32) (z : Sc) : Int32 × Int32 × Int32 × Int32 × Int32 × Sc := lp (bsF n d) 0 (cmV n) (0, 0, 0, ab, be, z)
def bpF (n : Nat) (d : Nat → Nat → Int32) (q : Int32 × Int32 × Sc) (cd : Nat) : Int32 × Int32 × Sc :=
  if nI cd = 0 then (nI cd, suV n (laS n d q.2.2 cd).2.2.2, laS n d q.2.2 cd)
  else if q.2.1 ≤ suV n (laS n d q.2.2 cd).2.2.2 then (q.1, q.2.1, laS n d q.2.2 cd)
  else (nI cd, suV n (laS n d q.2.2 cd).2.2.2, laS n d q.2.2 cd)
def bpV (n : Nat) (d : Nat → Nat → Int32) (z : Sc) : Int32 × Int32 × Sc := lp (bpF n d) 0 (cmV n) (0, 0, z)
end
section
set_option maxHeartbeats 4000000 in
set_option maxRecDepth 100000 in
theorem c_X1_howMany (l : Launch) (D : va_G) (cyI cO cyZ : ClassId) (ad : Nat → Nat) (fa : Nat) (n : Nat) (d md : Nat → Nat → Int32) (go ke ha : Nat → Int32) (wy : Nat → Nat → Int32) (ab be sr : Int32)  (hn : n ≤ 6) (h2 : 2 ≤ n) : Ct l yX1_howMany (Cond.code yX1_howMany cX1_howMany 3 (some .int) :: wsL_law) ({ frames := 0, cells := 0, slots := 0, locals := 0 } : Room) D (ty3 cyI cO cyZ) 29 ad fa [.ref (ad 16)] (cC cyI cO ad n d md go ke ha wy ab be sr) (cC cyI cO ad n d md go ke ha wy ab be sr) (some (.int (nI (cmV n)))) := by
  refine Ct.of (by decide) (Nat.le_of_ble_eq_true rfl) ?_
  intro p e s m args below meth c A C hr H locs hW ls hl
  have C : Cx p s m args meth c cX1_howMany 3 RX1 D (ty3 cyI cO cyZ) fa A := C
  have hx := C.1
  have hb := C.2.1
  have hl : lv_has ls 3 [(0, .ref (ad 16))] := hl
  refine lv_iconst (v := 1) hx hb dX1_howMany_0 (by decide) ?_
  refine lv_istore_n (lv' := [(1, .int 1), (0, .ref (ad 16))]) hx hb dX1_howMany_1 rfl hl (by decide) rfl (fun ls hl => ?_)
  refine lv_iconst (v := 0) hx hb dX1_howMany_2 (by decide) ?_
  refine lv_istore_n (lv' := [(2, .int 0), (1, .int 1), (0, .ref (ad 16))]) hx hb dX1_howMany_3 rfl hl (by decide) rfl (fun ls hl => ?_)
  have L4 : ∀ (k4 : Nat) (q : Nat) (mm : Nat), q + k4 = n - 2 → lp (fun m _ => m * n) q k4 mm = cmV n → ∀ (H : Heap) (locs : List Loc), Wd D 29 ad (cC cyI cO ad n d md go ke ha wy ab be sr) A s.heap H locs → ∀ ls : Array Slot, lv_has ls 3 [(2, .int (nI q)), (0, .ref (ad 16)), (1, .int (nI mm))] → W p l e ({ frames := 0, cells := 0, slots := 0, locals := 0 } : Room) s m args below meth c H locs 0 0 (MQ below (uQ D 29 ad (cC cyI cO ad n d md go ke ha wy ab be sr) (some (.int (nI (cmV n)))) A) args s 0 0 A) (F0 m 4 ls []) := by
    intro k4
    induction k4 with
    | zero =>
      intro q mm hq r4 H locs hW ls hl
      refine lv_iload_n hx hb dX1_howMany_4 rfl (lv_at hl 0 rfl) ?_
      refine lv_aload_n hx hb dX1_howMany_5 rfl (lv_at hl 1 rfl) ?_
      refine u_get C hW inlX1 (by decide) cC_16 rfl 0 (by decide) mw_47 rfl dX1_howMany_6 ?_
      refine u_getN C hW inlX3 (by decide) cC_1 rfl 2 (by decide) (List.mem_of_getElem? (i := 8) rfl) rfl dX1_howMany_9 ?_
      refine lv_iconst (v := 2) hx hb dX1_howMany_12 (by decide) ?_
      refine lv_isub hx hb dX1_howMany_13 ?_
      refine u_top (show (nI n) - 2 = nI (n - 2) from pk_sub (a := n) (b := 2) (by omega)) ?_
      refine lv_icmp_ge (tgt := 33) hx hb dX1_howMany_14 (by decide) (fun _ => ?_) (fun c9 => absurd (nI_le (by omega) (by omega)) c9)
      refine lv_iload_n hx hb dX1_howMany_33 rfl (lv_at hl 2 rfl) ?_
      exact u_iret C hr hW dX1_howMany_34 (by rw [← r4]; rfl) rfl
    | succ k4 ih4 =>
      intro q mm hq r4 H locs hW ls hl
      refine lv_iload_n hx hb dX1_howMany_4 rfl (lv_at hl 0 rfl) ?_
      refine lv_aload_n hx hb dX1_howMany_5 rfl (lv_at hl 1 rfl) ?_
      refine u_get C hW inlX1 (by decide) cC_16 rfl 0 (by decide) mw_47 rfl dX1_howMany_6 ?_
      refine u_getN C hW inlX3 (by decide) cC_1 rfl 2 (by decide) (List.mem_of_getElem? (i := 8) rfl) rfl dX1_howMany_9 ?_
      refine lv_iconst (v := 2) hx hb dX1_howMany_12 (by decide) ?_
      refine lv_isub hx hb dX1_howMany_13 ?_
      refine u_top (show (nI n) - 2 = nI (n - 2) from pk_sub (a := n) (b := 2) (by omega)) ?_
      refine lv_icmp_ge (tgt := 33) hx hb dX1_howMany_14 (by decide) (fun c9 => absurd c9 (nI_ge (by omega) (by omega))) (fun _ => ?_)
      refine lv_iload_n hx hb dX1_howMany_17 rfl (lv_at hl 2 rfl) ?_
      refine lv_aload_n hx hb dX1_howMany_18 rfl (lv_at hl 1 rfl) ?_
      refine u_get C hW inlX1 (by decide) cC_16 rfl 0 (by decide) mw_47 rfl dX1_howMany_19 ?_
      refine u_getN C hW inlX3 (by decide) cC_1 rfl 2 (by decide) (List.mem_of_getElem? (i := 8) rfl) rfl dX1_howMany_22 ?_
      refine lv_imul hx hb dX1_howMany_25 ?_
      refine u_top (show (nI mm) * (nI n) = nI (mm * n) from pk_mul mm n) ?_
      refine lv_istore_n (lv' := [(1, .int (nI (mm * n))), (2, .int (nI q)), (0, .ref (ad 16))]) hx hb dX1_howMany_26 rfl hl (by decide) rfl (fun ls hl => ?_)
      refine lv_iinc (v := nI (q + 1)) (lv' := [(2, .int (nI (q + 1))), (1, .int (nI (mm * n))), (0, .ref (ad 16))]) hx hb dX1_howMany_27 hl (k := 1) rfl (nI_1 _) (by decide) rfl (fun ls hl => ?_)
      refine lv_goto (tgt := 4) hx hb dX1_howMany_30 (by decide) ?_
      exact ih4  (q + 1) (mm * n) (by omega) (by first | exact r4 | (have h9 := r4; simp only [lp_s, lp_0] at h9; exact h9)) H locs hW ls (lv_sub hl [0, 2, 1] rfl)
  exact L4 (n - 2) 0 1 (by omega) rfl H locs hW ls (lv_sub hl [0, 2, 1] rfl)
set_option maxHeartbeats 4000000 in
set_option maxRecDepth 100000 in
theorem c_X1_readFigures (l : Launch) (D : va_G) (cyI cO cyZ : ClassId) (ad : Nat → Nat) (fa : Nat) (n : Nat) (d md : Nat → Nat → Int32) (go ke ha : Nat → Int32) (wy : Nat → Nat → Int32) (ab be sr : Int32) (cd : Nat) (hn : n ≤ 6) (h2 : 2 ≤ n) (hcd : cd < 2 ^ 31) : Ct l yX1_readFigures (Cond.code yX1_readFigures cX1_readFigures 4 none :: wsL_law) ({ frames := 1, cells := 0, slots := 0, locals := 23 } : Room) D (ty3 cyI cO cyZ) 29 ad fa [.ref (ad 16), .int (nI cd)] (cC cyI cO ad n d md go ke ha wy ab be sr) (cC cyI cO ad n d md go ((rfV n (n - 2) cd ke (fillA ha 1)).1) ((rfV n (n - 2) cd ke (fillA ha 1)).2) wy ab be sr) (none) := by
  refine Ct.of (by decide) (Nat.le_of_ble_eq_true rfl) ?_
  intro p e s m args below meth c A C hr H locs hW ls hl
  have C : Cx p s m args meth c cX1_readFigures 4 RX1 D (ty3 cyI cO cyZ) fa A := C
  have hx := C.1
  have hb := C.2.1
  have hl : lv_has ls 4 [(0, .ref (ad 16)), (1, .int (nI cd))] := hl
  refine lv_aload_n hx hb dX1_readFigures_0 rfl (lv_at hl 0 rfl) ?_
  refine u_get C hW inlX1 (by decide) cC_16 rfl 3 (by decide) mw_42 rfl dX1_readFigures_1 ?_
  refine lv_iconst (v := 1) hx hb dX1_readFigures_4 (by decide) ?_
  refine u_callS (cf' := cC cyI cO ad n d md go ke (fillA ha 1) wy ab be sr) (As := [.ref (ad 19), .int 1]) (rest := []) (st1 := []) C hW (c_fillA l D cyI cO cyZ ad fa n d md go ke ha wy ab be sr 1 ) ms_yJ7_fill_53178 mw_302 rfl ⟨rfl, rfl, Nat.le_of_ble_eq_true rfl, Nat.le_of_ble_eq_true rfl⟩ hl (Nat.le_of_ble_eq_true rfl) rfl rfl dX1_readFigures_5 (fun H locs hW => ?_)
  refine lv_iload_n hx hb dX1_readFigures_8 rfl (lv_at hl 1 rfl) ?_
  refine lv_istore_n (lv' := [(2, .int (nI cd)), (0, .ref (ad 16)), (1, .int (nI cd))]) hx hb dX1_readFigures_9 rfl hl (by decide) rfl (fun ls hl => ?_)
  refine lv_aload_n hx hb dX1_readFigures_10 rfl (lv_at hl 1 rfl) ?_
  refine u_get C hW inlX1 (by decide) cC_16 rfl 0 (by decide) mw_47 rfl dX1_readFigures_11 ?_
  refine u_getN C hW inlX3 (by decide) cC_1 rfl 2 (by decide) (List.mem_of_getElem? (i := 8) rfl) rfl dX1_readFigures_14 ?_
  refine lv_iconst (v := 3) hx hb dX1_readFigures_17 (by decide) ?_
  refine lv_isub hx hb dX1_readFigures_18 ?_
  refine u_top (show (nI n) - 3 = nI (n - 2) - 1 from nI_m3 h2) ?_
  refine lv_istore_n (lv' := [(3, .int (nI (n - 2) - 1)), (2, .int (nI cd)), (0, .ref (ad 16)), (1, .int (nI cd))]) hx hb dX1_readFigures_19 rfl hl (by decide) rfl (fun ls hl => ?_)
  have L20 : ∀ (k20 : Nat) (left : Nat) (kk : Nat → Int32) (hh : Nat → Int32), k20 ≤ n - 2 → left < 2 ^ 31 → rfV n k20 left kk hh = rfV n (n - 2) cd ke (fillA ha 1) → ∀ (H : Heap) (locs : List Loc), Wd D 29 ad (cC cyI cO ad n d md go kk hh wy ab be sr) A s.heap H locs → ∀ ls : Array Slot, lv_has ls 4 [(0, .ref (ad 16)), (1, .int (nI cd)), (2, .int (nI left)), (3, .int (nI k20 - 1))] → W p l e ({ frames := 1, cells := 0, slots := 0, locals := 23 } : Room) s m args below meth c H locs 0 0 (MQ below (uQ D 29 ad (cC cyI cO ad n d md go ((rfV n (n - 2) cd ke (fillA ha 1)).1) ((rfV n (n - 2) cd ke (fillA ha 1)).2) wy ab be sr) (none) A) args s 0 0 A) (F0 m 20 ls []) := by
    intro k20
    induction k20 with
    | zero =>
      intro left kk hh hk hL r20 H locs hW ls hl
      refine lv_iload_n hx hb dX1_readFigures_20 rfl (lv_at hl 3 rfl) ?_
      refine lv_if_lt (tgt := 70) hx hb dX1_readFigures_21 (by decide) (fun _ => ?_) (fun c9 => absurd (by decide) c9)
      exact u_vret C hr hW dX1_readFigures_70 (by rw [← r20]; rfl)
    | succ k20 ih20 =>
      intro left kk hh hk hL r20 H locs hW ls hl
      rw [show nI (k20 + 1) - 1 = nI k20 from nI_pred k20] at hl
      have hm : left % n < n := Nat.mod_lt _ (by omega)
      have hdv : left / n ≤ left := Nat.div_le_self _ _
      refine lv_iload_n hx hb dX1_readFigures_20 rfl (lv_at hl 3 rfl) ?_
      refine lv_if_lt (tgt := 70) hx hb dX1_readFigures_21 (by decide) (fun c9 => absurd c9 (nI_pos (by omega))) (fun _ => ?_)
      refine lv_aload_n hx hb dX1_readFigures_24 rfl (lv_at hl 0 rfl) ?_
      refine u_get C hW inlX1 (by decide) cC_16 rfl 2 (by decide) mw_41 rfl dX1_readFigures_25 ?_
      refine lv_iload_n hx hb dX1_readFigures_28 rfl (lv_at hl 3 rfl) ?_
      refine lv_iload_n hx hb dX1_readFigures_29 rfl (lv_at hl 2 rfl) ?_
      refine lv_aload_n hx hb dX1_readFigures_30 rfl (lv_at hl 0 rfl) ?_
      refine u_get C hW inlX1 (by decide) cC_16 rfl 0 (by decide) mw_47 rfl dX1_readFigures_31 ?_
      refine u_getN C hW inlX3 (by decide) cC_1 rfl 2 (by decide) (List.mem_of_getElem? (i := 8) rfl) rfl dX1_readFigures_34 ?_
      refine lv_irem hx hb dX1_readFigures_37 (nI_ne0 (by omega) (by omega)) ?_
      refine u_top (show (nI left) - (nI left) / (nI n) * (nI n) = nI (left % n) from pk_rem (by omega) (by omega) (by omega)) ?_
      refine u_iast (cf' := cC cyI cO ad n d md go (upd kk k20 (nI (left % n))) hh wy ab be sr) C hW (by decide) cC_18 0 rfl k20 rfl (by omega) (by decide) cC_s18 dX1_readFigures_38 (fun H locs hW => ?_)
      refine lv_iload_n hx hb dX1_readFigures_39 rfl (lv_at hl 2 rfl) ?_
      refine lv_aload_n hx hb dX1_readFigures_40 rfl (lv_at hl 0 rfl) ?_
      refine u_get C hW inlX1 (by decide) cC_16 rfl 0 (by decide) mw_47 rfl dX1_readFigures_41 ?_
      refine u_getN C hW inlX3 (by decide) cC_1 rfl 2 (by decide) (List.mem_of_getElem? (i := 8) rfl) rfl dX1_readFigures_44 ?_
      refine lv_idiv hx hb dX1_readFigures_47 (nI_ne0 (by omega) (by omega)) ?_
      refine u_top (show (nI left) / (nI n) = nI (left / n) from pk_div (by omega) (by omega) (by omega)) ?_
      refine lv_istore_n (lv' := [(2, .int (nI (left / n))), (0, .ref (ad 16)), (1, .int (nI cd)), (3, .int (nI k20))]) hx hb dX1_readFigures_48 rfl hl (by decide) rfl (fun ls hl => ?_)
      refine lv_aload_n hx hb dX1_readFigures_49 rfl (lv_at hl 1 rfl) ?_
      refine u_get C hW inlX1 (by decide) cC_16 rfl 3 (by decide) mw_42 rfl dX1_readFigures_50 ?_
      refine lv_aload_n hx hb dX1_readFigures_53 rfl (lv_at hl 1 rfl) ?_
      refine u_get C hW inlX1 (by decide) cC_16 rfl 2 (by decide) mw_41 rfl dX1_readFigures_54 ?_
      refine lv_iload_n hx hb dX1_readFigures_57 rfl (lv_at hl 3 rfl) ?_
      refine u_iald C hW (by decide) cC_18 0 rfl k20 rfl (by omega) (by decide) dX1_readFigures_58 ?_
      refine u_top (show upd kk k20 (nI (left % n)) k20 = nI (left % n) from pk_us) ?_
      refine lv_dup2_11 hx hb dX1_readFigures_59 rfl rfl ?_
      refine u_iald C hW (by decide) cC_19 0 rfl (left % n) rfl (by omega) (by decide) dX1_readFigures_60 ?_
      refine lv_iconst (v := 1) hx hb dX1_readFigures_61 (by decide) ?_
      refine lv_iadd hx hb dX1_readFigures_62 ?_
      refine u_iast (cf' := cC cyI cO ad n d md go (upd kk k20 (nI (left % n))) (upd hh (left % n) ((hh (left % n)) + 1)) wy ab be sr) C hW (by decide) cC_19 0 rfl (left % n) rfl (by omega) (by decide) cC_s19 dX1_readFigures_63 (fun H locs hW => ?_)
      refine lv_iinc (v := nI k20 - 1) (lv' := [(3, .int (nI k20 - 1)), (2, .int (nI (left / n))), (0, .ref (ad 16)), (1, .int (nI cd))]) hx hb dX1_readFigures_64 hl (k := 3) rfl (nI_dn k20) (by decide) rfl (fun ls hl => ?_)
      refine lv_goto (tgt := 20) hx hb dX1_readFigures_67 (by decide) ?_
      exact ih20  (left / n) (upd kk k20 (nI (left % n))) (upd hh (left % n) ((hh (left % n)) + 1)) (by omega) (by omega) r20 H locs hW ls (lv_sub hl [2, 3, 1, 0] rfl)
  exact L20 (n - 2) cd ke (fillA ha 1) (by omega) (by omega) rfl H locs hW ls (lv_sub hl [2, 3, 1, 0] rfl)
set_option maxHeartbeats 4000000 in
set_option maxRecDepth 100000 in
theorem c_X1_takeLeast (l : Launch) (D : va_G) (cyI cO cyZ : ClassId) (ad : Nat → Nat) (fa : Nat) (n : Nat) (d md : Nat → Nat → Int32) (go ke ha : Nat → Int32) (wy : Nat → Nat → Int32) (ab be sr : Int32)  (hn : n ≤ 6) (h2 : 2 ≤ n) : Ct l yX1_takeLeast (Cond.code yX1_takeLeast cX1_takeLeast 2 (some .int) :: wsL_law) ({ frames := 0, cells := 0, slots := 0, locals := 0 } : Room) D (ty3 cyI cO cyZ) 29 ad fa [.ref (ad 16)] (cC cyI cO ad n d md go ke ha wy ab be sr) (cC cyI cO ad n d md go ke (upd ha (tlV n ha) 0) wy ab be sr) (some (.int (nI (tlV n ha)))) := by
  refine Ct.of (by decide) (Nat.le_of_ble_eq_true rfl) ?_
  intro p e s m args below meth c A C hr H locs hW ls hl
  have C : Cx p s m args meth c cX1_takeLeast 2 RX1 D (ty3 cyI cO cyZ) fa A := C
  have hx := C.1
  have hb := C.2.1
  have hl : lv_has ls 2 [(0, .ref (ad 16))] := hl
  refine lv_iconst (v := 0) hx hb dX1_takeLeast_0 (by decide) ?_
  refine lv_istore_n (lv' := [(1, .int 0), (0, .ref (ad 16))]) hx hb dX1_takeLeast_1 rfl hl (by decide) rfl (fun ls hl => ?_)
  have L2 : ∀ (k2 : Nat) (q : Nat), q + k2 = n - 1 → tlF ha k2 q = tlV n ha → ∀ (H : Heap) (locs : List Loc), Wd D 29 ad (cC cyI cO ad n d md go ke ha wy ab be sr) A s.heap H locs → ∀ ls : Array Slot, lv_has ls 2 [(1, .int (nI q)), (0, .ref (ad 16))] → W p l e ({ frames := 0, cells := 0, slots := 0, locals := 0 } : Room) s m args below meth c H locs 0 0 (MQ below (uQ D 29 ad (cC cyI cO ad n d md go ke (upd ha (tlV n ha) 0) wy ab be sr) (some (.int (nI (tlV n ha)))) A) args s 0 0 A) (F0 m 2 ls []) := by
    intro k2
    induction k2 with
    | zero =>
      intro q hq r2 H locs hW ls hl
      refine lv_iload_n hx hb dX1_takeLeast_2 rfl (lv_at hl 0 rfl) ?_
      refine lv_aload_n hx hb dX1_takeLeast_3 rfl (lv_at hl 1 rfl) ?_
      refine u_get C hW inlX1 (by decide) cC_16 rfl 0 (by decide) mw_47 rfl dX1_takeLeast_4 ?_
      refine u_getN C hW inlX3 (by decide) cC_1 rfl 2 (by decide) (List.mem_of_getElem? (i := 8) rfl) rfl dX1_takeLeast_7 ?_
      refine lv_iconst (v := 1) hx hb dX1_takeLeast_10 (by decide) ?_
      refine lv_isub hx hb dX1_takeLeast_11 ?_
      refine u_top (show (nI n) - 1 = nI (n - 1) from pk_sub (a := n) (b := 1) (by omega)) ?_
      refine lv_icmp_ge (tgt := 31) hx hb dX1_takeLeast_12 (by decide) (fun _ => ?_) (fun c9 => absurd (nI_le (by omega) (by omega)) c9)
      refine lv_aload_n hx hb dX1_takeLeast_31 rfl (lv_at hl 1 rfl) ?_
      refine u_get C hW inlX1 (by decide) cC_16 rfl 3 (by decide) mw_42 rfl dX1_takeLeast_32 ?_
      refine lv_iload_n hx hb dX1_takeLeast_35 rfl (lv_at hl 0 rfl) ?_
      refine lv_iconst (v := 0) hx hb dX1_takeLeast_36 (by decide) ?_
      refine u_iast (cf' := cC cyI cO ad n d md go ke (upd ha q 0) wy ab be sr) C hW (by decide) cC_19 0 rfl q rfl (by omega) (by decide) cC_s19 dX1_takeLeast_37 (fun H locs hW => ?_)
      refine lv_iload_n hx hb dX1_takeLeast_38 rfl (lv_at hl 0 rfl) ?_
      exact u_iret C hr hW dX1_takeLeast_39 (by have h9 := r2; simp only [tlF] at h9; rw [← h9]) (by have h9 := r2; simp only [tlF] at h9; rw [← h9])
    | succ k2 ih2 =>
      intro q hq r2 H locs hW ls hl
      refine lv_iload_n hx hb dX1_takeLeast_2 rfl (lv_at hl 0 rfl) ?_
      refine lv_aload_n hx hb dX1_takeLeast_3 rfl (lv_at hl 1 rfl) ?_
      refine u_get C hW inlX1 (by decide) cC_16 rfl 0 (by decide) mw_47 rfl dX1_takeLeast_4 ?_
      refine u_getN C hW inlX3 (by decide) cC_1 rfl 2 (by decide) (List.mem_of_getElem? (i := 8) rfl) rfl dX1_takeLeast_7 ?_
      refine lv_iconst (v := 1) hx hb dX1_takeLeast_10 (by decide) ?_
      refine lv_isub hx hb dX1_takeLeast_11 ?_
      refine u_top (show (nI n) - 1 = nI (n - 1) from pk_sub (a := n) (b := 1) (by omega)) ?_
      refine lv_icmp_ge (tgt := 31) hx hb dX1_takeLeast_12 (by decide) (fun c9 => absurd c9 (nI_ge (by omega) (by omega))) (fun _ => ?_)
      refine lv_aload_n hx hb dX1_takeLeast_15 rfl (lv_at hl 1 rfl) ?_
      refine u_get C hW inlX1 (by decide) cC_16 rfl 3 (by decide) mw_42 rfl dX1_takeLeast_16 ?_
      refine lv_iload_n hx hb dX1_takeLeast_19 rfl (lv_at hl 0 rfl) ?_
      refine u_iald C hW (by decide) cC_19 0 rfl q rfl (by omega) (by decide) dX1_takeLeast_20 ?_
      refine lv_iconst (v := 1) hx hb dX1_takeLeast_21 (by decide) ?_
      refine lv_icmp_eq (tgt := 31) hx hb dX1_takeLeast_22 (by decide) (fun c22_1 => ?_) (fun c22_1 => ?_)
      · skip
        refine lv_aload_n hx hb dX1_takeLeast_31 rfl (lv_at hl 1 rfl) ?_
        refine u_get C hW inlX1 (by decide) cC_16 rfl 3 (by decide) mw_42 rfl dX1_takeLeast_32 ?_
        refine lv_iload_n hx hb dX1_takeLeast_35 rfl (lv_at hl 0 rfl) ?_
        refine lv_iconst (v := 0) hx hb dX1_takeLeast_36 (by decide) ?_
        refine u_iast (cf' := cC cyI cO ad n d md go ke (upd ha q 0) wy ab be sr) C hW (by decide) cC_19 0 rfl q rfl (by omega) (by decide) cC_s19 dX1_takeLeast_37 (fun H locs hW => ?_)
        refine lv_iload_n hx hb dX1_takeLeast_38 rfl (lv_at hl 0 rfl) ?_
        exact u_iret C hr hW dX1_takeLeast_39 (by have h9 := r2; simp only [tlF, if_pos c22_1] at h9; rw [← h9]) (by have h9 := r2; simp only [tlF, if_pos c22_1] at h9; rw [← h9])
      · skip
        refine lv_iinc (v := nI (q + 1)) (lv' := [(1, .int (nI (q + 1))), (0, .ref (ad 16))]) hx hb dX1_takeLeast_25 hl (k := 0) rfl (nI_1 _) (by decide) rfl (fun ls hl => ?_)
        refine lv_goto (tgt := 2) hx hb dX1_takeLeast_28 (by decide) ?_
        exact ih2  (q + 1) (by omega) (by first | exact r2 | (have h9 := r2; simp only [lp_s, lp_0, tlF, if_neg c22_1] at h9; exact h9)) H locs hW ls (lv_sub hl [0, 1] rfl)
  exact L2 (n - 1) 0 (by omega) rfl H locs hW ls (lv_sub hl [0, 1] rfl)
set_option maxHeartbeats 4000000 in
set_option maxRecDepth 100000 in
theorem c_X1_read (l : Launch) (D : va_G) (cyI cO cyZ : ClassId) (ad : Nat → Nat) (fa : Nat) (n : Nat) (d md : Nat → Nat → Int32) (go ke ha : Nat → Int32) (wy : Nat → Nat → Int32) (ab be sr : Int32) (cd : Nat) (hn : n ≤ 6) (h2 : 2 ≤ n) (hcd : cd < 2 ^ 31) : Ct l yX1_read (Cond.code yX1_read cX1_read 4 none :: wsL_law) ({ frames := 2, cells := 0, slots := 0, locals := 46 } : Room) D (ty3 cyI cO cyZ) 29 ad fa [.ref (ad 16), .int (nI cd)] (cC cyI cO ad n d md go ke ha wy ab be sr) (cC cyI cO ad n d md (rdG n cd go ke ha) (rdK n cd ke ha) (rdH n cd ke ha) wy ab be sr) (none) := by
  refine Ct.of (by decide) (Nat.le_of_ble_eq_true rfl) ?_
  intro p e s m args below meth c A C hr H locs hW ls hl
  have C : Cx p s m args meth c cX1_read 4 RX1 D (ty3 cyI cO cyZ) fa A := C
  have hx := C.1
  have hb := C.2.1
  have hl : lv_has ls 4 [(0, .ref (ad 16)), (1, .int (nI cd))] := hl
  refine lv_aload_n hx hb dX1_read_0 rfl (lv_at hl 0 rfl) ?_
  refine u_get C hW inlX1 (by decide) cC_16 rfl 0 (by decide) mw_47 rfl dX1_read_1 ?_
  refine u_getN C hW inlX3 (by decide) cC_1 rfl 2 (by decide) (List.mem_of_getElem? (i := 8) rfl) rfl dX1_read_4 ?_
  refine lv_iconst (v := 2) hx hb dX1_read_7 (by decide) ?_
  refine lv_isub hx hb dX1_read_8 ?_
  refine u_top (show (nI n) - 2 = nI (n - 2) from pk_sub (a := n) (b := 2) (by omega)) ?_
  refine lv_istore_n (lv' := [(2, .int (nI (n - 2))), (0, .ref (ad 16)), (1, .int (nI cd))]) hx hb dX1_read_9 rfl hl (by decide) rfl (fun ls hl => ?_)
  refine lv_aload_n hx hb dX1_read_10 rfl (lv_at hl 1 rfl) ?_
  refine lv_iload_n hx hb dX1_read_11 rfl (lv_at hl 2 rfl) ?_
  refine u_callV (cf' := cC cyI cO ad n d md go ((rfV n (n - 2) cd ke (fillA ha 1)).1) ((rfV n (n - 2) cd ke (fillA ha 1)).2) wy ab be sr) (As := [.int (nI cd)]) (rest := []) (st1 := []) C hW (c_X1_readFigures l D cyI cO cyZ ad fa n d md go ke ha wy ab be sr cd (by omega) (by omega) (by omega)) mv_yX1_readFigures mw_298 rfl ⟨rfl, rfl, Nat.le_of_ble_eq_true rfl, Nat.le_of_ble_eq_true rfl⟩ (by decide) cC_16 rfl rfl hl (Nat.le_of_ble_eq_true rfl) rfl rfl dX1_read_12 (fun H locs hW => ?_)
  refine lv_iconst (v := 0) hx hb dX1_read_15 (by decide) ?_
  refine lv_istore_n (lv' := [(3, .int 0), (2, .int (nI (n - 2))), (0, .ref (ad 16)), (1, .int (nI cd))]) hx hb dX1_read_16 rfl hl (by decide) rfl (fun ls hl => ?_)
  have L17 : ∀ (k17 : Nat) (q : Nat), q + k17 = n - 2 → ∀ (H : Heap) (locs : List Loc), Wd D 29 ad (cC cyI cO ad n d md (goW n (figV n cd) (h0V n cd ke ha) go q) ((rfV n (n - 2) cd ke (fillA ha 1)).1) (hqV n (figV n cd) (h0V n cd ke ha) q) wy ab be sr) A s.heap H locs → ∀ ls : Array Slot, lv_has ls 4 [(3, .int (nI q)), (0, .ref (ad 16)), (2, .int (nI (n - 2)))] → W p l e ({ frames := 2, cells := 0, slots := 0, locals := 46 } : Room) s m args below meth c H locs 0 0 (MQ below (uQ D 29 ad (cC cyI cO ad n d md (rdG n cd go ke ha) (rdK n cd ke ha) (rdH n cd ke ha) wy ab be sr) (none) A) args s 0 0 A) (F0 m 17 ls []) := by
    intro k17
    induction k17 with
    | zero =>
      intro q hq H locs hW ls hl
      obtain rfl : q = n - 2 := by omega
      have ht1 := tlV_lt (hqV n (figV n cd) (h0V n cd ke ha) (n - 2)) h2
      refine lv_iload_n hx hb dX1_read_17 rfl (lv_at hl 0 rfl) ?_
      refine lv_iload_n hx hb dX1_read_18 rfl (lv_at hl 2 rfl) ?_
      refine lv_icmp_ge (tgt := 53) hx hb dX1_read_19 (by decide) (fun _ => ?_) (fun c9 => absurd (nI_le (by omega) (by omega)) c9)
      refine lv_aload_n hx hb dX1_read_53 rfl (lv_at hl 1 rfl) ?_
      refine u_get C hW inlX1 (by decide) cC_16 rfl 1 (by decide) mw_40 rfl dX1_read_54 ?_
      refine lv_iload_n hx hb dX1_read_57 rfl (lv_at hl 2 rfl) ?_
      refine lv_aload_n hx hb dX1_read_58 rfl (lv_at hl 1 rfl) ?_
      refine u_callV (cf' := cC cyI cO ad n d md (goW n (figV n cd) (h0V n cd ke ha) go (n - 2)) ((rfV n (n - 2) cd ke (fillA ha 1)).1) (upd (hqV n (figV n cd) (h0V n cd ke ha) (n - 2)) (tlV n (hqV n (figV n cd) (h0V n cd ke ha) (n - 2))) 0) wy ab be sr) (As := []) (rest := [.int (nI (n - 2)), .ref (ad 17)]) (st1 := [.int (nI (tlV n (hqV n (figV n cd) (h0V n cd ke ha) (n - 2)))), .int (nI (n - 2)), .ref (ad 17)]) C hW (c_X1_takeLeast l D cyI cO cyZ ad fa n d md (goW n (figV n cd) (h0V n cd ke ha) go (n - 2)) ((rfV n (n - 2) cd ke (fillA ha 1)).1) (hqV n (figV n cd) (h0V n cd ke ha) (n - 2)) wy ab be sr  (by omega) (by omega)) mv_yX1_takeLeast mw_303 rfl ⟨rfl, rfl, Nat.le_of_ble_eq_true rfl, Nat.le_of_ble_eq_true rfl⟩ (by decide) cC_16 rfl rfl hl (Nat.le_of_ble_eq_true rfl) rfl rfl dX1_read_59 (fun H locs hW => ?_)
      refine u_iast (cf' := cC cyI cO ad n d md (upd (goW n (figV n cd) (h0V n cd ke ha) go (n - 2)) (n - 2) (nI (tlV n (hqV n (figV n cd) (h0V n cd ke ha) (n - 2))))) ((rfV n (n - 2) cd ke (fillA ha 1)).1) (upd (hqV n (figV n cd) (h0V n cd ke ha) (n - 2)) (tlV n (hqV n (figV n cd) (h0V n cd ke ha) (n - 2))) 0) wy ab be sr) C hW (by decide) cC_17 0 rfl (n - 2) rfl (by omega) (by decide) cC_s17 dX1_read_62 (fun H locs hW => ?_)
      refine lv_aload_n hx hb dX1_read_63 rfl (lv_at hl 1 rfl) ?_
      refine u_get C hW inlX1 (by decide) cC_16 rfl 2 (by decide) mw_41 rfl dX1_read_64 ?_
      refine lv_iload_n hx hb dX1_read_67 rfl (lv_at hl 2 rfl) ?_
      refine lv_aload_n hx hb dX1_read_68 rfl (lv_at hl 1 rfl) ?_
      refine u_callV (cf' := cC cyI cO ad n d md (upd (goW n (figV n cd) (h0V n cd ke ha) go (n - 2)) (n - 2) (nI (tlV n (hqV n (figV n cd) (h0V n cd ke ha) (n - 2))))) ((rfV n (n - 2) cd ke (fillA ha 1)).1) (upd (upd (hqV n (figV n cd) (h0V n cd ke ha) (n - 2)) (tlV n (hqV n (figV n cd) (h0V n cd ke ha) (n - 2))) 0) (tlV n (upd (hqV n (figV n cd) (h0V n cd ke ha) (n - 2)) (tlV n (hqV n (figV n cd) (h0V n cd ke ha) (n - 2))) 0)) 0) wy ab be sr) (As := []) (rest := [.int (nI (n - 2)), .ref (ad 18)]) (st1 := [.int (nI (tlV n (upd (hqV n (figV n cd) (h0V n cd ke ha) (n - 2)) (tlV n (hqV n (figV n cd) (h0V n cd ke ha) (n - 2))) 0))), .int (nI (n - 2)), .ref (ad 18)]) C hW (c_X1_takeLeast l D cyI cO cyZ ad fa n d md (upd (goW n (figV n cd) (h0V n cd ke ha) go (n - 2)) (n - 2) (nI (tlV n (hqV n (figV n cd) (h0V n cd ke ha) (n - 2))))) ((rfV n (n - 2) cd ke (fillA ha 1)).1) (upd (hqV n (figV n cd) (h0V n cd ke ha) (n - 2)) (tlV n (hqV n (figV n cd) (h0V n cd ke ha) (n - 2))) 0) wy ab be sr  (by omega) (by omega)) mv_yX1_takeLeast mw_303 rfl ⟨rfl, rfl, Nat.le_of_ble_eq_true rfl, Nat.le_of_ble_eq_true rfl⟩ (by decide) cC_16 rfl rfl hl (Nat.le_of_ble_eq_true rfl) rfl rfl dX1_read_69 (fun H locs hW => ?_)
      refine u_iast (cf' := cC cyI cO ad n d md (upd (goW n (figV n cd) (h0V n cd ke ha) go (n - 2)) (n - 2) (nI (tlV n (hqV n (figV n cd) (h0V n cd ke ha) (n - 2))))) (upd ((rfV n (n - 2) cd ke (fillA ha 1)).1) (n - 2) (nI (tlV n (upd (hqV n (figV n cd) (h0V n cd ke ha) (n - 2)) (tlV n (hqV n (figV n cd) (h0V n cd ke ha) (n - 2))) 0)))) (upd (upd (hqV n (figV n cd) (h0V n cd ke ha) (n - 2)) (tlV n (hqV n (figV n cd) (h0V n cd ke ha) (n - 2))) 0) (tlV n (upd (hqV n (figV n cd) (h0V n cd ke ha) (n - 2)) (tlV n (hqV n (figV n cd) (h0V n cd ke ha) (n - 2))) 0)) 0) wy ab be sr) C hW (by decide) cC_18 0 rfl (n - 2) rfl (by omega) (by decide) cC_s18 dX1_read_72 (fun H locs hW => ?_)
      exact u_vret C hr hW dX1_read_73 rfl
    | succ k17 ih17 =>
      intro q hq H locs hW ls hl
      have hf := figV_lt cd q h2
      refine lv_iload_n hx hb dX1_read_17 rfl (lv_at hl 0 rfl) ?_
      refine lv_iload_n hx hb dX1_read_18 rfl (lv_at hl 2 rfl) ?_
      refine lv_icmp_ge (tgt := 53) hx hb dX1_read_19 (by decide) (fun c9 => absurd c9 (nI_ge (by omega) (by omega))) (fun _ => ?_)
      refine lv_aload_n hx hb dX1_read_22 rfl (lv_at hl 1 rfl) ?_
      refine u_get C hW inlX1 (by decide) cC_16 rfl 1 (by decide) mw_40 rfl dX1_read_23 ?_
      refine lv_iload_n hx hb dX1_read_26 rfl (lv_at hl 0 rfl) ?_
      refine lv_aload_n hx hb dX1_read_27 rfl (lv_at hl 1 rfl) ?_
      refine u_callV (cf' := cC cyI cO ad n d md (goW n (figV n cd) (h0V n cd ke ha) go q) ((rfV n (n - 2) cd ke (fillA ha 1)).1) (upd (hqV n (figV n cd) (h0V n cd ke ha) q) (tlV n (hqV n (figV n cd) (h0V n cd ke ha) q)) 0) wy ab be sr) (As := []) (rest := [.int (nI q), .ref (ad 17)]) (st1 := [.int (nI (tlV n (hqV n (figV n cd) (h0V n cd ke ha) q))), .int (nI q), .ref (ad 17)]) C hW (c_X1_takeLeast l D cyI cO cyZ ad fa n d md (goW n (figV n cd) (h0V n cd ke ha) go q) ((rfV n (n - 2) cd ke (fillA ha 1)).1) (hqV n (figV n cd) (h0V n cd ke ha) q) wy ab be sr  (by omega) (by omega)) mv_yX1_takeLeast mw_303 rfl ⟨rfl, rfl, Nat.le_of_ble_eq_true rfl, Nat.le_of_ble_eq_true rfl⟩ (by decide) cC_16 rfl rfl hl (Nat.le_of_ble_eq_true rfl) rfl rfl dX1_read_28 (fun H locs hW => ?_)
      refine u_iast (cf' := cC cyI cO ad n d md (upd (goW n (figV n cd) (h0V n cd ke ha) go q) q (nI (tlV n (hqV n (figV n cd) (h0V n cd ke ha) q)))) ((rfV n (n - 2) cd ke (fillA ha 1)).1) (upd (hqV n (figV n cd) (h0V n cd ke ha) q) (tlV n (hqV n (figV n cd) (h0V n cd ke ha) q)) 0) wy ab be sr) C hW (by decide) cC_17 0 rfl q rfl (by omega) (by decide) cC_s17 dX1_read_31 (fun H locs hW => ?_)
      refine lv_aload_n hx hb dX1_read_32 rfl (lv_at hl 1 rfl) ?_
      refine u_get C hW inlX1 (by decide) cC_16 rfl 3 (by decide) mw_42 rfl dX1_read_33 ?_
      refine lv_aload_n hx hb dX1_read_36 rfl (lv_at hl 1 rfl) ?_
      refine u_get C hW inlX1 (by decide) cC_16 rfl 2 (by decide) mw_41 rfl dX1_read_37 ?_
      refine lv_iload_n hx hb dX1_read_40 rfl (lv_at hl 0 rfl) ?_
      refine u_iald C hW (by decide) cC_18 0 rfl q rfl (by omega) (by decide) dX1_read_41 ?_
      refine u_top (show (rfV n (n - 2) cd ke (fillA ha 1)).1 q = nI (figV n cd q) from rfV_fig (by omega)) ?_
      refine lv_dup2_11 hx hb dX1_read_42 rfl rfl ?_
      refine u_iald C hW (by decide) cC_19 0 rfl (figV n cd q) rfl (by omega) (by decide) dX1_read_43 ?_
      refine lv_iconst (v := 1) hx hb dX1_read_44 (by decide) ?_
      refine lv_isub hx hb dX1_read_45 ?_
      refine u_iast (cf' := cC cyI cO ad n d md (upd (goW n (figV n cd) (h0V n cd ke ha) go q) q (nI (tlV n (hqV n (figV n cd) (h0V n cd ke ha) q)))) ((rfV n (n - 2) cd ke (fillA ha 1)).1) (upd (upd (hqV n (figV n cd) (h0V n cd ke ha) q) (tlV n (hqV n (figV n cd) (h0V n cd ke ha) q)) 0) (figV n cd q) ((upd (hqV n (figV n cd) (h0V n cd ke ha) q) (tlV n (hqV n (figV n cd) (h0V n cd ke ha) q)) 0 (figV n cd q)) - 1)) wy ab be sr) C hW (by decide) cC_19 0 rfl (figV n cd q) rfl (by omega) (by decide) cC_s19 dX1_read_46 (fun H locs hW => ?_)
      refine lv_iinc (v := nI (q + 1)) (lv' := [(3, .int (nI (q + 1))), (0, .ref (ad 16)), (2, .int (nI (n - 2)))]) hx hb dX1_read_47 hl (k := 0) rfl (nI_1 _) (by decide) rfl (fun ls hl => ?_)
      refine lv_goto (tgt := 17) hx hb dX1_read_50 (by decide) ?_
      exact ih17  (q + 1) (by omega) H locs hW ls (lv_sub hl [0, 1, 2] rfl)
  exact L17 (n - 2) 0 (by omega) H locs hW ls (lv_sub hl [0, 2, 1] rfl)
set_option maxHeartbeats 4000000 in
set_option maxRecDepth 100000 in
theorem c_X1_joins (l : Launch) (D : va_G) (cyI cO cyZ : ClassId) (ad : Nat → Nat) (fa : Nat) (n : Nat) (d md : Nat → Nat → Int32) (go ke ha : Nat → Int32) (wy : Nat → Nat → Int32) (ab be sr : Int32) (x y : Int32) (hn : n ≤ 6) (h2 : 2 ≤ n) : Ct l yX1_joins (Cond.code yX1_joins cX1_joins 5 (some .boolean) :: wsL_law) ({ frames := 0, cells := 0, slots := 0, locals := 0 } : Room) D (ty3 cyI cO cyZ) 29 ad fa [.ref (ad 16), .int x, .int y] (cC cyI cO ad n d md go ke ha wy ab be sr) (cC cyI cO ad n d md go ke ha wy ab be sr) (some (.int (jnV n go ke x y))) := by
  refine Ct.of (by decide) (Nat.le_of_ble_eq_true rfl) ?_
  intro p e s m args below meth c A C hr H locs hW ls hl
  have C : Cx p s m args meth c cX1_joins 5 RX1 D (ty3 cyI cO cyZ) fa A := C
  have hx := C.1
  have hb := C.2.1
  have hl : lv_has ls 5 [(0, .ref (ad 16)), (1, .int x), (2, .int y)] := hl
  refine lv_iconst (v := 0) hx hb dX1_joins_0 (by decide) ?_
  refine lv_istore_n (lv' := [(3, .int 0), (0, .ref (ad 16)), (1, .int x), (2, .int y)]) hx hb dX1_joins_1 rfl hl (by decide) rfl (fun ls hl => ?_)
  refine lv_iconst (v := 0) hx hb dX1_joins_2 (by decide) ?_
  refine lv_istore (lv' := [(4, .int 0), (3, .int 0), (0, .ref (ad 16)), (1, .int x), (2, .int y)]) hx hb dX1_joins_3 hl (by decide) rfl (fun ls hl => ?_)
  have L5 : ∀ (k5 : Nat) (q : Nat) (b : Int32), q + k5 = n - 1 → lp (jnF go ke x y) q k5 b = jnV n go ke x y → b = 0 ∨ b = 1 → ∀ (H : Heap) (locs : List Loc), Wd D 29 ad (cC cyI cO ad n d md go ke ha wy ab be sr) A s.heap H locs → ∀ ls : Array Slot, lv_has ls 5 [(4, .int (nI q)), (0, .ref (ad 16)), (1, .int x), (2, .int y), (3, .int b)] → W p l e ({ frames := 0, cells := 0, slots := 0, locals := 0 } : Room) s m args below meth c H locs 0 0 (MQ below (uQ D 29 ad (cC cyI cO ad n d md go ke ha wy ab be sr) (some (.int (jnV n go ke x y))) A) args s 0 0 A) (F0 m 5 ls []) := by
    intro k5
    induction k5 with
    | zero =>
      intro q b hq r5 hb9 H locs hW ls hl
      refine lv_iload hx hb dX1_joins_5 (lv_at hl 0 rfl) ?_
      refine lv_aload_n hx hb dX1_joins_7 rfl (lv_at hl 1 rfl) ?_
      refine u_get C hW inlX1 (by decide) cC_16 rfl 0 (by decide) mw_47 rfl dX1_joins_8 ?_
      refine u_getN C hW inlX3 (by decide) cC_1 rfl 2 (by decide) (List.mem_of_getElem? (i := 8) rfl) rfl dX1_joins_11 ?_
      refine lv_iconst (v := 1) hx hb dX1_joins_14 (by decide) ?_
      refine lv_isub hx hb dX1_joins_15 ?_
      refine u_top (show (nI n) - 1 = nI (n - 1) from pk_sub (a := n) (b := 1) (by omega)) ?_
      refine lv_icmp_ge (tgt := 79) hx hb dX1_joins_16 (by decide) (fun _ => ?_) (fun c9 => absurd (nI_le (by omega) (by omega)) c9)
      refine lv_iload_n hx hb dX1_joins_79 rfl (lv_at hl 4 rfl) ?_
      exact u_zret C hr hW dX1_joins_80 hb9 r5 rfl
    | succ k5 ih5 =>
      intro q b hq r5 hb9 H locs hW ls hl
      refine lv_iload hx hb dX1_joins_5 (lv_at hl 0 rfl) ?_
      refine lv_aload_n hx hb dX1_joins_7 rfl (lv_at hl 1 rfl) ?_
      refine u_get C hW inlX1 (by decide) cC_16 rfl 0 (by decide) mw_47 rfl dX1_joins_8 ?_
      refine u_getN C hW inlX3 (by decide) cC_1 rfl 2 (by decide) (List.mem_of_getElem? (i := 8) rfl) rfl dX1_joins_11 ?_
      refine lv_iconst (v := 1) hx hb dX1_joins_14 (by decide) ?_
      refine lv_isub hx hb dX1_joins_15 ?_
      refine u_top (show (nI n) - 1 = nI (n - 1) from pk_sub (a := n) (b := 1) (by omega)) ?_
      refine lv_icmp_ge (tgt := 79) hx hb dX1_joins_16 (by decide) (fun c9 => absurd c9 (nI_ge (by omega) (by omega))) (fun _ => ?_)
      refine lv_iload_n hx hb dX1_joins_19 rfl (lv_at hl 4 rfl) ?_
      refine lv_if_ne (tgt := 67) hx hb dX1_joins_20 (by decide) (fun c20_1 => ?_) (fun c20_1 => ?_)
      · skip
        refine lv_iconst (v := 1) hx hb dX1_joins_67 (by decide) ?_
        refine lv_goto (tgt := 72) hx hb dX1_joins_68 (by decide) ?_
        refine lv_istore_n (lv' := [(3, .int 1), (4, .int (nI q)), (0, .ref (ad 16)), (1, .int x), (2, .int y)]) hx hb dX1_joins_72 rfl hl (by decide) rfl (fun ls hl => ?_)
        refine lv_iinc (v := nI (q + 1)) (lv' := [(4, .int (nI (q + 1))), (3, .int 1), (0, .ref (ad 16)), (1, .int x), (2, .int y)]) hx hb dX1_joins_73 hl (k := 1) rfl (nI_1 _) (by decide) rfl (fun ls hl => ?_)
        refine lv_goto (tgt := 5) hx hb dX1_joins_76 (by decide) ?_
        exact ih5  (q + 1) 1 (by omega) (by first | exact r5 | (have h9 := r5; simp only [lp_s, lp_0, jnF, if_neg c20_1] at h9; exact h9)) (by first | exact Or.inl rfl | exact Or.inr rfl) H locs hW ls (lv_sub hl [0, 2, 3, 4, 1] rfl)
      · skip
        refine lv_aload_n hx hb dX1_joins_23 rfl (lv_at hl 1 rfl) ?_
        refine u_get C hW inlX1 (by decide) cC_16 rfl 1 (by decide) mw_40 rfl dX1_joins_24 ?_
        refine lv_iload hx hb dX1_joins_27 (lv_at hl 0 rfl) ?_
        refine u_iald C hW (by decide) cC_17 0 rfl q rfl (by omega) (by decide) dX1_joins_29 ?_
        refine lv_iload_n hx hb dX1_joins_30 rfl (lv_at hl 2 rfl) ?_
        refine lv_icmp_ne (tgt := 45) hx hb dX1_joins_31 (by decide) (fun c31_2 => ?_) (fun c31_2 => ?_)
        · skip
          refine lv_aload_n hx hb dX1_joins_45 rfl (lv_at hl 1 rfl) ?_
          refine u_get C hW inlX1 (by decide) cC_16 rfl 1 (by decide) mw_40 rfl dX1_joins_46 ?_
          refine lv_iload hx hb dX1_joins_49 (lv_at hl 0 rfl) ?_
          refine u_iald C hW (by decide) cC_17 0 rfl q rfl (by omega) (by decide) dX1_joins_51 ?_
          refine lv_iload_n hx hb dX1_joins_52 rfl (lv_at hl 3 rfl) ?_
          refine lv_icmp_ne (tgt := 71) hx hb dX1_joins_53 (by decide) (fun c53_3 => ?_) (fun c53_3 => ?_)
          · skip
            refine lv_iconst (v := 0) hx hb dX1_joins_71 (by decide) ?_
            refine lv_istore_n (lv' := [(3, .int 0), (4, .int (nI q)), (0, .ref (ad 16)), (1, .int x), (2, .int y)]) hx hb dX1_joins_72 rfl hl (by decide) rfl (fun ls hl => ?_)
            refine lv_iinc (v := nI (q + 1)) (lv' := [(4, .int (nI (q + 1))), (3, .int 0), (0, .ref (ad 16)), (1, .int x), (2, .int y)]) hx hb dX1_joins_73 hl (k := 1) rfl (nI_1 _) (by decide) rfl (fun ls hl => ?_)
            refine lv_goto (tgt := 5) hx hb dX1_joins_76 (by decide) ?_
            exact ih5  (q + 1) 0 (by omega) (by first | exact r5 | (have h9 := r5; simp only [lp_s, lp_0, jnF, if_pos c20_1, if_neg c31_2, if_neg c53_3] at h9; exact h9)) (by first | exact Or.inl rfl | exact Or.inr rfl) H locs hW ls (lv_sub hl [0, 2, 3, 4, 1] rfl)
          · skip
            refine lv_aload_n hx hb dX1_joins_56 rfl (lv_at hl 1 rfl) ?_
            refine u_get C hW inlX1 (by decide) cC_16 rfl 2 (by decide) mw_41 rfl dX1_joins_57 ?_
            refine lv_iload hx hb dX1_joins_60 (lv_at hl 0 rfl) ?_
            refine u_iald C hW (by decide) cC_18 0 rfl q rfl (by omega) (by decide) dX1_joins_62 ?_
            refine lv_iload_n hx hb dX1_joins_63 rfl (lv_at hl 2 rfl) ?_
            refine lv_icmp_ne (tgt := 71) hx hb dX1_joins_64 (by decide) (fun c64_4 => ?_) (fun c64_4 => ?_)
            · skip
              refine lv_iconst (v := 0) hx hb dX1_joins_71 (by decide) ?_
              refine lv_istore_n (lv' := [(3, .int 0), (4, .int (nI q)), (0, .ref (ad 16)), (1, .int x), (2, .int y)]) hx hb dX1_joins_72 rfl hl (by decide) rfl (fun ls hl => ?_)
              refine lv_iinc (v := nI (q + 1)) (lv' := [(4, .int (nI (q + 1))), (3, .int 0), (0, .ref (ad 16)), (1, .int x), (2, .int y)]) hx hb dX1_joins_73 hl (k := 1) rfl (nI_1 _) (by decide) rfl (fun ls hl => ?_)
              refine lv_goto (tgt := 5) hx hb dX1_joins_76 (by decide) ?_
              exact ih5  (q + 1) 0 (by omega) (by first | exact r5 | (have h9 := r5; simp only [lp_s, lp_0, jnF, if_pos c20_1, if_neg c31_2, if_pos c53_3, if_neg c64_4] at h9; exact h9)) (by first | exact Or.inl rfl | exact Or.inr rfl) H locs hW ls (lv_sub hl [0, 2, 3, 4, 1] rfl)
            · skip
              refine lv_iconst (v := 1) hx hb dX1_joins_67 (by decide) ?_
              refine lv_goto (tgt := 72) hx hb dX1_joins_68 (by decide) ?_
              refine lv_istore_n (lv' := [(3, .int 1), (4, .int (nI q)), (0, .ref (ad 16)), (1, .int x), (2, .int y)]) hx hb dX1_joins_72 rfl hl (by decide) rfl (fun ls hl => ?_)
              refine lv_iinc (v := nI (q + 1)) (lv' := [(4, .int (nI (q + 1))), (3, .int 1), (0, .ref (ad 16)), (1, .int x), (2, .int y)]) hx hb dX1_joins_73 hl (k := 1) rfl (nI_1 _) (by decide) rfl (fun ls hl => ?_)
              refine lv_goto (tgt := 5) hx hb dX1_joins_76 (by decide) ?_
              exact ih5  (q + 1) 1 (by omega) (by first | exact r5 | (have h9 := r5; simp only [lp_s, lp_0, jnF, if_pos c20_1, if_neg c31_2, if_pos c53_3, if_pos c64_4] at h9; exact h9)) (by first | exact Or.inl rfl | exact Or.inr rfl) H locs hW ls (lv_sub hl [0, 2, 3, 4, 1] rfl)
        · skip
          refine lv_aload_n hx hb dX1_joins_34 rfl (lv_at hl 1 rfl) ?_
          refine u_get C hW inlX1 (by decide) cC_16 rfl 2 (by decide) mw_41 rfl dX1_joins_35 ?_
          refine lv_iload hx hb dX1_joins_38 (lv_at hl 0 rfl) ?_
          refine u_iald C hW (by decide) cC_18 0 rfl q rfl (by omega) (by decide) dX1_joins_40 ?_
          refine lv_iload_n hx hb dX1_joins_41 rfl (lv_at hl 3 rfl) ?_
          refine lv_icmp_eq (tgt := 67) hx hb dX1_joins_42 (by decide) (fun c42_5 => ?_) (fun c42_5 => ?_)
          · skip
            refine lv_iconst (v := 1) hx hb dX1_joins_67 (by decide) ?_
            refine lv_goto (tgt := 72) hx hb dX1_joins_68 (by decide) ?_
            refine lv_istore_n (lv' := [(3, .int 1), (4, .int (nI q)), (0, .ref (ad 16)), (1, .int x), (2, .int y)]) hx hb dX1_joins_72 rfl hl (by decide) rfl (fun ls hl => ?_)
            refine lv_iinc (v := nI (q + 1)) (lv' := [(4, .int (nI (q + 1))), (3, .int 1), (0, .ref (ad 16)), (1, .int x), (2, .int y)]) hx hb dX1_joins_73 hl (k := 1) rfl (nI_1 _) (by decide) rfl (fun ls hl => ?_)
            refine lv_goto (tgt := 5) hx hb dX1_joins_76 (by decide) ?_
            exact ih5  (q + 1) 1 (by omega) (by first | exact r5 | (have h9 := r5; simp only [lp_s, lp_0, jnF, if_pos c20_1, if_pos c31_2, if_pos c42_5] at h9; exact h9)) (by first | exact Or.inl rfl | exact Or.inr rfl) H locs hW ls (lv_sub hl [0, 2, 3, 4, 1] rfl)
          · skip
            refine lv_aload_n hx hb dX1_joins_45 rfl (lv_at hl 1 rfl) ?_
            refine u_get C hW inlX1 (by decide) cC_16 rfl 1 (by decide) mw_40 rfl dX1_joins_46 ?_
            refine lv_iload hx hb dX1_joins_49 (lv_at hl 0 rfl) ?_
            refine u_iald C hW (by decide) cC_17 0 rfl q rfl (by omega) (by decide) dX1_joins_51 ?_
            refine lv_iload_n hx hb dX1_joins_52 rfl (lv_at hl 3 rfl) ?_
            refine lv_icmp_ne (tgt := 71) hx hb dX1_joins_53 (by decide) (fun c53_6 => ?_) (fun c53_6 => ?_)
            · skip
              refine lv_iconst (v := 0) hx hb dX1_joins_71 (by decide) ?_
              refine lv_istore_n (lv' := [(3, .int 0), (4, .int (nI q)), (0, .ref (ad 16)), (1, .int x), (2, .int y)]) hx hb dX1_joins_72 rfl hl (by decide) rfl (fun ls hl => ?_)
              refine lv_iinc (v := nI (q + 1)) (lv' := [(4, .int (nI (q + 1))), (3, .int 0), (0, .ref (ad 16)), (1, .int x), (2, .int y)]) hx hb dX1_joins_73 hl (k := 1) rfl (nI_1 _) (by decide) rfl (fun ls hl => ?_)
              refine lv_goto (tgt := 5) hx hb dX1_joins_76 (by decide) ?_
              exact ih5  (q + 1) 0 (by omega) (by first | exact r5 | (have h9 := r5; simp only [lp_s, lp_0, jnF, if_pos c20_1, if_pos c31_2, if_neg c42_5, if_neg c53_6] at h9; exact h9)) (by first | exact Or.inl rfl | exact Or.inr rfl) H locs hW ls (lv_sub hl [0, 2, 3, 4, 1] rfl)
            · skip
              refine lv_aload_n hx hb dX1_joins_56 rfl (lv_at hl 1 rfl) ?_
              refine u_get C hW inlX1 (by decide) cC_16 rfl 2 (by decide) mw_41 rfl dX1_joins_57 ?_
              refine lv_iload hx hb dX1_joins_60 (lv_at hl 0 rfl) ?_
              refine u_iald C hW (by decide) cC_18 0 rfl q rfl (by omega) (by decide) dX1_joins_62 ?_
              refine lv_iload_n hx hb dX1_joins_63 rfl (lv_at hl 2 rfl) ?_
              refine lv_icmp_ne (tgt := 71) hx hb dX1_joins_64 (by decide) (fun c64_7 => ?_) (fun c64_7 => ?_)
              · skip
                refine lv_iconst (v := 0) hx hb dX1_joins_71 (by decide) ?_
                refine lv_istore_n (lv' := [(3, .int 0), (4, .int (nI q)), (0, .ref (ad 16)), (1, .int x), (2, .int y)]) hx hb dX1_joins_72 rfl hl (by decide) rfl (fun ls hl => ?_)
                refine lv_iinc (v := nI (q + 1)) (lv' := [(4, .int (nI (q + 1))), (3, .int 0), (0, .ref (ad 16)), (1, .int x), (2, .int y)]) hx hb dX1_joins_73 hl (k := 1) rfl (nI_1 _) (by decide) rfl (fun ls hl => ?_)
                refine lv_goto (tgt := 5) hx hb dX1_joins_76 (by decide) ?_
                exact ih5  (q + 1) 0 (by omega) (by first | exact r5 | (have h9 := r5; simp only [lp_s, lp_0, jnF, if_pos c20_1, if_pos c31_2, if_neg c42_5, if_pos c53_6, if_neg c64_7] at h9; exact h9)) (by first | exact Or.inl rfl | exact Or.inr rfl) H locs hW ls (lv_sub hl [0, 2, 3, 4, 1] rfl)
              · skip
                refine lv_iconst (v := 1) hx hb dX1_joins_67 (by decide) ?_
                refine lv_goto (tgt := 72) hx hb dX1_joins_68 (by decide) ?_
                refine lv_istore_n (lv' := [(3, .int 1), (4, .int (nI q)), (0, .ref (ad 16)), (1, .int x), (2, .int y)]) hx hb dX1_joins_72 rfl hl (by decide) rfl (fun ls hl => ?_)
                refine lv_iinc (v := nI (q + 1)) (lv' := [(4, .int (nI (q + 1))), (3, .int 1), (0, .ref (ad 16)), (1, .int x), (2, .int y)]) hx hb dX1_joins_73 hl (k := 1) rfl (nI_1 _) (by decide) rfl (fun ls hl => ?_)
                refine lv_goto (tgt := 5) hx hb dX1_joins_76 (by decide) ?_
                exact ih5  (q + 1) 1 (by omega) (by first | exact r5 | (have h9 := r5; simp only [lp_s, lp_0, jnF, if_pos c20_1, if_pos c31_2, if_neg c42_5, if_pos c53_6, if_pos c64_7] at h9; exact h9)) (by first | exact Or.inl rfl | exact Or.inr rfl) H locs hW ls (lv_sub hl [0, 2, 3, 4, 1] rfl)
  exact L5 (n - 1) 0 0 (by omega) rfl (Or.inl rfl) H locs hW ls (lv_sub hl [0, 2, 3, 4, 1] rfl)
set_option maxHeartbeats 4000000 in
set_option maxRecDepth 100000 in
theorem c_X1_layWay (l : Launch) (D : va_G) (cyI cO cyZ : ClassId) (ad : Nat → Nat) (fa : Nat) (n : Nat) (d md : Nat → Nat → Int32) (go ke ha : Nat → Int32) (wy : Nat → Nat → Int32) (ab be sr : Int32) (q t f k : Nat) (hq : q < 6) (ht : t < 6) (hf : f < 6) (hk : k < 6) (hgo : go q = nI f) (hke : ke q = nI k) : Ct l yX1_layWay (Cond.code yX1_layWay cX1_layWay 5 none :: wsL_law) ({ frames := 0, cells := 0, slots := 0, locals := 0 } : Room) D (ty3 cyI cO cyZ) 29 ad fa [.ref (ad 16), .int (nI q), .int (nI t)] (cC cyI cO ad n d md go ke ha wy ab be sr) (cC cyI cO ad n d md go ke ha (lwV d wy f k t) ab be sr) (none) := by
  refine Ct.of (by decide) (Nat.le_of_ble_eq_true rfl) ?_
  intro p e s m args below meth c A C hr H locs hW ls hl
  have C : Cx p s m args meth c cX1_layWay 5 RX1 D (ty3 cyI cO cyZ) fa A := C
  have hx := C.1
  have hb := C.2.1
  have hl : lv_has ls 5 [(0, .ref (ad 16)), (1, .int (nI q)), (2, .int (nI t))] := hl
  refine lv_aload_n hx hb dX1_layWay_0 rfl (lv_at hl 0 rfl) ?_
  refine u_get C hW inlX1 (by decide) cC_16 rfl 1 (by decide) mw_40 rfl dX1_layWay_1 ?_
  refine lv_iload_n hx hb dX1_layWay_4 rfl (lv_at hl 1 rfl) ?_
  refine u_iald C hW (by decide) cC_17 0 rfl q rfl (by omega) (by decide) dX1_layWay_5 ?_
  refine u_top (show go q = nI f from hgo) ?_
  refine lv_istore_n (lv' := [(3, .int (nI f)), (0, .ref (ad 16)), (1, .int (nI q)), (2, .int (nI t))]) hx hb dX1_layWay_6 rfl hl (by decide) rfl (fun ls hl => ?_)
  refine lv_aload_n hx hb dX1_layWay_7 rfl (lv_at hl 1 rfl) ?_
  refine u_get C hW inlX1 (by decide) cC_16 rfl 0 (by decide) mw_47 rfl dX1_layWay_8 ?_
  refine u_getN C hW inlX3 (by decide) cC_1 rfl 0 (by decide) (List.mem_of_getElem? (i := 9) rfl) rfl dX1_layWay_11 ?_
  refine lv_iload_n hx hb dX1_layWay_14 rfl (lv_at hl 0 rfl) ?_
  refine u_aald C hW (by decide) cC_2 1 rfl f rfl (by omega) (by decide) (cC_outer (by omega)) dX1_layWay_15 ?_
  refine lv_aload_n hx hb dX1_layWay_16 rfl (lv_at hl 1 rfl) ?_
  refine u_get C hW inlX1 (by decide) cC_16 rfl 2 (by decide) mw_41 rfl dX1_layWay_17 ?_
  refine lv_iload_n hx hb dX1_layWay_20 rfl (lv_at hl 2 rfl) ?_
  refine u_iald C hW (by decide) cC_18 0 rfl q rfl (by omega) (by decide) dX1_layWay_21 ?_
  refine u_top (show ke q = nI k from hke) ?_
  refine u_iald C hW (by omega) (cC_d (by omega)) 0 rfl k rfl (by omega) (by decide) dX1_layWay_22 ?_
  refine lv_aload_n hx hb dX1_layWay_23 rfl (lv_at hl 1 rfl) ?_
  refine u_get C hW inlX1 (by decide) cC_16 rfl 4 (by decide) mw_44 rfl dX1_layWay_24 ?_
  refine lv_aload_n hx hb dX1_layWay_27 rfl (lv_at hl 1 rfl) ?_
  refine u_get C hW inlX1 (by decide) cC_16 rfl 2 (by decide) mw_41 rfl dX1_layWay_28 ?_
  refine lv_iload_n hx hb dX1_layWay_31 rfl (lv_at hl 2 rfl) ?_
  refine u_iald C hW (by decide) cC_18 0 rfl q rfl (by omega) (by decide) dX1_layWay_32 ?_
  refine u_top (show ke q = nI k from hke) ?_
  refine u_aald C hW (by decide) cC_20 1 rfl k rfl (by omega) (by decide) (cC_outer (by omega)) dX1_layWay_33 ?_
  refine lv_iload_n hx hb dX1_layWay_34 rfl (lv_at hl 3 rfl) ?_
  refine u_iald C hW (by omega) (cC_w (by omega)) 0 rfl t rfl (by omega) (by decide) dX1_layWay_35 ?_
  refine lv_iadd hx hb dX1_layWay_36 ?_
  refine lv_istore (lv' := [(4, .int ((d f k) + (wy k t))), (3, .int (nI f)), (0, .ref (ad 16)), (1, .int (nI q)), (2, .int (nI t))]) hx hb dX1_layWay_37 hl (by decide) rfl (fun ls hl => ?_)
  refine lv_aload_n hx hb dX1_layWay_39 rfl (lv_at hl 2 rfl) ?_
  refine u_get C hW inlX1 (by decide) cC_16 rfl 4 (by decide) mw_44 rfl dX1_layWay_40 ?_
  refine lv_iload_n hx hb dX1_layWay_43 rfl (lv_at hl 1 rfl) ?_
  refine u_aald C hW (by decide) cC_20 1 rfl f rfl (by omega) (by decide) (cC_outer (by omega)) dX1_layWay_44 ?_
  refine lv_iload_n hx hb dX1_layWay_45 rfl (lv_at hl 4 rfl) ?_
  refine lv_iload hx hb dX1_layWay_46 (lv_at hl 0 rfl) ?_
  refine u_iast (cf' := cC cyI cO ad n d md go ke ha (u2 wy f t ((d f k) + (wy k t))) ab be sr) C hW (by omega) (cC_w (by omega)) 0 rfl t rfl (by omega) (by decide) (cC_sw (by omega)) dX1_layWay_48 (fun H locs hW => ?_)
  refine lv_aload_n hx hb dX1_layWay_49 rfl (lv_at hl 2 rfl) ?_
  refine u_get C hW inlX1 (by decide) cC_16 rfl 4 (by decide) mw_44 rfl dX1_layWay_50 ?_
  refine lv_iload_n hx hb dX1_layWay_53 rfl (lv_at hl 4 rfl) ?_
  refine u_aald C hW (by decide) cC_20 1 rfl t rfl (by omega) (by decide) (cC_outer (by omega)) dX1_layWay_54 ?_
  refine lv_iload_n hx hb dX1_layWay_55 rfl (lv_at hl 1 rfl) ?_
  refine lv_iload hx hb dX1_layWay_56 (lv_at hl 0 rfl) ?_
  refine u_iast (cf' := cC cyI cO ad n d md go ke ha (u2 (u2 wy f t ((d f k) + (wy k t))) t f ((d f k) + (wy k t))) ab be sr) C hW (by omega) (cC_w (by omega)) 0 rfl f rfl (by omega) (by decide) (cC_sw (by omega)) dX1_layWay_58 (fun H locs hW => ?_)
  exact u_vret C hr hW dX1_layWay_59 rfl
set_option maxHeartbeats 4000000 in
set_option maxRecDepth 100000 in
theorem c_X1_lay (l : Launch) (D : va_G) (cyI cO cyZ : ClassId) (ad : Nat → Nat) (fa : Nat) (n : Nat) (d md : Nat → Nat → Int32) (go ke ha : Nat → Int32) (wy : Nat → Nat → Int32) (ab be sr : Int32) (cd : Nat) (hn : n ≤ 6) (h2 : 2 ≤ n) (hcd : cd < 2 ^ 31) : Ct l yX1_lay (Cond.code yX1_lay cX1_lay 5 none :: wsL_law) ({ frames := 3, cells := 0, slots := 0, locals := 69 } : Room) D (ty3 cyI cO cyZ) 29 ad fa [.ref (ad 16), .int (nI cd)] (cC cyI cO ad n d md go ke ha wy ab be sr) (cC cyI cO ad n d md (rdG n cd go ke ha) (rdK n cd ke ha) (rdH n cd ke ha) (lyV n d (Gn n cd ke ha) (Kn n cd ke ha) wy) ab be sr) (none) := by
  refine Ct.of (by decide) (Nat.le_of_ble_eq_true rfl) ?_
  intro p e s m args below meth c A C hr H locs hW ls hl
  have C : Cx p s m args meth c cX1_lay 5 RX1 D (ty3 cyI cO cyZ) fa A := C
  have hx := C.1
  have hb := C.2.1
  have hl : lv_has ls 5 [(0, .ref (ad 16)), (1, .int (nI cd))] := hl
  have hGl := fun q => Gn_lt cd ke ha q h2
  have hKl := fun q => Kn_lt cd ke ha q h2
  have hK0 := hKl (n - 2)
  refine lv_aload_n hx hb dX1_lay_0 rfl (lv_at hl 0 rfl) ?_
  refine lv_iload_n hx hb dX1_lay_1 rfl (lv_at hl 1 rfl) ?_
  refine u_callV (cf' := cC cyI cO ad n d md (rdG n cd go ke ha) (rdK n cd ke ha) (rdH n cd ke ha) wy ab be sr) (As := [.int (nI cd)]) (rest := []) (st1 := []) C hW (c_X1_read l D cyI cO cyZ ad fa n d md go ke ha wy ab be sr cd (by omega) (by omega) (by omega)) mv_yX1_read mw_339 rfl ⟨rfl, rfl, Nat.le_of_ble_eq_true rfl, Nat.le_of_ble_eq_true rfl⟩ (by decide) cC_16 rfl rfl hl (Nat.le_of_ble_eq_true rfl) rfl rfl dX1_lay_2 (fun H locs hW => ?_)
  refine lv_aload_n hx hb dX1_lay_5 rfl (lv_at hl 0 rfl) ?_
  refine u_get C hW inlX1 (by decide) cC_16 rfl 0 (by decide) mw_47 rfl dX1_lay_6 ?_
  refine u_getN C hW inlX3 (by decide) cC_1 rfl 2 (by decide) (List.mem_of_getElem? (i := 8) rfl) rfl dX1_lay_9 ?_
  refine lv_iconst (v := 2) hx hb dX1_lay_12 (by decide) ?_
  refine lv_isub hx hb dX1_lay_13 ?_
  refine u_top (show (nI n) - 2 = nI (n - 2) from pk_sub (a := n) (b := 2) (by omega)) ?_
  refine lv_istore_n (lv' := [(2, .int (nI (n - 2))), (0, .ref (ad 16)), (1, .int (nI cd))]) hx hb dX1_lay_14 rfl hl (by decide) rfl (fun ls hl => ?_)
  refine lv_aload_n hx hb dX1_lay_15 rfl (lv_at hl 1 rfl) ?_
  refine u_get C hW inlX1 (by decide) cC_16 rfl 4 (by decide) mw_44 rfl dX1_lay_16 ?_
  refine lv_aload_n hx hb dX1_lay_19 rfl (lv_at hl 1 rfl) ?_
  refine u_get C hW inlX1 (by decide) cC_16 rfl 2 (by decide) mw_41 rfl dX1_lay_20 ?_
  refine lv_iload_n hx hb dX1_lay_23 rfl (lv_at hl 0 rfl) ?_
  refine u_iald C hW (by decide) cC_18 0 rfl (n - 2) rfl (by omega) (by decide) dX1_lay_24 ?_
  refine u_top (show rdK n cd ke ha (n - 2) = nI (Kn n cd ke ha (n - 2)) from rdK_n (by omega)) ?_
  refine u_aald C hW (by decide) cC_20 1 rfl (Kn n cd ke ha (n - 2)) rfl (by omega) (by decide) (cC_outer (by omega)) dX1_lay_25 ?_
  refine lv_aload_n hx hb dX1_lay_26 rfl (lv_at hl 1 rfl) ?_
  refine u_get C hW inlX1 (by decide) cC_16 rfl 2 (by decide) mw_41 rfl dX1_lay_27 ?_
  refine lv_iload_n hx hb dX1_lay_30 rfl (lv_at hl 0 rfl) ?_
  refine u_iald C hW (by decide) cC_18 0 rfl (n - 2) rfl (by omega) (by decide) dX1_lay_31 ?_
  refine u_top (show rdK n cd ke ha (n - 2) = nI (Kn n cd ke ha (n - 2)) from rdK_n (by omega)) ?_
  refine lv_iconst (v := 0) hx hb dX1_lay_32 (by decide) ?_
  refine u_iast (cf' := cC cyI cO ad n d md (rdG n cd go ke ha) (rdK n cd ke ha) (rdH n cd ke ha) (u2 wy (Kn n cd ke ha (n - 2)) (Kn n cd ke ha (n - 2)) 0) ab be sr) C hW (by omega) (cC_w (by omega)) 0 rfl (Kn n cd ke ha (n - 2)) rfl (by omega) (by decide) (cC_sw (by omega)) dX1_lay_33 (fun H locs hW => ?_)
  refine lv_iload_n hx hb dX1_lay_34 rfl (lv_at hl 0 rfl) ?_
  refine u_top (show nI (n - 2) = nI (n - 1) - 1 from nI_pm h2) ?_
  refine lv_istore_n (lv' := [(3, .int (nI (n - 1) - 1)), (2, .int (nI (n - 2))), (0, .ref (ad 16)), (1, .int (nI cd))]) hx hb dX1_lay_35 rfl hl (by decide) rfl (fun ls hl => ?_)
  have L36 : ∀ (k36 : Nat) (ww : Nat → Nat → Int32), k36 ≤ n - 1 → lpd (lyS n d (Gn n cd ke ha) (Kn n cd ke ha)) k36 ww = lyV n d (Gn n cd ke ha) (Kn n cd ke ha) wy → ∀ (H : Heap) (locs : List Loc), Wd D 29 ad (cC cyI cO ad n d md (rdG n cd go ke ha) (rdK n cd ke ha) (rdH n cd ke ha) ww ab be sr) A s.heap H locs → ∀ ls : Array Slot, lv_has ls 5 [(0, .ref (ad 16)), (2, .int (nI (n - 2))), (3, .int (nI k36 - 1))] → W p l e ({ frames := 3, cells := 0, slots := 0, locals := 69 } : Room) s m args below meth c H locs 0 0 (MQ below (uQ D 29 ad (cC cyI cO ad n d md (rdG n cd go ke ha) (rdK n cd ke ha) (rdH n cd ke ha) (lyV n d (Gn n cd ke ha) (Kn n cd ke ha) wy) ab be sr) (none) A) args s 0 0 A) (F0 m 36 ls []) := by
    intro k36
    induction k36 with
    | zero =>
      intro ww hk r36 H locs hW ls hl
      refine lv_iload_n hx hb dX1_lay_36 rfl (lv_at hl 2 rfl) ?_
      refine lv_if_lt (tgt := 105) hx hb dX1_lay_37 (by decide) (fun _ => ?_) (fun c9 => absurd (by decide) c9)
      exact u_vret C hr hW dX1_lay_105 (by rw [← r36]; rfl)
    | succ k36 ih36 =>
      intro ww hk r36 H locs hW ls hl
      rw [show nI (k36 + 1) - 1 = nI k36 from nI_pred k36] at hl
      have hg1 := hGl k36
      have hk1 := hKl k36
      refine lv_iload_n hx hb dX1_lay_36 rfl (lv_at hl 2 rfl) ?_
      refine lv_if_lt (tgt := 105) hx hb dX1_lay_37 (by decide) (fun c9 => absurd c9 (nI_pos (by omega))) (fun _ => ?_)
      refine lv_aload_n hx hb dX1_lay_40 rfl (lv_at hl 0 rfl) ?_
      refine u_get C hW inlX1 (by decide) cC_16 rfl 4 (by decide) mw_44 rfl dX1_lay_41 ?_
      refine lv_aload_n hx hb dX1_lay_44 rfl (lv_at hl 0 rfl) ?_
      refine u_get C hW inlX1 (by decide) cC_16 rfl 1 (by decide) mw_40 rfl dX1_lay_45 ?_
      refine lv_iload_n hx hb dX1_lay_48 rfl (lv_at hl 2 rfl) ?_
      refine u_iald C hW (by decide) cC_17 0 rfl k36 rfl (by omega) (by decide) dX1_lay_49 ?_
      refine u_top (show rdG n cd go ke ha k36 = nI (Gn n cd ke ha k36) from rdG_n (by omega)) ?_
      refine u_aald C hW (by decide) cC_20 1 rfl (Gn n cd ke ha k36) rfl (by omega) (by decide) (cC_outer (by omega)) dX1_lay_50 ?_
      refine lv_aload_n hx hb dX1_lay_51 rfl (lv_at hl 0 rfl) ?_
      refine u_get C hW inlX1 (by decide) cC_16 rfl 1 (by decide) mw_40 rfl dX1_lay_52 ?_
      refine lv_iload_n hx hb dX1_lay_55 rfl (lv_at hl 2 rfl) ?_
      refine u_iald C hW (by decide) cC_17 0 rfl k36 rfl (by omega) (by decide) dX1_lay_56 ?_
      refine u_top (show rdG n cd go ke ha k36 = nI (Gn n cd ke ha k36) from rdG_n (by omega)) ?_
      refine lv_iconst (v := 0) hx hb dX1_lay_57 (by decide) ?_
      refine u_iast (cf' := cC cyI cO ad n d md (rdG n cd go ke ha) (rdK n cd ke ha) (rdH n cd ke ha) (u2 ww (Gn n cd ke ha k36) (Gn n cd ke ha k36) 0) ab be sr) C hW (by omega) (cC_w (by omega)) 0 rfl (Gn n cd ke ha k36) rfl (by omega) (by decide) (cC_sw (by omega)) dX1_lay_58 (fun H locs hW => ?_)
      refine lv_aload_n hx hb dX1_lay_59 rfl (lv_at hl 0 rfl) ?_
      refine lv_iload_n hx hb dX1_lay_60 rfl (lv_at hl 2 rfl) ?_
      refine lv_aload_n hx hb dX1_lay_61 rfl (lv_at hl 0 rfl) ?_
      refine u_get C hW inlX1 (by decide) cC_16 rfl 2 (by decide) mw_41 rfl dX1_lay_62 ?_
      refine lv_iload_n hx hb dX1_lay_65 rfl (lv_at hl 1 rfl) ?_
      refine u_iald C hW (by decide) cC_18 0 rfl (n - 2) rfl (by omega) (by decide) dX1_lay_66 ?_
      refine u_top (show rdK n cd ke ha (n - 2) = nI (Kn n cd ke ha (n - 2)) from rdK_n (by omega)) ?_
      refine u_callV (cf' := cC cyI cO ad n d md (rdG n cd go ke ha) (rdK n cd ke ha) (rdH n cd ke ha) (lwV d (u2 ww (Gn n cd ke ha k36) (Gn n cd ke ha k36) 0) (Gn n cd ke ha k36) (Kn n cd ke ha k36) (Kn n cd ke ha (n - 2))) ab be sr) (As := [.int (nI k36), .int (nI (Kn n cd ke ha (n - 2)))]) (rest := []) (st1 := []) C hW (c_X1_layWay l D cyI cO cyZ ad fa n d md (rdG n cd go ke ha) (rdK n cd ke ha) (rdH n cd ke ha) (u2 ww (Gn n cd ke ha k36) (Gn n cd ke ha k36) 0) ab be sr k36 (Kn n cd ke ha (n - 2)) (Gn n cd ke ha k36) (Kn n cd ke ha k36) (by omega) (by omega) (by omega) (by omega) (rdG_n (by omega)) (rdK_n (by omega))) mv_yX1_layWay mw_340 rfl ⟨rfl, rfl, Nat.le_of_ble_eq_true rfl, Nat.le_of_ble_eq_true rfl⟩ (by decide) cC_16 rfl rfl hl (Nat.le_of_ble_eq_true rfl) rfl rfl dX1_lay_67 (fun H locs hW => ?_)
      refine lv_iload_n hx hb dX1_lay_70 rfl (lv_at hl 2 rfl) ?_
      refine lv_iconst (v := 1) hx hb dX1_lay_71 (by decide) ?_
      refine lv_iadd hx hb dX1_lay_72 ?_
      refine u_top (show (nI k36) + 1 = nI (k36 + 1) from nI_add k36 1) ?_
      refine lv_istore (lv' := [(4, .int (nI (k36 + 1))), (0, .ref (ad 16)), (2, .int (nI (n - 2))), (3, .int (nI k36))]) hx hb dX1_lay_73 hl (by decide) rfl (fun ls hl => ?_)
      have L75 : ∀ (k75 : Nat) (q : Nat) (ww : Nat → Nat → Int32), q + k75 = n - 1 → lpd (lyS n d (Gn n cd ke ha) (Kn n cd ke ha)) k36 (lp (lyI d (Gn n cd ke ha) (Kn n cd ke ha) k36) q k75 ww) = lyV n d (Gn n cd ke ha) (Kn n cd ke ha) wy → k36 < q → ∀ (H : Heap) (locs : List Loc), Wd D 29 ad (cC cyI cO ad n d md (rdG n cd go ke ha) (rdK n cd ke ha) (rdH n cd ke ha) ww ab be sr) A s.heap H locs → ∀ ls : Array Slot, lv_has ls 5 [(4, .int (nI q)), (0, .ref (ad 16)), (2, .int (nI (n - 2))), (3, .int (nI k36))] → W p l e ({ frames := 3, cells := 0, slots := 0, locals := 69 } : Room) s m args below meth c H locs 0 0 (MQ below (uQ D 29 ad (cC cyI cO ad n d md (rdG n cd go ke ha) (rdK n cd ke ha) (rdH n cd ke ha) (lyV n d (Gn n cd ke ha) (Kn n cd ke ha) wy) ab be sr) (none) A) args s 0 0 A) (F0 m 75 ls []) := by
        intro k75
        induction k75 with
        | zero =>
          intro q ww hq r75 hqk H locs hW ls hl
          refine lv_iload hx hb dX1_lay_75 (lv_at hl 0 rfl) ?_
          refine lv_iload_n hx hb dX1_lay_77 rfl (lv_at hl 2 rfl) ?_
          refine lv_icmp_gt (tgt := 99) hx hb dX1_lay_78 (by decide) (fun _ => ?_) (fun c9 => absurd (nI_lt (by omega) (by omega)) c9)
          refine lv_iinc (v := nI k36 - 1) (lv' := [(3, .int (nI k36 - 1)), (4, .int (nI q)), (0, .ref (ad 16)), (2, .int (nI (n - 2)))]) hx hb dX1_lay_99 hl (k := 3) rfl (nI_dn k36) (by decide) rfl (fun ls hl => ?_)
          refine lv_goto (tgt := 36) hx hb dX1_lay_102 (by decide) ?_
          exact ih36  ww (by omega) r75 H locs hW ls (lv_sub hl [2, 3, 0] rfl)
        | succ k75 ih75 =>
          intro q ww hq r75 hqk H locs hW ls hl
          have hg2 := hGl q
          refine lv_iload hx hb dX1_lay_75 (lv_at hl 0 rfl) ?_
          refine lv_iload_n hx hb dX1_lay_77 rfl (lv_at hl 2 rfl) ?_
          refine lv_icmp_gt (tgt := 99) hx hb dX1_lay_78 (by decide) (fun c9 => absurd c9 (nI_nlt (by omega) (by omega))) (fun _ => ?_)
          refine lv_aload_n hx hb dX1_lay_81 rfl (lv_at hl 1 rfl) ?_
          refine lv_iload_n hx hb dX1_lay_82 rfl (lv_at hl 3 rfl) ?_
          refine lv_aload_n hx hb dX1_lay_83 rfl (lv_at hl 1 rfl) ?_
          refine u_get C hW inlX1 (by decide) cC_16 rfl 1 (by decide) mw_40 rfl dX1_lay_84 ?_
          refine lv_iload hx hb dX1_lay_87 (lv_at hl 0 rfl) ?_
          refine u_iald C hW (by decide) cC_17 0 rfl q rfl (by omega) (by decide) dX1_lay_89 ?_
          refine u_top (show rdG n cd go ke ha q = nI (Gn n cd ke ha q) from rdG_n (by omega)) ?_
          refine u_callV (cf' := cC cyI cO ad n d md (rdG n cd go ke ha) (rdK n cd ke ha) (rdH n cd ke ha) (lwV d ww (Gn n cd ke ha k36) (Kn n cd ke ha k36) (Gn n cd ke ha q)) ab be sr) (As := [.int (nI k36), .int (nI (Gn n cd ke ha q))]) (rest := []) (st1 := []) C hW (c_X1_layWay l D cyI cO cyZ ad fa n d md (rdG n cd go ke ha) (rdK n cd ke ha) (rdH n cd ke ha) ww ab be sr k36 (Gn n cd ke ha q) (Gn n cd ke ha k36) (Kn n cd ke ha k36) (by omega) (by omega) (by omega) (by omega) (rdG_n (by omega)) (rdK_n (by omega))) mv_yX1_layWay mw_340 rfl ⟨rfl, rfl, Nat.le_of_ble_eq_true rfl, Nat.le_of_ble_eq_true rfl⟩ (by decide) cC_16 rfl rfl hl (Nat.le_of_ble_eq_true rfl) rfl rfl dX1_lay_90 (fun H locs hW => ?_)
          refine lv_iinc (v := nI (q + 1)) (lv' := [(4, .int (nI (q + 1))), (0, .ref (ad 16)), (2, .int (nI (n - 2))), (3, .int (nI k36))]) hx hb dX1_lay_93 hl (k := 0) rfl (nI_1 _) (by decide) rfl (fun ls hl => ?_)
          refine lv_goto (tgt := 75) hx hb dX1_lay_96 (by decide) ?_
          exact ih75  (q + 1) (lwV d ww (Gn n cd ke ha k36) (Kn n cd ke ha k36) (Gn n cd ke ha q)) (by omega) (by first | exact r75 | (have h9 := r75; simp only [lp_s, lp_0] at h9; exact h9)) (by omega) H locs hW ls (lv_sub hl [0, 1, 2, 3] rfl)
      exact L75 (n - 2 - k36) (k36 + 1) (lwV d (u2 ww (Gn n cd ke ha k36) (Gn n cd ke ha k36) 0) (Gn n cd ke ha k36) (Kn n cd ke ha k36) (Kn n cd ke ha (n - 2))) (by omega) r36 (by omega) H locs hW ls (lv_sub hl [0, 1, 2, 3] rfl)
  exact L36 (n - 1) (u2 wy (Kn n cd ke ha (n - 2)) (Kn n cd ke ha (n - 2)) 0) (by omega) rfl H locs hW ls (lv_sub hl [2, 1, 0] rfl)
set_option maxHeartbeats 4000000 in
set_option maxRecDepth 100000 in
theorem c_X1_findStretch (l : Launch) (D : va_G) (cyI cO cyZ : ClassId) (ad : Nat → Nat) (fa : Nat) (n : Nat) (d md : Nat → Nat → Int32) (go ke ha : Nat → Int32) (wy : Nat → Nat → Int32) (ab be sr : Int32)  (hn : n ≤ 6) : Ct l yX1_findStretch (Cond.code yX1_findStretch cX1_findStretch 3 none :: wsL_law) ({ frames := 0, cells := 0, slots := 0, locals := 0 } : Room) D (ty3 cyI cO cyZ) 29 ad fa [.ref (ad 16)] (cC cyI cO ad n d md go ke ha wy ab be sr) (cC cyI cO ad n d md go ke ha wy ((fsV n d wy).1) ((fsV n d wy).2) sr) (none) := by
  refine Ct.of (by decide) (Nat.le_of_ble_eq_true rfl) ?_
  intro p e s m args below meth c A C hr H locs hW ls hl
  have C : Cx p s m args meth c cX1_findStretch 3 RX1 D (ty3 cyI cO cyZ) fa A := C
  have hx := C.1
  have hb := C.2.1
  have hl : lv_has ls 3 [(0, .ref (ad 16))] := hl
  refine lv_aload_n hx hb dX1_findStretch_0 rfl (lv_at hl 0 rfl) ?_
  refine lv_iconst (v := 1) hx hb dX1_findStretch_1 (by decide) ?_
  refine u_put (cf' := cC cyI cO ad n d md go ke ha wy 1 be sr) C hW inlX1 tyX1 tyX1_ok nmX1 (by decide) cC_16 rfl 5 (by decide) mw_45 rfl rfl rfl (Nat.le_of_ble_eq_true rfl) cC_sab dX1_findStretch_2 (fun H locs hW => ?_)
  refine lv_aload_n hx hb dX1_findStretch_5 rfl (lv_at hl 0 rfl) ?_
  refine lv_iconst (v := 1) hx hb dX1_findStretch_6 (by decide) ?_
  refine u_put (cf' := cC cyI cO ad n d md go ke ha wy 1 1 sr) C hW inlX1 tyX1 tyX1_ok nmX1 (by decide) cC_16 rfl 6 (by decide) mw_46 rfl rfl rfl (Nat.le_of_ble_eq_true rfl) cC_sab dX1_findStretch_7 (fun H locs hW => ?_)
  refine lv_iconst (v := 0) hx hb dX1_findStretch_10 (by decide) ?_
  refine lv_istore_n (lv' := [(1, .int 0), (0, .ref (ad 16))]) hx hb dX1_findStretch_11 rfl hl (by decide) rfl (fun ls hl => ?_)
  have L12 : ∀ (k12 : Nat) (i : Nat) (x : Int32) (y : Int32), i + k12 = n → lp (fsO n d wy) i k12 (x, y) = fsV n d wy → ∀ (H : Heap) (locs : List Loc), Wd D 29 ad (cC cyI cO ad n d md go ke ha wy x y sr) A s.heap H locs → ∀ ls : Array Slot, lv_has ls 3 [(1, .int (nI i)), (0, .ref (ad 16))] → W p l e ({ frames := 0, cells := 0, slots := 0, locals := 0 } : Room) s m args below meth c H locs 0 0 (MQ below (uQ D 29 ad (cC cyI cO ad n d md go ke ha wy ((fsV n d wy).1) ((fsV n d wy).2) sr) (none) A) args s 0 0 A) (F0 m 12 ls []) := by
    intro k12
    induction k12 with
    | zero =>
      intro i x y hi r12 H locs hW ls hl
      refine lv_iload_n hx hb dX1_findStretch_12 rfl (lv_at hl 0 rfl) ?_
      refine lv_aload_n hx hb dX1_findStretch_13 rfl (lv_at hl 1 rfl) ?_
      refine u_get C hW inlX1 (by decide) cC_16 rfl 0 (by decide) mw_47 rfl dX1_findStretch_14 ?_
      refine u_getN C hW inlX3 (by decide) cC_1 rfl 2 (by decide) (List.mem_of_getElem? (i := 8) rfl) rfl dX1_findStretch_17 ?_
      refine lv_icmp_ge (tgt := 109) hx hb dX1_findStretch_20 (by decide) (fun _ => ?_) (fun c9 => absurd (nI_le (by omega) (by omega)) c9)
      exact u_vret C hr hW dX1_findStretch_109 (by rw [← r12]; rfl)
    | succ k12 ih12 =>
      intro i x y hi r12 H locs hW ls hl
      refine lv_iload_n hx hb dX1_findStretch_12 rfl (lv_at hl 0 rfl) ?_
      refine lv_aload_n hx hb dX1_findStretch_13 rfl (lv_at hl 1 rfl) ?_
      refine u_get C hW inlX1 (by decide) cC_16 rfl 0 (by decide) mw_47 rfl dX1_findStretch_14 ?_
      refine u_getN C hW inlX3 (by decide) cC_1 rfl 2 (by decide) (List.mem_of_getElem? (i := 8) rfl) rfl dX1_findStretch_17 ?_
      refine lv_icmp_ge (tgt := 109) hx hb dX1_findStretch_20 (by decide) (fun c9 => absurd c9 (nI_ge (by omega) (by omega))) (fun _ => ?_)
      refine lv_iload_n hx hb dX1_findStretch_23 rfl (lv_at hl 0 rfl) ?_
      refine lv_iconst (v := 1) hx hb dX1_findStretch_24 (by decide) ?_
      refine lv_iadd hx hb dX1_findStretch_25 ?_
      refine u_top (show (nI i) + 1 = nI (i + 1) from nI_add i 1) ?_
      refine lv_istore_n (lv' := [(2, .int (nI (i + 1))), (1, .int (nI i)), (0, .ref (ad 16))]) hx hb dX1_findStretch_26 rfl hl (by decide) rfl (fun ls hl => ?_)
      have L27 : ∀ (k27 : Nat) (j : Nat) (x : Int32) (y : Int32), j + k27 = n → lp (fsO n d wy) (i + 1) k12 (lp (fsI d wy i) j k27 (x, y)) = fsV n d wy → ∀ (H : Heap) (locs : List Loc), Wd D 29 ad (cC cyI cO ad n d md go ke ha wy x y sr) A s.heap H locs → ∀ ls : Array Slot, lv_has ls 3 [(2, .int (nI j)), (0, .ref (ad 16)), (1, .int (nI i))] → W p l e ({ frames := 0, cells := 0, slots := 0, locals := 0 } : Room) s m args below meth c H locs 0 0 (MQ below (uQ D 29 ad (cC cyI cO ad n d md go ke ha wy ((fsV n d wy).1) ((fsV n d wy).2) sr) (none) A) args s 0 0 A) (F0 m 27 ls []) := by
        intro k27
        induction k27 with
        | zero =>
          intro j x y hj r27 H locs hW ls hl
          refine lv_iload_n hx hb dX1_findStretch_27 rfl (lv_at hl 0 rfl) ?_
          refine lv_aload_n hx hb dX1_findStretch_28 rfl (lv_at hl 1 rfl) ?_
          refine u_get C hW inlX1 (by decide) cC_16 rfl 0 (by decide) mw_47 rfl dX1_findStretch_29 ?_
          refine u_getN C hW inlX3 (by decide) cC_1 rfl 2 (by decide) (List.mem_of_getElem? (i := 8) rfl) rfl dX1_findStretch_32 ?_
          refine lv_icmp_ge (tgt := 103) hx hb dX1_findStretch_35 (by decide) (fun _ => ?_) (fun c9 => absurd (nI_le (by omega) (by omega)) c9)
          refine lv_iinc (v := nI (i + 1)) (lv' := [(1, .int (nI (i + 1))), (2, .int (nI j)), (0, .ref (ad 16))]) hx hb dX1_findStretch_103 hl (k := 2) rfl (nI_1 _) (by decide) rfl (fun ls hl => ?_)
          refine lv_goto (tgt := 12) hx hb dX1_findStretch_106 (by decide) ?_
          exact ih12  (i + 1) x y (by omega) r27 H locs hW ls (lv_sub hl [0, 2] rfl)
        | succ k27 ih27 =>
          intro j x y hj r27 H locs hW ls hl
          refine lv_iload_n hx hb dX1_findStretch_27 rfl (lv_at hl 0 rfl) ?_
          refine lv_aload_n hx hb dX1_findStretch_28 rfl (lv_at hl 1 rfl) ?_
          refine u_get C hW inlX1 (by decide) cC_16 rfl 0 (by decide) mw_47 rfl dX1_findStretch_29 ?_
          refine u_getN C hW inlX3 (by decide) cC_1 rfl 2 (by decide) (List.mem_of_getElem? (i := 8) rfl) rfl dX1_findStretch_32 ?_
          refine lv_icmp_ge (tgt := 103) hx hb dX1_findStretch_35 (by decide) (fun c9 => absurd c9 (nI_ge (by omega) (by omega))) (fun _ => ?_)
          refine lv_aload_n hx hb dX1_findStretch_38 rfl (lv_at hl 1 rfl) ?_
          refine u_get C hW inlX1 (by decide) cC_16 rfl 4 (by decide) mw_44 rfl dX1_findStretch_39 ?_
          refine lv_iload_n hx hb dX1_findStretch_42 rfl (lv_at hl 2 rfl) ?_
          refine u_aald C hW (by decide) cC_20 1 rfl i rfl (by omega) (by decide) (cC_outer (by omega)) dX1_findStretch_43 ?_
          refine lv_iload_n hx hb dX1_findStretch_44 rfl (lv_at hl 0 rfl) ?_
          refine u_iald C hW (by omega) (cC_w (by omega)) 0 rfl j rfl (by omega) (by decide) dX1_findStretch_45 ?_
          refine lv_aload_n hx hb dX1_findStretch_46 rfl (lv_at hl 1 rfl) ?_
          refine u_get C hW inlX1 (by decide) cC_16 rfl 6 (by decide) mw_46 rfl dX1_findStretch_47 ?_
          refine lv_imul hx hb dX1_findStretch_50 ?_
          refine lv_aload_n hx hb dX1_findStretch_51 rfl (lv_at hl 1 rfl) ?_
          refine u_get C hW inlX1 (by decide) cC_16 rfl 5 (by decide) mw_45 rfl dX1_findStretch_52 ?_
          refine lv_aload_n hx hb dX1_findStretch_55 rfl (lv_at hl 1 rfl) ?_
          refine u_get C hW inlX1 (by decide) cC_16 rfl 0 (by decide) mw_47 rfl dX1_findStretch_56 ?_
          refine u_getN C hW inlX3 (by decide) cC_1 rfl 0 (by decide) (List.mem_of_getElem? (i := 9) rfl) rfl dX1_findStretch_59 ?_
          refine lv_iload_n hx hb dX1_findStretch_62 rfl (lv_at hl 2 rfl) ?_
          refine u_aald C hW (by decide) cC_2 1 rfl i rfl (by omega) (by decide) (cC_outer (by omega)) dX1_findStretch_63 ?_
          refine lv_iload_n hx hb dX1_findStretch_64 rfl (lv_at hl 0 rfl) ?_
          refine u_iald C hW (by omega) (cC_d (by omega)) 0 rfl j rfl (by omega) (by decide) dX1_findStretch_65 ?_
          refine lv_imul hx hb dX1_findStretch_66 ?_
          refine lv_icmp_le (tgt := 97) hx hb dX1_findStretch_67 (by decide) (fun c67_1 => ?_) (fun c67_1 => ?_)
          · skip
            refine lv_iinc (v := nI (j + 1)) (lv' := [(2, .int (nI (j + 1))), (0, .ref (ad 16)), (1, .int (nI i))]) hx hb dX1_findStretch_97 hl (k := 0) rfl (nI_1 _) (by decide) rfl (fun ls hl => ?_)
            refine lv_goto (tgt := 27) hx hb dX1_findStretch_100 (by decide) ?_
            exact ih27  (j + 1) x y (by omega) (by first | exact r27 | (have h9 := r27; simp only [lp_s, lp_0, fsI, if_pos c67_1] at h9; exact h9)) H locs hW ls (lv_sub hl [0, 1, 2] rfl)
          · skip
            refine lv_aload_n hx hb dX1_findStretch_70 rfl (lv_at hl 1 rfl) ?_
            refine lv_aload_n hx hb dX1_findStretch_71 rfl (lv_at hl 1 rfl) ?_
            refine u_get C hW inlX1 (by decide) cC_16 rfl 4 (by decide) mw_44 rfl dX1_findStretch_72 ?_
            refine lv_iload_n hx hb dX1_findStretch_75 rfl (lv_at hl 2 rfl) ?_
            refine u_aald C hW (by decide) cC_20 1 rfl i rfl (by omega) (by decide) (cC_outer (by omega)) dX1_findStretch_76 ?_
            refine lv_iload_n hx hb dX1_findStretch_77 rfl (lv_at hl 0 rfl) ?_
            refine u_iald C hW (by omega) (cC_w (by omega)) 0 rfl j rfl (by omega) (by decide) dX1_findStretch_78 ?_
            refine u_put (cf' := cC cyI cO ad n d md go ke ha wy (wy i j) y sr) C hW inlX1 tyX1 tyX1_ok nmX1 (by decide) cC_16 rfl 5 (by decide) mw_45 rfl rfl rfl (Nat.le_of_ble_eq_true rfl) cC_sab dX1_findStretch_79 (fun H locs hW => ?_)
            refine lv_aload_n hx hb dX1_findStretch_82 rfl (lv_at hl 1 rfl) ?_
            refine lv_aload_n hx hb dX1_findStretch_83 rfl (lv_at hl 1 rfl) ?_
            refine u_get C hW inlX1 (by decide) cC_16 rfl 0 (by decide) mw_47 rfl dX1_findStretch_84 ?_
            refine u_getN C hW inlX3 (by decide) cC_1 rfl 0 (by decide) (List.mem_of_getElem? (i := 9) rfl) rfl dX1_findStretch_87 ?_
            refine lv_iload_n hx hb dX1_findStretch_90 rfl (lv_at hl 2 rfl) ?_
            refine u_aald C hW (by decide) cC_2 1 rfl i rfl (by omega) (by decide) (cC_outer (by omega)) dX1_findStretch_91 ?_
            refine lv_iload_n hx hb dX1_findStretch_92 rfl (lv_at hl 0 rfl) ?_
            refine u_iald C hW (by omega) (cC_d (by omega)) 0 rfl j rfl (by omega) (by decide) dX1_findStretch_93 ?_
            refine u_put (cf' := cC cyI cO ad n d md go ke ha wy (wy i j) (d i j) sr) C hW inlX1 tyX1 tyX1_ok nmX1 (by decide) cC_16 rfl 6 (by decide) mw_46 rfl rfl rfl (Nat.le_of_ble_eq_true rfl) cC_sab dX1_findStretch_94 (fun H locs hW => ?_)
            refine lv_iinc (v := nI (j + 1)) (lv' := [(2, .int (nI (j + 1))), (0, .ref (ad 16)), (1, .int (nI i))]) hx hb dX1_findStretch_97 hl (k := 0) rfl (nI_1 _) (by decide) rfl (fun ls hl => ?_)
            refine lv_goto (tgt := 27) hx hb dX1_findStretch_100 (by decide) ?_
            exact ih27  (j + 1) (wy i j) (d i j) (by omega) (by first | exact r27 | (have h9 := r27; simp only [lp_s, lp_0, fsI, if_neg c67_1] at h9; exact h9)) H locs hW ls (lv_sub hl [0, 1, 2] rfl)
      exact L27 (n - (i + 1)) (i + 1) x y (by omega) r12 H locs hW ls (lv_sub hl [0, 2, 1] rfl)
  exact L12 n 0 1 1 (by omega) rfl H locs hW ls (lv_sub hl [0, 1] rfl)
set_option maxHeartbeats 4000000 in
set_option maxRecDepth 100000 in
theorem c_X1_leastByStretch (l : Launch) (D : va_G) (cyI cO cyZ : ClassId) (ad : Nat → Nat) (fa : Nat) (n : Nat) (d md : Nat → Nat → Int32) (go ke ha : Nat → Int32) (wy : Nat → Nat → Int32) (ab be sr : Int32)  (hn : n ≤ 6) (h2 : 2 ≤ n) : Ct l yX1_leastByStretch (Cond.code yX1_leastByStretch cX1_leastByStretch 6 (some .int) :: wsL_law) ({ frames := 4, cells := 0, slots := 0, locals := 93 } : Room) D (ty3 cyI cO cyZ) 29 ad fa [.ref (ad 16)] (cC cyI cO ad n d md go ke ha wy ab be sr) (cC cyI cO ad n d md ((bsV n d ab be (go, ke, ha, wy)).2.2.2.2.2.1) ((bsV n d ab be (go, ke, ha, wy)).2.2.2.2.2.2.1) ((bsV n d ab be (go, ke, ha, wy)).2.2.2.2.2.2.2.1) ((bsV n d ab be (go, ke, ha, wy)).2.2.2.2.2.2.2.2) ((bsV n d ab be (go, ke, ha, wy)).2.2.2.1) ((bsV n d ab be (go, ke, ha, wy)).2.2.2.2.1) sr) (some (.int ((bsV n d ab be (go, ke, ha, wy)).1))) := by
  refine Ct.of (by decide) (Nat.le_of_ble_eq_true rfl) ?_
  intro p e s m args below meth c A C hr H locs hW ls hl
  have C : Cx p s m args meth c cX1_leastByStretch 6 RX1 D (ty3 cyI cO cyZ) fa A := C
  have hx := C.1
  have hb := C.2.1
  have hl : lv_has ls 6 [(0, .ref (ad 16))] := hl
  have hcm := cmV_le hn
  refine lv_iconst (v := 0) hx hb dX1_leastByStretch_0 (by decide) ?_
  refine lv_istore_n (lv' := [(1, .int 0), (0, .ref (ad 16))]) hx hb dX1_leastByStretch_1 rfl hl (by decide) rfl (fun ls hl => ?_)
  refine lv_iconst (v := 0) hx hb dX1_leastByStretch_2 (by decide) ?_
  refine lv_istore_n (lv' := [(2, .int 0), (1, .int 0), (0, .ref (ad 16))]) hx hb dX1_leastByStretch_3 rfl hl (by decide) rfl (fun ls hl => ?_)
  refine lv_iconst (v := 0) hx hb dX1_leastByStretch_4 (by decide) ?_
  refine lv_istore_n (lv' := [(3, .int 0), (2, .int 0), (1, .int 0), (0, .ref (ad 16))]) hx hb dX1_leastByStretch_5 rfl hl (by decide) rfl (fun ls hl => ?_)
  refine lv_aload_n hx hb dX1_leastByStretch_6 rfl (lv_at hl 3 rfl) ?_
  refine u_callV (cf' := cC cyI cO ad n d md go ke ha wy ab be sr) (As := []) (rest := []) (st1 := [.int (nI (cmV n))]) C hW (c_X1_howMany l D cyI cO cyZ ad fa n d md go ke ha wy ab be sr  (by omega) (by omega)) mv_yX1_howMany mw_400 rfl ⟨rfl, rfl, Nat.le_of_ble_eq_true rfl, Nat.le_of_ble_eq_true rfl⟩ (by decide) cC_16 rfl rfl hl (Nat.le_of_ble_eq_true rfl) rfl rfl dX1_leastByStretch_7 (fun H locs hW => ?_)
  refine lv_istore (lv' := [(4, .int (nI (cmV n))), (3, .int 0), (2, .int 0), (1, .int 0), (0, .ref (ad 16))]) hx hb dX1_leastByStretch_10 hl (by decide) rfl (fun ls hl => ?_)
  refine lv_iconst (v := 0) hx hb dX1_leastByStretch_12 (by decide) ?_
  refine lv_istore (lv' := [(5, .int 0), (4, .int (nI (cmV n))), (3, .int 0), (2, .int 0), (1, .int 0), (0, .ref (ad 16))]) hx hb dX1_leastByStretch_13 hl (by decide) rfl (fun ls hl => ?_)
  have L15 : ∀ (k15 : Nat) (q : Nat) (ls0 : Int32) (la : Int32) (lb : Int32) (x : Int32) (y : Int32) (g1 : Nat → Int32) (k1 : Nat → Int32) (h1 : Nat → Int32) (w1 : Nat → Nat → Int32), q + k15 = cmV n → lp (bsF n d) q k15 (ls0, la, lb, x, y, g1, k1, h1, w1) = bsV n d ab be (go, ke, ha, wy) → ∀ (H : Heap) (locs : List Loc), Wd D 29 ad (cC cyI cO ad n d md g1 k1 h1 w1 x y sr) A s.heap H locs → ∀ ls : Array Slot, lv_has ls 6 [(5, .int (nI q)), (0, .ref (ad 16)), (1, .int ls0), (2, .int la), (3, .int lb), (4, .int (nI (cmV n)))] → W p l e ({ frames := 4, cells := 0, slots := 0, locals := 93 } : Room) s m args below meth c H locs 0 0 (MQ below (uQ D 29 ad (cC cyI cO ad n d md ((bsV n d ab be (go, ke, ha, wy)).2.2.2.2.2.1) ((bsV n d ab be (go, ke, ha, wy)).2.2.2.2.2.2.1) ((bsV n d ab be (go, ke, ha, wy)).2.2.2.2.2.2.2.1) ((bsV n d ab be (go, ke, ha, wy)).2.2.2.2.2.2.2.2) ((bsV n d ab be (go, ke, ha, wy)).2.2.2.1) ((bsV n d ab be (go, ke, ha, wy)).2.2.2.2.1) sr) (some (.int ((bsV n d ab be (go, ke, ha, wy)).1))) A) args s 0 0 A) (F0 m 15 ls []) := by
    intro k15
    induction k15 with
    | zero =>
      intro q ls0 la lb x y g1 k1 h1 w1 hq r15 H locs hW ls hl
      refine lv_iload hx hb dX1_leastByStretch_15 (lv_at hl 0 rfl) ?_
      refine lv_iload hx hb dX1_leastByStretch_17 (lv_at hl 5 rfl) ?_
      refine lv_icmp_ge (tgt := 71) hx hb dX1_leastByStretch_19 (by decide) (fun _ => ?_) (fun c9 => absurd (nI_le (by omega) (by omega)) c9)
      refine lv_iload_n hx hb dX1_leastByStretch_71 rfl (lv_at hl 2 rfl) ?_
      exact u_iret C hr hW dX1_leastByStretch_72 (by rw [← r15]; rfl) (by rw [← r15]; rfl)
    | succ k15 ih15 =>
      intro q ls0 la lb x y g1 k1 h1 w1 hq r15 H locs hW ls hl
      refine lv_iload hx hb dX1_leastByStretch_15 (lv_at hl 0 rfl) ?_
      refine lv_iload hx hb dX1_leastByStretch_17 (lv_at hl 5 rfl) ?_
      refine lv_icmp_ge (tgt := 71) hx hb dX1_leastByStretch_19 (by decide) (fun c9 => absurd c9 (nI_ge (by omega) (by omega))) (fun _ => ?_)
      refine lv_aload_n hx hb dX1_leastByStretch_22 rfl (lv_at hl 1 rfl) ?_
      refine lv_iload hx hb dX1_leastByStretch_23 (lv_at hl 0 rfl) ?_
      refine u_callV (cf' := cC cyI cO ad n d md (rdG n q g1 k1 h1) (rdK n q k1 h1) (rdH n q k1 h1) (lyV n d (Gn n q k1 h1) (Kn n q k1 h1) w1) x y sr) (As := [.int (nI q)]) (rest := []) (st1 := []) C hW (c_X1_lay l D cyI cO cyZ ad fa n d md g1 k1 h1 w1 x y sr q (by omega) (by omega) (by omega)) mv_yX1_lay mw_401 rfl ⟨rfl, rfl, Nat.le_of_ble_eq_true rfl, Nat.le_of_ble_eq_true rfl⟩ (by decide) cC_16 rfl rfl hl (Nat.le_of_ble_eq_true rfl) rfl rfl dX1_leastByStretch_25 (fun H locs hW => ?_)
      refine lv_aload_n hx hb dX1_leastByStretch_28 rfl (lv_at hl 1 rfl) ?_
      refine u_callV (cf' := cC cyI cO ad n d md (rdG n q g1 k1 h1) (rdK n q k1 h1) (rdH n q k1 h1) (lyV n d (Gn n q k1 h1) (Kn n q k1 h1) w1) ((fsV n d (lyV n d (Gn n q k1 h1) (Kn n q k1 h1) w1)).1) ((fsV n d (lyV n d (Gn n q k1 h1) (Kn n q k1 h1) w1)).2) sr) (As := []) (rest := []) (st1 := []) C hW (c_X1_findStretch l D cyI cO cyZ ad fa n d md (rdG n q g1 k1 h1) (rdK n q k1 h1) (rdH n q k1 h1) (lyV n d (Gn n q k1 h1) (Kn n q k1 h1) w1) x y sr  (by omega)) mv_yX1_findStretch mw_402 rfl ⟨rfl, rfl, Nat.le_of_ble_eq_true rfl, Nat.le_of_ble_eq_true rfl⟩ (by decide) cC_16 rfl rfl hl (Nat.le_of_ble_eq_true rfl) rfl rfl dX1_leastByStretch_29 (fun H locs hW => ?_)
      refine lv_iload hx hb dX1_leastByStretch_32 (lv_at hl 0 rfl) ?_
      refine lv_if_eq (tgt := 52) hx hb dX1_leastByStretch_34 (by decide) (fun c34_1 => ?_) (fun c34_1 => ?_)
      · skip
        refine lv_iload hx hb dX1_leastByStretch_52 (lv_at hl 0 rfl) ?_
        refine lv_istore_n (lv' := [(1, .int (nI q)), (5, .int (nI q)), (0, .ref (ad 16)), (2, .int la), (3, .int lb), (4, .int (nI (cmV n)))]) hx hb dX1_leastByStretch_54 rfl hl (by decide) rfl (fun ls hl => ?_)
        refine lv_aload_n hx hb dX1_leastByStretch_55 rfl (lv_at hl 2 rfl) ?_
        refine u_get C hW inlX1 (by decide) cC_16 rfl 5 (by decide) mw_45 rfl dX1_leastByStretch_56 ?_
        refine lv_istore_n (lv' := [(2, .int ((fsV n d (lyV n d (Gn n q k1 h1) (Kn n q k1 h1) w1)).1)), (1, .int (nI q)), (5, .int (nI q)), (0, .ref (ad 16)), (3, .int lb), (4, .int (nI (cmV n)))]) hx hb dX1_leastByStretch_59 rfl hl (by decide) rfl (fun ls hl => ?_)
        refine lv_aload_n hx hb dX1_leastByStretch_60 rfl (lv_at hl 3 rfl) ?_
        refine u_get C hW inlX1 (by decide) cC_16 rfl 6 (by decide) mw_46 rfl dX1_leastByStretch_61 ?_
        refine lv_istore_n (lv' := [(3, .int ((fsV n d (lyV n d (Gn n q k1 h1) (Kn n q k1 h1) w1)).2)), (2, .int ((fsV n d (lyV n d (Gn n q k1 h1) (Kn n q k1 h1) w1)).1)), (1, .int (nI q)), (5, .int (nI q)), (0, .ref (ad 16)), (4, .int (nI (cmV n)))]) hx hb dX1_leastByStretch_64 rfl hl (by decide) rfl (fun ls hl => ?_)
        refine lv_iinc (v := nI (q + 1)) (lv' := [(5, .int (nI (q + 1))), (3, .int ((fsV n d (lyV n d (Gn n q k1 h1) (Kn n q k1 h1) w1)).2)), (2, .int ((fsV n d (lyV n d (Gn n q k1 h1) (Kn n q k1 h1) w1)).1)), (1, .int (nI q)), (0, .ref (ad 16)), (4, .int (nI (cmV n)))]) hx hb dX1_leastByStretch_65 hl (k := 3) rfl (nI_1 _) (by decide) rfl (fun ls hl => ?_)
        refine lv_goto (tgt := 15) hx hb dX1_leastByStretch_68 (by decide) ?_
        exact ih15  (q + 1) (nI q) ((fsV n d (lyV n d (Gn n q k1 h1) (Kn n q k1 h1) w1)).1) ((fsV n d (lyV n d (Gn n q k1 h1) (Kn n q k1 h1) w1)).2) ((fsV n d (lyV n d (Gn n q k1 h1) (Kn n q k1 h1) w1)).1) ((fsV n d (lyV n d (Gn n q k1 h1) (Kn n q k1 h1) w1)).2) (rdG n q g1 k1 h1) (rdK n q k1 h1) (rdH n q k1 h1) (lyV n d (Gn n q k1 h1) (Kn n q k1 h1) w1) (by omega) (by refine Eq.trans (congrArg (lp (bsF n d) (q + 1) k15) (Eq.symm ?_)) r15; exact (if_pos c34_1)) H locs hW ls (lv_sub hl [0, 4, 3, 2, 1, 5] rfl)
      · skip
        refine lv_aload_n hx hb dX1_leastByStretch_37 rfl (lv_at hl 1 rfl) ?_
        refine u_get C hW inlX1 (by decide) cC_16 rfl 5 (by decide) mw_45 rfl dX1_leastByStretch_38 ?_
        refine lv_iload_n hx hb dX1_leastByStretch_41 rfl (lv_at hl 4 rfl) ?_
        refine lv_imul hx hb dX1_leastByStretch_42 ?_
        refine lv_iload_n hx hb dX1_leastByStretch_43 rfl (lv_at hl 3 rfl) ?_
        refine lv_aload_n hx hb dX1_leastByStretch_44 rfl (lv_at hl 1 rfl) ?_
        refine u_get C hW inlX1 (by decide) cC_16 rfl 6 (by decide) mw_46 rfl dX1_leastByStretch_45 ?_
        refine lv_imul hx hb dX1_leastByStretch_48 ?_
        refine lv_icmp_ge (tgt := 65) hx hb dX1_leastByStretch_49 (by decide) (fun c49_2 => ?_) (fun c49_2 => ?_)
        · skip
          refine lv_iinc (v := nI (q + 1)) (lv' := [(5, .int (nI (q + 1))), (0, .ref (ad 16)), (1, .int ls0), (2, .int la), (3, .int lb), (4, .int (nI (cmV n)))]) hx hb dX1_leastByStretch_65 hl (k := 0) rfl (nI_1 _) (by decide) rfl (fun ls hl => ?_)
          refine lv_goto (tgt := 15) hx hb dX1_leastByStretch_68 (by decide) ?_
          exact ih15  (q + 1) ls0 la lb ((fsV n d (lyV n d (Gn n q k1 h1) (Kn n q k1 h1) w1)).1) ((fsV n d (lyV n d (Gn n q k1 h1) (Kn n q k1 h1) w1)).2) (rdG n q g1 k1 h1) (rdK n q k1 h1) (rdH n q k1 h1) (lyV n d (Gn n q k1 h1) (Kn n q k1 h1) w1) (by omega) (by refine Eq.trans (congrArg (lp (bsF n d) (q + 1) k15) (Eq.symm ?_)) r15; exact ((if_neg c34_1).trans (if_pos c49_2))) H locs hW ls (lv_sub hl [0, 1, 2, 3, 4, 5] rfl)
        · skip
          refine lv_iload hx hb dX1_leastByStretch_52 (lv_at hl 0 rfl) ?_
          refine lv_istore_n (lv' := [(1, .int (nI q)), (5, .int (nI q)), (0, .ref (ad 16)), (2, .int la), (3, .int lb), (4, .int (nI (cmV n)))]) hx hb dX1_leastByStretch_54 rfl hl (by decide) rfl (fun ls hl => ?_)
          refine lv_aload_n hx hb dX1_leastByStretch_55 rfl (lv_at hl 2 rfl) ?_
          refine u_get C hW inlX1 (by decide) cC_16 rfl 5 (by decide) mw_45 rfl dX1_leastByStretch_56 ?_
          refine lv_istore_n (lv' := [(2, .int ((fsV n d (lyV n d (Gn n q k1 h1) (Kn n q k1 h1) w1)).1)), (1, .int (nI q)), (5, .int (nI q)), (0, .ref (ad 16)), (3, .int lb), (4, .int (nI (cmV n)))]) hx hb dX1_leastByStretch_59 rfl hl (by decide) rfl (fun ls hl => ?_)
          refine lv_aload_n hx hb dX1_leastByStretch_60 rfl (lv_at hl 3 rfl) ?_
          refine u_get C hW inlX1 (by decide) cC_16 rfl 6 (by decide) mw_46 rfl dX1_leastByStretch_61 ?_
          refine lv_istore_n (lv' := [(3, .int ((fsV n d (lyV n d (Gn n q k1 h1) (Kn n q k1 h1) w1)).2)), (2, .int ((fsV n d (lyV n d (Gn n q k1 h1) (Kn n q k1 h1) w1)).1)), (1, .int (nI q)), (5, .int (nI q)), (0, .ref (ad 16)), (4, .int (nI (cmV n)))]) hx hb dX1_leastByStretch_64 rfl hl (by decide) rfl (fun ls hl => ?_)
          refine lv_iinc (v := nI (q + 1)) (lv' := [(5, .int (nI (q + 1))), (3, .int ((fsV n d (lyV n d (Gn n q k1 h1) (Kn n q k1 h1) w1)).2)), (2, .int ((fsV n d (lyV n d (Gn n q k1 h1) (Kn n q k1 h1) w1)).1)), (1, .int (nI q)), (0, .ref (ad 16)), (4, .int (nI (cmV n)))]) hx hb dX1_leastByStretch_65 hl (k := 3) rfl (nI_1 _) (by decide) rfl (fun ls hl => ?_)
          refine lv_goto (tgt := 15) hx hb dX1_leastByStretch_68 (by decide) ?_
          exact ih15  (q + 1) (nI q) ((fsV n d (lyV n d (Gn n q k1 h1) (Kn n q k1 h1) w1)).1) ((fsV n d (lyV n d (Gn n q k1 h1) (Kn n q k1 h1) w1)).2) ((fsV n d (lyV n d (Gn n q k1 h1) (Kn n q k1 h1) w1)).1) ((fsV n d (lyV n d (Gn n q k1 h1) (Kn n q k1 h1) w1)).2) (rdG n q g1 k1 h1) (rdK n q k1 h1) (rdH n q k1 h1) (lyV n d (Gn n q k1 h1) (Kn n q k1 h1) w1) (by omega) (by refine Eq.trans (congrArg (lp (bsF n d) (q + 1) k15) (Eq.symm ?_)) r15; exact ((if_neg c34_1).trans (if_neg c49_2))) H locs hW ls (lv_sub hl [0, 4, 3, 2, 1, 5] rfl)
  exact L15 (cmV n) 0 0 0 0 ab be go ke ha wy (by omega) rfl H locs hW ls (lv_sub hl [0, 5, 4, 3, 2, 1] rfl)
set_option maxHeartbeats 4000000 in
set_option maxRecDepth 100000 in
theorem c_X1_leastBySpread (l : Launch) (D : va_G) (cyI cO cyZ : ClassId) (ad : Nat → Nat) (fa : Nat) (n : Nat) (d md : Nat → Nat → Int32) (go ke ha : Nat → Int32) (wy : Nat → Nat → Int32) (ab be sr : Int32)  (hn : n ≤ 6) (h2 : 2 ≤ n) : Ct l yX1_leastBySpread (Cond.code yX1_leastBySpread cX1_leastBySpread 6 (some .int) :: wsL_law) ({ frames := 4, cells := 0, slots := 0, locals := 93 } : Room) D (ty3 cyI cO cyZ) 29 ad fa [.ref (ad 16)] (cC cyI cO ad n d md go ke ha wy ab be sr) (cC cyI cO ad n d md ((bpV n d (go, ke, ha, wy)).2.2.1) ((bpV n d (go, ke, ha, wy)).2.2.2.1) ((bpV n d (go, ke, ha, wy)).2.2.2.2.1) ((bpV n d (go, ke, ha, wy)).2.2.2.2.2) ab be sr) (some (.int ((bpV n d (go, ke, ha, wy)).1))) := by
  refine Ct.of (by decide) (Nat.le_of_ble_eq_true rfl) ?_
  intro p e s m args below meth c A C hr H locs hW ls hl
  have C : Cx p s m args meth c cX1_leastBySpread 6 RX1 D (ty3 cyI cO cyZ) fa A := C
  have hx := C.1
  have hb := C.2.1
  have hl : lv_has ls 6 [(0, .ref (ad 16))] := hl
  have hcm := cmV_le hn
  refine lv_iconst (v := 0) hx hb dX1_leastBySpread_0 (by decide) ?_
  refine lv_istore_n (lv' := [(1, .int 0), (0, .ref (ad 16))]) hx hb dX1_leastBySpread_1 rfl hl (by decide) rfl (fun ls hl => ?_)
  refine lv_iconst (v := 0) hx hb dX1_leastBySpread_2 (by decide) ?_
  refine lv_istore_n (lv' := [(2, .int 0), (1, .int 0), (0, .ref (ad 16))]) hx hb dX1_leastBySpread_3 rfl hl (by decide) rfl (fun ls hl => ?_)
  refine lv_aload_n hx hb dX1_leastBySpread_4 rfl (lv_at hl 2 rfl) ?_
  refine u_callV (cf' := cC cyI cO ad n d md go ke ha wy ab be sr) (As := []) (rest := []) (st1 := [.int (nI (cmV n))]) C hW (c_X1_howMany l D cyI cO cyZ ad fa n d md go ke ha wy ab be sr  (by omega) (by omega)) mv_yX1_howMany mw_400 rfl ⟨rfl, rfl, Nat.le_of_ble_eq_true rfl, Nat.le_of_ble_eq_true rfl⟩ (by decide) cC_16 rfl rfl hl (Nat.le_of_ble_eq_true rfl) rfl rfl dX1_leastBySpread_5 (fun H locs hW => ?_)
  refine lv_istore_n (lv' := [(3, .int (nI (cmV n))), (2, .int 0), (1, .int 0), (0, .ref (ad 16))]) hx hb dX1_leastBySpread_8 rfl hl (by decide) rfl (fun ls hl => ?_)
  refine lv_iconst (v := 0) hx hb dX1_leastBySpread_9 (by decide) ?_
  refine lv_istore (lv' := [(4, .int 0), (3, .int (nI (cmV n))), (2, .int 0), (1, .int 0), (0, .ref (ad 16))]) hx hb dX1_leastBySpread_10 hl (by decide) rfl (fun ls hl => ?_)
  have L12 : ∀ (k12 : Nat) (q : Nat) (ls0 : Int32) (la : Int32) (g1 : Nat → Int32) (k1 : Nat → Int32) (h1 : Nat → Int32) (w1 : Nat → Nat → Int32), q + k12 = cmV n → lp (bpF n d) q k12 (ls0, la, g1, k1, h1, w1) = bpV n d (go, ke, ha, wy) → ∀ (H : Heap) (locs : List Loc), Wd D 29 ad (cC cyI cO ad n d md g1 k1 h1 w1 ab be sr) A s.heap H locs → ∀ ls : Array Slot, lv_has ls 6 [(4, .int (nI q)), (0, .ref (ad 16)), (1, .int ls0), (2, .int la), (3, .int (nI (cmV n)))] → W p l e ({ frames := 4, cells := 0, slots := 0, locals := 93 } : Room) s m args below meth c H locs 0 0 (MQ below (uQ D 29 ad (cC cyI cO ad n d md ((bpV n d (go, ke, ha, wy)).2.2.1) ((bpV n d (go, ke, ha, wy)).2.2.2.1) ((bpV n d (go, ke, ha, wy)).2.2.2.2.1) ((bpV n d (go, ke, ha, wy)).2.2.2.2.2) ab be sr) (some (.int ((bpV n d (go, ke, ha, wy)).1))) A) args s 0 0 A) (F0 m 12 ls []) := by
    intro k12
    induction k12 with
    | zero =>
      intro q ls0 la g1 k1 h1 w1 hq r12 H locs hW ls hl
      refine lv_iload hx hb dX1_leastBySpread_12 (lv_at hl 0 rfl) ?_
      refine lv_iload_n hx hb dX1_leastBySpread_14 rfl (lv_at hl 4 rfl) ?_
      refine lv_icmp_ge (tgt := 60) hx hb dX1_leastBySpread_15 (by decide) (fun _ => ?_) (fun c9 => absurd (nI_le (by omega) (by omega)) c9)
      refine lv_iload_n hx hb dX1_leastBySpread_60 rfl (lv_at hl 2 rfl) ?_
      exact u_iret C hr hW dX1_leastBySpread_61 (by rw [← r12]; rfl) (by rw [← r12]; rfl)
    | succ k12 ih12 =>
      intro q ls0 la g1 k1 h1 w1 hq r12 H locs hW ls hl
      refine lv_iload hx hb dX1_leastBySpread_12 (lv_at hl 0 rfl) ?_
      refine lv_iload_n hx hb dX1_leastBySpread_14 rfl (lv_at hl 4 rfl) ?_
      refine lv_icmp_ge (tgt := 60) hx hb dX1_leastBySpread_15 (by decide) (fun c9 => absurd c9 (nI_ge (by omega) (by omega))) (fun _ => ?_)
      refine lv_aload_n hx hb dX1_leastBySpread_18 rfl (lv_at hl 1 rfl) ?_
      refine lv_iload hx hb dX1_leastBySpread_19 (lv_at hl 0 rfl) ?_
      refine u_callV (cf' := cC cyI cO ad n d md (rdG n q g1 k1 h1) (rdK n q k1 h1) (rdH n q k1 h1) (lyV n d (Gn n q k1 h1) (Kn n q k1 h1) w1) ab be sr) (As := [.int (nI q)]) (rest := []) (st1 := []) C hW (c_X1_lay l D cyI cO cyZ ad fa n d md g1 k1 h1 w1 ab be sr q (by omega) (by omega) (by omega)) mv_yX1_lay mw_401 rfl ⟨rfl, rfl, Nat.le_of_ble_eq_true rfl, Nat.le_of_ble_eq_true rfl⟩ (by decide) cC_16 rfl rfl hl (Nat.le_of_ble_eq_true rfl) rfl rfl dX1_leastBySpread_21 (fun H locs hW => ?_)
      refine lv_aload_n hx hb dX1_leastBySpread_24 rfl (lv_at hl 1 rfl) ?_
      refine u_get C hW inlX1 (by decide) cC_16 rfl 0 (by decide) mw_47 rfl dX1_leastBySpread_25 ?_
      refine lv_aload_n hx hb dX1_leastBySpread_28 rfl (lv_at hl 1 rfl) ?_
      refine u_get C hW inlX1 (by decide) cC_16 rfl 4 (by decide) mw_44 rfl dX1_leastBySpread_29 ?_
      refine u_callV (cf' := cC cyI cO ad n d md (rdG n q g1 k1 h1) (rdK n q k1 h1) (rdH n q k1 h1) (lyV n d (Gn n q k1 h1) (Kn n q k1 h1) w1) ab be sr) (As := [.ref (ad 20)]) (rest := []) (st1 := [.int (suV n (lyV n d (Gn n q k1 h1) (Kn n q k1 h1) w1))]) C hW (c_sumOfW l D cyI cO cyZ ad fa n d md (rdG n q g1 k1 h1) (rdK n q k1 h1) (rdH n q k1 h1) (lyV n d (Gn n q k1 h1) (Kn n q k1 h1) w1) ab be sr  (by omega)) mv_yX3_sumOf mw_407 rfl ⟨rfl, rfl, Nat.le_of_ble_eq_true rfl, Nat.le_of_ble_eq_true rfl⟩ (by decide) cC_1 rfl rfl hl (Nat.le_of_ble_eq_true rfl) rfl rfl dX1_leastBySpread_32 (fun H locs hW => ?_)
      refine lv_istore (lv' := [(5, .int (suV n (lyV n d (Gn n q k1 h1) (Kn n q k1 h1) w1))), (4, .int (nI q)), (0, .ref (ad 16)), (1, .int ls0), (2, .int la), (3, .int (nI (cmV n)))]) hx hb dX1_leastBySpread_35 hl (by decide) rfl (fun ls hl => ?_)
      refine lv_iload hx hb dX1_leastBySpread_37 (lv_at hl 1 rfl) ?_
      refine lv_if_eq (tgt := 48) hx hb dX1_leastBySpread_39 (by decide) (fun c39_1 => ?_) (fun c39_1 => ?_)
      · skip
        refine lv_iload hx hb dX1_leastBySpread_48 (lv_at hl 1 rfl) ?_
        refine lv_istore_n (lv' := [(1, .int (nI q)), (5, .int (suV n (lyV n d (Gn n q k1 h1) (Kn n q k1 h1) w1))), (4, .int (nI q)), (0, .ref (ad 16)), (2, .int la), (3, .int (nI (cmV n)))]) hx hb dX1_leastBySpread_50 rfl hl (by decide) rfl (fun ls hl => ?_)
        refine lv_iload hx hb dX1_leastBySpread_51 (lv_at hl 1 rfl) ?_
        refine lv_istore_n (lv' := [(2, .int (suV n (lyV n d (Gn n q k1 h1) (Kn n q k1 h1) w1))), (1, .int (nI q)), (5, .int (suV n (lyV n d (Gn n q k1 h1) (Kn n q k1 h1) w1))), (4, .int (nI q)), (0, .ref (ad 16)), (3, .int (nI (cmV n)))]) hx hb dX1_leastBySpread_53 rfl hl (by decide) rfl (fun ls hl => ?_)
        refine lv_iinc (v := nI (q + 1)) (lv' := [(4, .int (nI (q + 1))), (2, .int (suV n (lyV n d (Gn n q k1 h1) (Kn n q k1 h1) w1))), (1, .int (nI q)), (5, .int (suV n (lyV n d (Gn n q k1 h1) (Kn n q k1 h1) w1))), (0, .ref (ad 16)), (3, .int (nI (cmV n)))]) hx hb dX1_leastBySpread_54 hl (k := 3) rfl (nI_1 _) (by decide) rfl (fun ls hl => ?_)
        refine lv_goto (tgt := 12) hx hb dX1_leastBySpread_57 (by decide) ?_
        exact ih12  (q + 1) (nI q) (suV n (lyV n d (Gn n q k1 h1) (Kn n q k1 h1) w1)) (rdG n q g1 k1 h1) (rdK n q k1 h1) (rdH n q k1 h1) (lyV n d (Gn n q k1 h1) (Kn n q k1 h1) w1) (by omega) (by refine Eq.trans (congrArg (lp (bpF n d) (q + 1) k12) (Eq.symm ?_)) r12; exact (if_pos c39_1)) H locs hW ls (lv_sub hl [0, 4, 2, 1, 5] rfl)
      · skip
        refine lv_iload hx hb dX1_leastBySpread_42 (lv_at hl 0 rfl) ?_
        refine lv_iload_n hx hb dX1_leastBySpread_44 rfl (lv_at hl 4 rfl) ?_
        refine lv_icmp_ge (tgt := 54) hx hb dX1_leastBySpread_45 (by decide) (fun c45_2 => ?_) (fun c45_2 => ?_)
        · skip
          refine lv_iinc (v := nI (q + 1)) (lv' := [(4, .int (nI (q + 1))), (5, .int (suV n (lyV n d (Gn n q k1 h1) (Kn n q k1 h1) w1))), (0, .ref (ad 16)), (1, .int ls0), (2, .int la), (3, .int (nI (cmV n)))]) hx hb dX1_leastBySpread_54 hl (k := 1) rfl (nI_1 _) (by decide) rfl (fun ls hl => ?_)
          refine lv_goto (tgt := 12) hx hb dX1_leastBySpread_57 (by decide) ?_
          exact ih12  (q + 1) ls0 la (rdG n q g1 k1 h1) (rdK n q k1 h1) (rdH n q k1 h1) (lyV n d (Gn n q k1 h1) (Kn n q k1 h1) w1) (by omega) (by refine Eq.trans (congrArg (lp (bpF n d) (q + 1) k12) (Eq.symm ?_)) r12; exact ((if_neg c39_1).trans (if_pos c45_2))) H locs hW ls (lv_sub hl [0, 2, 3, 4, 5] rfl)
        · skip
          refine lv_iload hx hb dX1_leastBySpread_48 (lv_at hl 1 rfl) ?_
          refine lv_istore_n (lv' := [(1, .int (nI q)), (5, .int (suV n (lyV n d (Gn n q k1 h1) (Kn n q k1 h1) w1))), (4, .int (nI q)), (0, .ref (ad 16)), (2, .int la), (3, .int (nI (cmV n)))]) hx hb dX1_leastBySpread_50 rfl hl (by decide) rfl (fun ls hl => ?_)
          refine lv_iload hx hb dX1_leastBySpread_51 (lv_at hl 1 rfl) ?_
          refine lv_istore_n (lv' := [(2, .int (suV n (lyV n d (Gn n q k1 h1) (Kn n q k1 h1) w1))), (1, .int (nI q)), (5, .int (suV n (lyV n d (Gn n q k1 h1) (Kn n q k1 h1) w1))), (4, .int (nI q)), (0, .ref (ad 16)), (3, .int (nI (cmV n)))]) hx hb dX1_leastBySpread_53 rfl hl (by decide) rfl (fun ls hl => ?_)
          refine lv_iinc (v := nI (q + 1)) (lv' := [(4, .int (nI (q + 1))), (2, .int (suV n (lyV n d (Gn n q k1 h1) (Kn n q k1 h1) w1))), (1, .int (nI q)), (5, .int (suV n (lyV n d (Gn n q k1 h1) (Kn n q k1 h1) w1))), (0, .ref (ad 16)), (3, .int (nI (cmV n)))]) hx hb dX1_leastBySpread_54 hl (k := 3) rfl (nI_1 _) (by decide) rfl (fun ls hl => ?_)
          refine lv_goto (tgt := 12) hx hb dX1_leastBySpread_57 (by decide) ?_
          exact ih12  (q + 1) (nI q) (suV n (lyV n d (Gn n q k1 h1) (Kn n q k1 h1) w1)) (rdG n q g1 k1 h1) (rdK n q k1 h1) (rdH n q k1 h1) (lyV n d (Gn n q k1 h1) (Kn n q k1 h1) w1) (by omega) (by refine Eq.trans (congrArg (lp (bpF n d) (q + 1) k12) (Eq.symm ?_)) r12; exact ((if_neg c39_1).trans (if_neg c45_2))) H locs hW ls (lv_sub hl [0, 4, 2, 1, 5] rfl)
  exact L12 (cmV n) 0 0 0 go ke ha wy (by omega) rfl H locs hW ls (lv_sub hl [0, 4, 3, 2, 1] rfl)
end
section
/-! parts as bits; orders by lots -/
theorem shl1 {n : Nat} (h : n ≤ 6) : (1 : Int32) <<< (nI n &&& 31) = nI (2 ^ n) := by
  have : n = 0 ∨ n = 1 ∨ n = 2 ∨ n = 3 ∨ n = 4 ∨ n = 5 ∨ n = 6 := by omega
  rcases this with rfl | rfl | rfl | rfl | rfl | rfl | rfl <;> decide
theorem pw_half {n : Nat} (h2 : 2 ≤ n) (h : n ≤ 6) : 2 ^ n = 2 * 2 ^ (n - 1) ∧ 2 ^ (n - 1) ≤ 32 ∧ 2 ≤ 2 ^ (n - 1) := by
  have : n = 2 ∨ n = 3 ∨ n = 4 ∨ n = 5 ∨ n = 6 := by omega
  rcases this with rfl | rfl | rfl | rfl | rfl <;> decide
def iiV (part i : Int32) : Int32 := if (part >>> (i &&& 31)) &&& 1 = 1 then 1 else 0
def ipV (n : Nat) (part : Int32) : Int32 := if part ≤ 0 then 0 else if nI (2 ^ n - 1) ≤ part then 0 else if iiV part 0 = 0 then 0 else 1
def acV (d : Nat → Nat → Int32) (i j k q : Nat) : Int32 := mx (d i j + d k q) (mx (d i k + d j q) (d i q + d j k)) - (d i j + d k q)
def laI (d : Nat → Nat → Int32) (part : Int32) (i j k : Nat) (a : Int32) (q : Nat) : Int32 := if iiV part (nI k) = 0 then (if iiV part (nI q) = 0 then mn a (acV d i j k q) else a) else a
def laO (n : Nat) (d : Nat → Nat → Int32) (part : Int32) (i j : Nat) (a : Int32) (k : Nat) : Int32 := lp (laI d part i j k) k (n - k) a
def laV (n : Nat) (d : Nat → Nat → Int32) (part : Int32) (i j : Nat) : Int32 := lp (laO n d part i j) 0 n 2000
def weI (n : Nat) (d : Nat → Nat → Int32) (part : Int32) (i : Nat) (a : Int32) (j : Nat) : Int32 := if iiV part (nI i) = 0 then a else if iiV part (nI j) = 0 then a else mn a (laV n d part i j)
def weO (n : Nat) (d : Nat → Nat → Int32) (part : Int32) (a : Int32) (i : Nat) : Int32 := lp (weI n d part i) i (n - i) a
def weV (n : Nat) (d : Nat → Nat → Int32) (part : Int32) : Int32 := lp (weO n d part) 0 n 2000
def hwF (n : Nat) (d : Nat → Nat → Int32) (a : Int32) (q : Nat) : Int32 := a + asA (if weV n d (nI (2 * q + 1)) ≤ 0 then 0 else 1)
def hwV (n : Nat) (d : Nat → Nat → Int32) : Int32 := lp (hwF n d) 0 (2 ^ (n - 1) - 1) 0
def loF (n : Nat) (d : Nat → Nat → Int32) (i j : Nat) (a : Int32) (q : Nat) : Int32 := if iiV (nI (2 * q + 1)) (nI i) = iiV (nI (2 * q + 1)) (nI j) then a else a - weV n d (nI (2 * q + 1))
def loV (n : Nat) (d : Nat → Nat → Int32) (i j : Nat) : Int32 := lp (loF n d i j) 0 (2 ^ (n - 1) - 1) (2 * d i j)
def fct (n : Nat) : Nat := ([1, 1, 2, 6, 24, 120, 720] : List Nat).getD n 0
theorem facV_n {k : Nat} (h : k ≤ 6) : facV (nI k).toNatClampNeg = .int (nI (fct k)) := by
  rw [nI_clamp (by omega)]
  have : k = 0 ∨ k = 1 ∨ k = 2 ∨ k = 3 ∨ k = 4 ∨ k = 5 ∨ k = 6 := by omega
  rcases this with rfl | rfl | rfl | rfl | rfl | rfl | rfl <;> rfl
theorem fct_in {k : Nat} (h : k ≤ 6) : 0 < fct k ∧ fct k ≤ 720 := by
  have : k = 0 ∨ k = 1 ∨ k = 2 ∨ k = 3 ∨ k = 4 ∨ k = 5 ∨ k = 6 := by omega
  rcases this with rfl | rfl | rfl | rfl | rfl | rfl | rfl <;> decide
def rcF (d : Nat → Nat → Int32) (i : Nat) (r : Int32) (b : Int32) (k : Nat) : Int32 := if r < d i k then b else b ||| (1 <<< (nI k &&& 31))
def rcV (n : Nat) (d : Nat → Nat → Int32) (i : Nat) (r : Int32) : Int32 := lp (rcF d i r) 0 n 0
def us (x : Int32) (k : Int32) : Int32 := (x.toUInt32 >>> (k.toUInt32 &&& Int32.toUInt32 31)).toInt32
def bc1 (x : Int32) : Int32 := x - (us x 1 &&& 1431655765)
def bc2 (x : Int32) : Int32 := (bc1 x &&& 858993459) + (us (bc1 x) 2 &&& 858993459)
def bc3 (x : Int32) : Int32 := (bc2 x + us (bc2 x) 4) &&& 252645135
def bc4 (x : Int32) : Int32 := bc3 x + us (bc3 x) 8
def bc5 (x : Int32) : Int32 := bc4 x + us (bc4 x) 16
def bctV (x : Int32) : Int32 := bc5 x &&& 63
def otV (n : Nat) (d : Nat → Nat → Int32) (i j : Nat) (r : Int32) : Int32 := if bctV (rcV n d i r ||| rcV n d j r) ≤ 0 then 0 else nI (fct n) / bctV (rcV n d i r ||| rcV n d j r) * bctV (rcV n d i r ^^^ rcV n d j r)
def uaN (u : Int32) : Nat → Nat → Int32 → Nat
  | 0, _, _ => 0
  | k + 1, q, t => if (u >>> (nI q &&& 31)) &&& 1 = 1 then (if t = 0 then q else uaN u k (q + 1) (t + -1)) else uaN u k (q + 1) t
theorem uaN_le (u : Int32) : ∀ (k q : Nat) (t : Int32), uaN u k q t = 0 ∨ uaN u k q t < q + k := by
  intro k
  induction k with
  | zero => intro q t; exact Or.inl rfl
  | succ k ih =>
    intro q t
    unfold uaN
    split
    · split
      · omega
      · have := ih (q + 1) (t + -1); omega
    · have := ih (q + 1) t; omega
theorem uaN_lt {n : Nat} (u : Int32) (t : Int32) (h : 2 ≤ n) : uaN u n 0 t < n := by
  have := uaN_le u n 0 t
  omega
def clr (u : Int32) (q : Nat) : Int32 := u &&& ((1 <<< (nI q &&& 31)) ^^^ (-1))
def fwN (n : Nat) (d : Nat → Nat → Int32) (i : Nat) (r : Int32) : Nat → Int32 → Nat → Nat
  | 0, _, _ => i
  | k + 1, u, left => if r < d i (uaN u n 0 (nI (left / fct k))) then fwN n d i r k (clr u (uaN u n 0 (nI (left / fct k)))) (left % fct k) else uaN u n 0 (nI (left / fct k))
end
section
set_option maxHeartbeats 4000000 in
set_option maxRecDepth 100000 in
theorem c_X2_allPoints (l : Launch) (D : va_G) (cyI cO cyZ : ClassId) (ad : Nat → Nat) (fa : Nat) (n : Nat) (d md : Nat → Nat → Int32) (go ke ha : Nat → Int32) (wy : Nat → Nat → Int32) (ab be sr : Int32)  (hn : n ≤ 6) : Ct l yX2_allPoints (Cond.code yX2_allPoints cX2_allPoints 1 (some .int) :: wsL_law) ({ frames := 0, cells := 0, slots := 0, locals := 0 } : Room) D (ty3 cyI cO cyZ) 29 ad fa [.ref (ad 27)] (cC cyI cO ad n d md go ke ha wy ab be sr) (cC cyI cO ad n d md go ke ha wy ab be sr) (some (.int (nI (2 ^ n - 1)))) := by
  refine Ct.of (by decide) (Nat.le_of_ble_eq_true rfl) ?_
  intro p e s m args below meth c A C hr H locs hW ls hl
  have C : Cx p s m args meth c cX2_allPoints 1 RX2 D (ty3 cyI cO cyZ) fa A := C
  have hx := C.1
  have hb := C.2.1
  have hl : lv_has ls 1 [(0, .ref (ad 27))] := hl
  refine lv_iconst (v := 1) hx hb dX2_allPoints_0 (by decide) ?_
  refine lv_aload_n hx hb dX2_allPoints_1 rfl (lv_at hl 0 rfl) ?_
  refine u_get C hW inlX2 (by decide) cC_27 rfl 0 (by decide) mw_52 rfl dX2_allPoints_2 ?_
  refine u_getN C hW inlX3 (by decide) cC_1 rfl 2 (by decide) (List.mem_of_getElem? (i := 10) rfl) rfl dX2_allPoints_5 ?_
  refine lv_ishl hx hb dX2_allPoints_8 ?_
  refine u_top (show 1 <<< ((nI n) &&& 31) = nI (2 ^ n) from shl1 hn) ?_
  refine lv_iconst (v := 1) hx hb dX2_allPoints_9 (by decide) ?_
  refine lv_isub hx hb dX2_allPoints_10 ?_
  refine u_top (show (nI (2 ^ n)) - 1 = nI (2 ^ n - 1) from pk_sub Nat.one_le_two_pow) ?_
  exact u_iret C hr hW dX2_allPoints_11 rfl rfl
set_option maxHeartbeats 4000000 in
set_option maxRecDepth 100000 in
theorem c_X2_isIn (l : Launch) (D : va_G) (cyI cO cyZ : ClassId) (ad : Nat → Nat) (fa : Nat) (n : Nat) (d md : Nat → Nat → Int32) (go ke ha : Nat → Int32) (wy : Nat → Nat → Int32) (ab be sr : Int32) (x i : Int32)  : Ct l yX2_isIn (Cond.code yX2_isIn cX2_isIn 2 (some .boolean) :: wsL_law) ({ frames := 0, cells := 0, slots := 0, locals := 0 } : Room) D (ty3 cyI cO cyZ) 29 ad fa [.int x, .int i] (cC cyI cO ad n d md go ke ha wy ab be sr) (cC cyI cO ad n d md go ke ha wy ab be sr) (some (.int (iiV x i))) := by
  refine Ct.of (by decide) (Nat.le_of_ble_eq_true rfl) ?_
  intro p e s m args below meth c A C hr H locs hW ls hl
  have C : Cx p s m args meth c cX2_isIn 2 RX2 D (ty3 cyI cO cyZ) fa A := C
  have hx := C.1
  have hb := C.2.1
  have hl : lv_has ls 2 [(0, .int x), (1, .int i)] := hl
  refine lv_iload_n hx hb dX2_isIn_0 rfl (lv_at hl 0 rfl) ?_
  refine lv_iload_n hx hb dX2_isIn_1 rfl (lv_at hl 1 rfl) ?_
  refine lv_ishr hx hb dX2_isIn_2 ?_
  refine lv_iconst (v := 1) hx hb dX2_isIn_3 (by decide) ?_
  refine lv_iand hx hb dX2_isIn_4 ?_
  refine lv_iconst (v := 1) hx hb dX2_isIn_5 (by decide) ?_
  refine lv_icmp_ne (tgt := 13) hx hb dX2_isIn_6 (by decide) (fun c6_1 => ?_) (fun c6_1 => ?_)
  · skip
    refine lv_iconst (v := 0) hx hb dX2_isIn_13 (by decide) ?_
    exact u_zret C hr hW dX2_isIn_14 (by first | exact Or.inl rfl | exact Or.inr rfl) (by simp only [iiV, if_neg c6_1]) rfl
  · skip
    refine lv_iconst (v := 1) hx hb dX2_isIn_9 (by decide) ?_
    refine lv_goto (tgt := 14) hx hb dX2_isIn_10 (by decide) ?_
    exact u_zret C hr hW dX2_isIn_14 (by first | exact Or.inl rfl | exact Or.inr rfl) (by simp only [iiV, if_pos c6_1]) rfl
set_option maxHeartbeats 4000000 in
set_option maxRecDepth 100000 in
theorem c_X2_isPart (l : Launch) (D : va_G) (cyI cO cyZ : ClassId) (ad : Nat → Nat) (fa : Nat) (n : Nat) (d md : Nat → Nat → Int32) (go ke ha : Nat → Int32) (wy : Nat → Nat → Int32) (ab be sr : Int32) (x : Int32) (hn : n ≤ 6) : Ct l yX2_isPart (Cond.code yX2_isPart cX2_isPart 2 (some .boolean) :: wsL_law) ({ frames := 1, cells := 0, slots := 0, locals := 21 } : Room) D (ty3 cyI cO cyZ) 29 ad fa [.ref (ad 27), .int x] (cC cyI cO ad n d md go ke ha wy ab be sr) (cC cyI cO ad n d md go ke ha wy ab be sr) (some (.int (ipV n x))) := by
  refine Ct.of (by decide) (Nat.le_of_ble_eq_true rfl) ?_
  intro p e s m args below meth c A C hr H locs hW ls hl
  have C : Cx p s m args meth c cX2_isPart 2 RX2 D (ty3 cyI cO cyZ) fa A := C
  have hx := C.1
  have hb := C.2.1
  have hl : lv_has ls 2 [(0, .ref (ad 27)), (1, .int x)] := hl
  refine lv_iload_n hx hb dX2_isPart_0 rfl (lv_at hl 1 rfl) ?_
  refine lv_if_le (tgt := 24) hx hb dX2_isPart_1 (by decide) (fun c1_1 => ?_) (fun c1_1 => ?_)
  · skip
    refine lv_iconst (v := 0) hx hb dX2_isPart_24 (by decide) ?_
    exact u_zret C hr hW dX2_isPart_25 (by first | exact Or.inl rfl | exact Or.inr rfl) (by simp only [ipV, if_pos c1_1]) rfl
  · skip
    refine lv_iload_n hx hb dX2_isPart_4 rfl (lv_at hl 1 rfl) ?_
    refine lv_aload_n hx hb dX2_isPart_5 rfl (lv_at hl 0 rfl) ?_
    refine u_callV (cf' := cC cyI cO ad n d md go ke ha wy ab be sr) (As := []) (rest := [.int x]) (st1 := [.int (nI (2 ^ n - 1)), .int x]) C hW (c_X2_allPoints l D cyI cO cyZ ad fa n d md go ke ha wy ab be sr  (by omega)) mv_yX2_allPoints mw_433 rfl ⟨rfl, rfl, Nat.le_of_ble_eq_true rfl, Nat.le_of_ble_eq_true rfl⟩ (by decide) cC_27 rfl rfl hl (Nat.le_of_ble_eq_true rfl) rfl rfl dX2_isPart_6 (fun H locs hW => ?_)
    refine lv_icmp_ge (tgt := 24) hx hb dX2_isPart_9 (by decide) (fun c9_2 => ?_) (fun c9_2 => ?_)
    · skip
      refine lv_iconst (v := 0) hx hb dX2_isPart_24 (by decide) ?_
      exact u_zret C hr hW dX2_isPart_25 (by first | exact Or.inl rfl | exact Or.inr rfl) (by simp only [ipV, if_neg c1_1, if_pos c9_2]) rfl
    · skip
      refine lv_iload_n hx hb dX2_isPart_12 rfl (lv_at hl 1 rfl) ?_
      refine lv_iconst (v := 0) hx hb dX2_isPart_13 (by decide) ?_
      refine u_callS (cf' := cC cyI cO ad n d md go ke ha wy ab be sr) (As := [.int x, .int 0]) (rest := []) (st1 := [.int (iiV x 0)]) C hW (c_X2_isIn l D cyI cO cyZ ad fa n d md go ke ha wy ab be sr x 0 ) ms_yX2_isIn mw_437 rfl ⟨rfl, rfl, Nat.le_of_ble_eq_true rfl, Nat.le_of_ble_eq_true rfl⟩ hl (Nat.le_of_ble_eq_true rfl) rfl rfl dX2_isPart_14 (fun H locs hW => ?_)
      refine lv_if_eq (tgt := 24) hx hb dX2_isPart_17 (by decide) (fun c17_3 => ?_) (fun c17_3 => ?_)
      · skip
        refine lv_iconst (v := 0) hx hb dX2_isPart_24 (by decide) ?_
        exact u_zret C hr hW dX2_isPart_25 (by first | exact Or.inl rfl | exact Or.inr rfl) (by simp only [ipV, if_neg c1_1, if_neg c9_2, if_pos c17_3]) rfl
      · skip
        refine lv_iconst (v := 1) hx hb dX2_isPart_20 (by decide) ?_
        refine lv_goto (tgt := 25) hx hb dX2_isPart_21 (by decide) ?_
        exact u_zret C hr hW dX2_isPart_25 (by first | exact Or.inl rfl | exact Or.inr rfl) (by simp only [ipV, if_neg c1_1, if_neg c9_2, if_neg c17_3]) rfl
set_option maxHeartbeats 4000000 in
set_option maxRecDepth 100000 in
theorem c_X2_across (l : Launch) (D : va_G) (cyI cO cyZ : ClassId) (ad : Nat → Nat) (fa : Nat) (n : Nat) (d md : Nat → Nat → Int32) (go ke ha : Nat → Int32) (wy : Nat → Nat → Int32) (ab be sr : Int32) (i j k q : Nat) (hi : i < 6) (hj : j < 6) (hk : k < 6) (hq : q < 6) : Ct l yX2_across (Cond.code yX2_across cX2_across 9 (some .int) :: wsL_law) ({ frames := 1, cells := 0, slots := 0, locals := 26 } : Room) D (ty3 cyI cO cyZ) 29 ad fa [.ref (ad 27), .int (nI i), .int (nI j), .int (nI k), .int (nI q)] (cC cyI cO ad n d md go ke ha wy ab be sr) (cC cyI cO ad n d md go ke ha wy ab be sr) (some (.int (acV d i j k q))) := by
  refine Ct.of (by decide) (Nat.le_of_ble_eq_true rfl) ?_
  intro p e s m args below meth c A C hr H locs hW ls hl
  have C : Cx p s m args meth c cX2_across 9 RX2 D (ty3 cyI cO cyZ) fa A := C
  have hx := C.1
  have hb := C.2.1
  have hl : lv_has ls 9 [(0, .ref (ad 27)), (1, .int (nI i)), (2, .int (nI j)), (3, .int (nI k)), (4, .int (nI q))] := hl
  refine lv_aload_n hx hb dX2_across_0 rfl (lv_at hl 0 rfl) ?_
  refine u_get C hW inlX2 (by decide) cC_27 rfl 0 (by decide) mw_52 rfl dX2_across_1 ?_
  refine u_getN C hW inlX3 (by decide) cC_1 rfl 0 (by decide) (List.mem_of_getElem? (i := 11) rfl) rfl dX2_across_4 ?_
  refine lv_astore (lv' := [(5, .ref (ad 2)), (0, .ref (ad 27)), (1, .int (nI i)), (2, .int (nI j)), (3, .int (nI k)), (4, .int (nI q))]) hx hb dX2_across_7 hl (by decide) rfl (fun ls hl => ?_)
  refine lv_aload hx hb dX2_across_9 (lv_at hl 0 rfl) ?_
  refine lv_iload_n hx hb dX2_across_11 rfl (lv_at hl 2 rfl) ?_
  refine u_aald C hW (by decide) cC_2 1 rfl i rfl (by omega) (by decide) (cC_outer (by omega)) dX2_across_12 ?_
  refine lv_iload_n hx hb dX2_across_13 rfl (lv_at hl 3 rfl) ?_
  refine u_iald C hW (by omega) (cC_d (by omega)) 0 rfl j rfl (by omega) (by decide) dX2_across_14 ?_
  refine lv_aload hx hb dX2_across_15 (lv_at hl 0 rfl) ?_
  refine lv_iload_n hx hb dX2_across_17 rfl (lv_at hl 4 rfl) ?_
  refine u_aald C hW (by decide) cC_2 1 rfl k rfl (by omega) (by decide) (cC_outer (by omega)) dX2_across_18 ?_
  refine lv_iload hx hb dX2_across_19 (lv_at hl 5 rfl) ?_
  refine u_iald C hW (by omega) (cC_d (by omega)) 0 rfl q rfl (by omega) (by decide) dX2_across_21 ?_
  refine lv_iadd hx hb dX2_across_22 ?_
  refine lv_istore (lv' := [(6, .int ((d i j) + (d k q))), (5, .ref (ad 2)), (0, .ref (ad 27)), (1, .int (nI i)), (2, .int (nI j)), (3, .int (nI k)), (4, .int (nI q))]) hx hb dX2_across_23 hl (by decide) rfl (fun ls hl => ?_)
  refine lv_aload hx hb dX2_across_25 (lv_at hl 1 rfl) ?_
  refine lv_iload_n hx hb dX2_across_27 rfl (lv_at hl 3 rfl) ?_
  refine u_aald C hW (by decide) cC_2 1 rfl i rfl (by omega) (by decide) (cC_outer (by omega)) dX2_across_28 ?_
  refine lv_iload_n hx hb dX2_across_29 rfl (lv_at hl 5 rfl) ?_
  refine u_iald C hW (by omega) (cC_d (by omega)) 0 rfl k rfl (by omega) (by decide) dX2_across_30 ?_
  refine lv_aload hx hb dX2_across_31 (lv_at hl 1 rfl) ?_
  refine lv_iload_n hx hb dX2_across_33 rfl (lv_at hl 4 rfl) ?_
  refine u_aald C hW (by decide) cC_2 1 rfl j rfl (by omega) (by decide) (cC_outer (by omega)) dX2_across_34 ?_
  refine lv_iload hx hb dX2_across_35 (lv_at hl 6 rfl) ?_
  refine u_iald C hW (by omega) (cC_d (by omega)) 0 rfl q rfl (by omega) (by decide) dX2_across_37 ?_
  refine lv_iadd hx hb dX2_across_38 ?_
  refine lv_istore (lv' := [(7, .int ((d i k) + (d j q))), (6, .int ((d i j) + (d k q))), (5, .ref (ad 2)), (0, .ref (ad 27)), (1, .int (nI i)), (2, .int (nI j)), (3, .int (nI k)), (4, .int (nI q))]) hx hb dX2_across_39 hl (by decide) rfl (fun ls hl => ?_)
  refine lv_aload hx hb dX2_across_41 (lv_at hl 2 rfl) ?_
  refine lv_iload_n hx hb dX2_across_43 rfl (lv_at hl 4 rfl) ?_
  refine u_aald C hW (by decide) cC_2 1 rfl i rfl (by omega) (by decide) (cC_outer (by omega)) dX2_across_44 ?_
  refine lv_iload hx hb dX2_across_45 (lv_at hl 7 rfl) ?_
  refine u_iald C hW (by omega) (cC_d (by omega)) 0 rfl q rfl (by omega) (by decide) dX2_across_47 ?_
  refine lv_aload hx hb dX2_across_48 (lv_at hl 2 rfl) ?_
  refine lv_iload_n hx hb dX2_across_50 rfl (lv_at hl 5 rfl) ?_
  refine u_aald C hW (by decide) cC_2 1 rfl j rfl (by omega) (by decide) (cC_outer (by omega)) dX2_across_51 ?_
  refine lv_iload_n hx hb dX2_across_52 rfl (lv_at hl 6 rfl) ?_
  refine u_iald C hW (by omega) (cC_d (by omega)) 0 rfl k rfl (by omega) (by decide) dX2_across_53 ?_
  refine lv_iadd hx hb dX2_across_54 ?_
  refine lv_istore (lv' := [(8, .int ((d i q) + (d j k))), (7, .int ((d i k) + (d j q))), (6, .int ((d i j) + (d k q))), (5, .ref (ad 2)), (0, .ref (ad 27)), (1, .int (nI i)), (2, .int (nI j)), (3, .int (nI k)), (4, .int (nI q))]) hx hb dX2_across_55 hl (by decide) rfl (fun ls hl => ?_)
  refine lv_iload hx hb dX2_across_57 (lv_at hl 2 rfl) ?_
  refine lv_iload hx hb dX2_across_59 (lv_at hl 1 rfl) ?_
  refine lv_iload hx hb dX2_across_61 (lv_at hl 0 rfl) ?_
  refine u_max C mw_453 hl (by decide) (Nat.le_of_ble_eq_true rfl) dX2_across_63 ?_
  refine u_top (y := mx ((d i k) + (d j q)) ((d i q) + (d j k))) rfl ?_
  refine u_max C mw_453 hl (by decide) (Nat.le_of_ble_eq_true rfl) dX2_across_66 ?_
  refine u_top (y := mx ((d i j) + (d k q)) (mx ((d i k) + (d j q)) ((d i q) + (d j k)))) rfl ?_
  refine lv_iload hx hb dX2_across_69 (lv_at hl 2 rfl) ?_
  refine lv_isub hx hb dX2_across_71 ?_
  exact u_iret C hr hW dX2_across_72 rfl rfl
set_option maxHeartbeats 4000000 in
set_option maxRecDepth 100000 in
theorem c_X2_leastAcross (l : Launch) (D : va_G) (cyI cO cyZ : ClassId) (ad : Nat → Nat) (fa : Nat) (n : Nat) (d md : Nat → Nat → Int32) (go ke ha : Nat → Int32) (wy : Nat → Nat → Int32) (ab be sr : Int32) (x : Int32) (i j : Nat) (hn : n ≤ 6) (hi : i < 6) (hj : j < 6) : Ct l yX2_leastAcross (Cond.code yX2_leastAcross cX2_leastAcross 7 (some .int) :: wsL_law) ({ frames := 2, cells := 0, slots := 0, locals := 54 } : Room) D (ty3 cyI cO cyZ) 29 ad fa [.ref (ad 27), .int x, .int (nI i), .int (nI j)] (cC cyI cO ad n d md go ke ha wy ab be sr) (cC cyI cO ad n d md go ke ha wy ab be sr) (some (.int (laV n d x i j))) := by
  refine Ct.of (by decide) (Nat.le_of_ble_eq_true rfl) ?_
  intro p e s m args below meth c A C hr H locs hW ls hl
  have C : Cx p s m args meth c cX2_leastAcross 7 RX2 D (ty3 cyI cO cyZ) fa A := C
  have hx := C.1
  have hb := C.2.1
  have hl : lv_has ls 7 [(0, .ref (ad 27)), (1, .int x), (2, .int (nI i)), (3, .int (nI j))] := hl
  refine lv_sipush (v := 2000) hx hb dX2_leastAcross_0 (by decide) ?_
  refine lv_istore (lv' := [(4, .int 2000), (0, .ref (ad 27)), (1, .int x), (2, .int (nI i)), (3, .int (nI j))]) hx hb dX2_leastAcross_3 hl (by decide) rfl (fun ls hl => ?_)
  refine lv_iconst (v := 0) hx hb dX2_leastAcross_5 (by decide) ?_
  refine lv_istore (lv' := [(5, .int 0), (4, .int 2000), (0, .ref (ad 27)), (1, .int x), (2, .int (nI i)), (3, .int (nI j))]) hx hb dX2_leastAcross_6 hl (by decide) rfl (fun ls hl => ?_)
  have L8 : ∀ (k8 : Nat) (k : Nat) (a : Int32), k + k8 = n → lp (laO n d x i j) k k8 a = laV n d x i j → ∀ (H : Heap) (locs : List Loc), Wd D 29 ad (cC cyI cO ad n d md go ke ha wy ab be sr) A s.heap H locs → ∀ ls : Array Slot, lv_has ls 7 [(5, .int (nI k)), (0, .ref (ad 27)), (1, .int x), (2, .int (nI i)), (3, .int (nI j)), (4, .int a)] → W p l e ({ frames := 2, cells := 0, slots := 0, locals := 54 } : Room) s m args below meth c H locs 0 0 (MQ below (uQ D 29 ad (cC cyI cO ad n d md go ke ha wy ab be sr) (some (.int (laV n d x i j))) A) args s 0 0 A) (F0 m 8 ls []) := by
    intro k8
    induction k8 with
    | zero =>
      intro k a hk r8 H locs hW ls hl
      refine lv_iload hx hb dX2_leastAcross_8 (lv_at hl 0 rfl) ?_
      refine lv_aload_n hx hb dX2_leastAcross_10 rfl (lv_at hl 1 rfl) ?_
      refine u_get C hW inlX2 (by decide) cC_27 rfl 0 (by decide) mw_52 rfl dX2_leastAcross_11 ?_
      refine u_getN C hW inlX3 (by decide) cC_1 rfl 2 (by decide) (List.mem_of_getElem? (i := 10) rfl) rfl dX2_leastAcross_14 ?_
      refine lv_icmp_ge (tgt := 83) hx hb dX2_leastAcross_17 (by decide) (fun _ => ?_) (fun c9 => absurd (nI_le (by omega) (by omega)) c9)
      refine lv_iload hx hb dX2_leastAcross_83 (lv_at hl 5 rfl) ?_
      exact u_iret C hr hW dX2_leastAcross_85 r8 rfl
    | succ k8 ih8 =>
      intro k a hk r8 H locs hW ls hl
      refine lv_iload hx hb dX2_leastAcross_8 (lv_at hl 0 rfl) ?_
      refine lv_aload_n hx hb dX2_leastAcross_10 rfl (lv_at hl 1 rfl) ?_
      refine u_get C hW inlX2 (by decide) cC_27 rfl 0 (by decide) mw_52 rfl dX2_leastAcross_11 ?_
      refine u_getN C hW inlX3 (by decide) cC_1 rfl 2 (by decide) (List.mem_of_getElem? (i := 10) rfl) rfl dX2_leastAcross_14 ?_
      refine lv_icmp_ge (tgt := 83) hx hb dX2_leastAcross_17 (by decide) (fun c9 => absurd c9 (nI_ge (by omega) (by omega))) (fun _ => ?_)
      refine lv_iload hx hb dX2_leastAcross_20 (lv_at hl 0 rfl) ?_
      refine lv_istore (lv' := [(6, .int (nI k)), (5, .int (nI k)), (0, .ref (ad 27)), (1, .int x), (2, .int (nI i)), (3, .int (nI j)), (4, .int a)]) hx hb dX2_leastAcross_22 hl (by decide) rfl (fun ls hl => ?_)
      have L24 : ∀ (k24 : Nat) (q : Nat) (a : Int32), q + k24 = n → lp (laO n d x i j) (k + 1) k8 (lp (laI d x i j k) q k24 a) = laV n d x i j → ∀ (H : Heap) (locs : List Loc), Wd D 29 ad (cC cyI cO ad n d md go ke ha wy ab be sr) A s.heap H locs → ∀ ls : Array Slot, lv_has ls 7 [(6, .int (nI q)), (0, .ref (ad 27)), (1, .int x), (2, .int (nI i)), (3, .int (nI j)), (4, .int a), (5, .int (nI k))] → W p l e ({ frames := 2, cells := 0, slots := 0, locals := 54 } : Room) s m args below meth c H locs 0 0 (MQ below (uQ D 29 ad (cC cyI cO ad n d md go ke ha wy ab be sr) (some (.int (laV n d x i j))) A) args s 0 0 A) (F0 m 24 ls []) := by
        intro k24
        induction k24 with
        | zero =>
          intro q a hq r24 H locs hW ls hl
          refine lv_iload hx hb dX2_leastAcross_24 (lv_at hl 0 rfl) ?_
          refine lv_aload_n hx hb dX2_leastAcross_26 rfl (lv_at hl 1 rfl) ?_
          refine u_get C hW inlX2 (by decide) cC_27 rfl 0 (by decide) mw_52 rfl dX2_leastAcross_27 ?_
          refine u_getN C hW inlX3 (by decide) cC_1 rfl 2 (by decide) (List.mem_of_getElem? (i := 10) rfl) rfl dX2_leastAcross_30 ?_
          refine lv_icmp_ge (tgt := 77) hx hb dX2_leastAcross_33 (by decide) (fun _ => ?_) (fun c9 => absurd (nI_le (by omega) (by omega)) c9)
          refine lv_iinc (v := nI (k + 1)) (lv' := [(5, .int (nI (k + 1))), (6, .int (nI q)), (0, .ref (ad 27)), (1, .int x), (2, .int (nI i)), (3, .int (nI j)), (4, .int a)]) hx hb dX2_leastAcross_77 hl (k := 6) rfl (nI_1 _) (by decide) rfl (fun ls hl => ?_)
          refine lv_goto (tgt := 8) hx hb dX2_leastAcross_80 (by decide) ?_
          exact ih8  (k + 1) a (by omega) r24 H locs hW ls (lv_sub hl [0, 2, 3, 4, 5, 6] rfl)
        | succ k24 ih24 =>
          intro q a hq r24 H locs hW ls hl
          refine lv_iload hx hb dX2_leastAcross_24 (lv_at hl 0 rfl) ?_
          refine lv_aload_n hx hb dX2_leastAcross_26 rfl (lv_at hl 1 rfl) ?_
          refine u_get C hW inlX2 (by decide) cC_27 rfl 0 (by decide) mw_52 rfl dX2_leastAcross_27 ?_
          refine u_getN C hW inlX3 (by decide) cC_1 rfl 2 (by decide) (List.mem_of_getElem? (i := 10) rfl) rfl dX2_leastAcross_30 ?_
          refine lv_icmp_ge (tgt := 77) hx hb dX2_leastAcross_33 (by decide) (fun c9 => absurd c9 (nI_ge (by omega) (by omega))) (fun _ => ?_)
          refine lv_iload_n hx hb dX2_leastAcross_36 rfl (lv_at hl 2 rfl) ?_
          refine lv_iload hx hb dX2_leastAcross_37 (lv_at hl 6 rfl) ?_
          refine u_callS (cf' := cC cyI cO ad n d md go ke ha wy ab be sr) (As := [.int x, .int (nI k)]) (rest := []) (st1 := [.int (iiV x (nI k))]) C hW (c_X2_isIn l D cyI cO cyZ ad fa n d md go ke ha wy ab be sr x (nI k) ) ms_yX2_isIn mw_437 rfl ⟨rfl, rfl, Nat.le_of_ble_eq_true rfl, Nat.le_of_ble_eq_true rfl⟩ hl (Nat.le_of_ble_eq_true rfl) rfl rfl dX2_leastAcross_39 (fun H locs hW => ?_)
          refine lv_if_ne (tgt := 71) hx hb dX2_leastAcross_42 (by decide) (fun c42_1 => ?_) (fun c42_1 => ?_)
          · skip
            refine lv_iinc (v := nI (q + 1)) (lv' := [(6, .int (nI (q + 1))), (0, .ref (ad 27)), (1, .int x), (2, .int (nI i)), (3, .int (nI j)), (4, .int a), (5, .int (nI k))]) hx hb dX2_leastAcross_71 hl (k := 0) rfl (nI_1 _) (by decide) rfl (fun ls hl => ?_)
            refine lv_goto (tgt := 24) hx hb dX2_leastAcross_74 (by decide) ?_
            exact ih24  (q + 1) a (by omega) (by first | exact r24 | (have h9 := r24; simp only [lp_s, lp_0, laI, if_neg c42_1] at h9; exact h9)) H locs hW ls (lv_sub hl [0, 1, 2, 3, 4, 5, 6] rfl)
          · skip
            refine lv_iload_n hx hb dX2_leastAcross_45 rfl (lv_at hl 2 rfl) ?_
            refine lv_iload hx hb dX2_leastAcross_46 (lv_at hl 0 rfl) ?_
            refine u_callS (cf' := cC cyI cO ad n d md go ke ha wy ab be sr) (As := [.int x, .int (nI q)]) (rest := []) (st1 := [.int (iiV x (nI q))]) C hW (c_X2_isIn l D cyI cO cyZ ad fa n d md go ke ha wy ab be sr x (nI q) ) ms_yX2_isIn mw_437 rfl ⟨rfl, rfl, Nat.le_of_ble_eq_true rfl, Nat.le_of_ble_eq_true rfl⟩ hl (Nat.le_of_ble_eq_true rfl) rfl rfl dX2_leastAcross_48 (fun H locs hW => ?_)
            refine lv_if_ne (tgt := 71) hx hb dX2_leastAcross_51 (by decide) (fun c51_2 => ?_) (fun c51_2 => ?_)
            · skip
              refine lv_iinc (v := nI (q + 1)) (lv' := [(6, .int (nI (q + 1))), (0, .ref (ad 27)), (1, .int x), (2, .int (nI i)), (3, .int (nI j)), (4, .int a), (5, .int (nI k))]) hx hb dX2_leastAcross_71 hl (k := 0) rfl (nI_1 _) (by decide) rfl (fun ls hl => ?_)
              refine lv_goto (tgt := 24) hx hb dX2_leastAcross_74 (by decide) ?_
              exact ih24  (q + 1) a (by omega) (by first | exact r24 | (have h9 := r24; simp only [lp_s, lp_0, laI, if_pos c42_1, if_neg c51_2] at h9; exact h9)) H locs hW ls (lv_sub hl [0, 1, 2, 3, 4, 5, 6] rfl)
            · skip
              refine lv_iload hx hb dX2_leastAcross_54 (lv_at hl 5 rfl) ?_
              refine lv_aload_n hx hb dX2_leastAcross_56 rfl (lv_at hl 1 rfl) ?_
              refine lv_iload_n hx hb dX2_leastAcross_57 rfl (lv_at hl 3 rfl) ?_
              refine lv_iload_n hx hb dX2_leastAcross_58 rfl (lv_at hl 4 rfl) ?_
              refine lv_iload hx hb dX2_leastAcross_59 (lv_at hl 6 rfl) ?_
              refine lv_iload hx hb dX2_leastAcross_61 (lv_at hl 0 rfl) ?_
              refine u_callV (cf' := cC cyI cO ad n d md go ke ha wy ab be sr) (As := [.int (nI i), .int (nI j), .int (nI k), .int (nI q)]) (rest := [.int a]) (st1 := [.int (acV d i j k q), .int a]) C hW (c_X2_across l D cyI cO cyZ ad fa n d md go ke ha wy ab be sr i j k q (by omega) (by omega) (by omega) (by omega)) mv_yX2_across mw_449 rfl ⟨rfl, rfl, Nat.le_of_ble_eq_true rfl, Nat.le_of_ble_eq_true rfl⟩ (by decide) cC_27 rfl rfl hl (Nat.le_of_ble_eq_true rfl) rfl rfl dX2_leastAcross_63 (fun H locs hW => ?_)
              refine u_min C mw_444 hl (by decide) (Nat.le_of_ble_eq_true rfl) dX2_leastAcross_66 ?_
              refine u_top (y := mn a (acV d i j k q)) rfl ?_
              refine lv_istore (lv' := [(4, .int (mn a (acV d i j k q))), (6, .int (nI q)), (0, .ref (ad 27)), (1, .int x), (2, .int (nI i)), (3, .int (nI j)), (5, .int (nI k))]) hx hb dX2_leastAcross_69 hl (by decide) rfl (fun ls hl => ?_)
              refine lv_iinc (v := nI (q + 1)) (lv' := [(6, .int (nI (q + 1))), (4, .int (mn a (acV d i j k q))), (0, .ref (ad 27)), (1, .int x), (2, .int (nI i)), (3, .int (nI j)), (5, .int (nI k))]) hx hb dX2_leastAcross_71 hl (k := 1) rfl (nI_1 _) (by decide) rfl (fun ls hl => ?_)
              refine lv_goto (tgt := 24) hx hb dX2_leastAcross_74 (by decide) ?_
              exact ih24  (q + 1) (mn a (acV d i j k q)) (by omega) (by first | exact r24 | (have h9 := r24; simp only [lp_s, lp_0, laI, if_pos c42_1, if_pos c51_2] at h9; exact h9)) H locs hW ls (lv_sub hl [0, 2, 3, 4, 5, 1, 6] rfl)
      exact L24 (n - k) k a (by omega) r8 H locs hW ls (lv_sub hl [0, 2, 3, 4, 5, 6, 1] rfl)
  exact L8 n 0 2000 (by omega) rfl H locs hW ls (lv_sub hl [0, 2, 3, 4, 5, 1] rfl)
set_option maxHeartbeats 4000000 in
set_option maxRecDepth 100000 in
theorem c_X2_weigh (l : Launch) (D : va_G) (cyI cO cyZ : ClassId) (ad : Nat → Nat) (fa : Nat) (n : Nat) (d md : Nat → Nat → Int32) (go ke ha : Nat → Int32) (wy : Nat → Nat → Int32) (ab be sr : Int32) (x : Int32) (hn : n ≤ 6) : Ct l yX2_weigh (Cond.code yX2_weigh cX2_weigh 5 (some .int) :: wsL_law) ({ frames := 3, cells := 0, slots := 0, locals := 80 } : Room) D (ty3 cyI cO cyZ) 29 ad fa [.ref (ad 27), .int x] (cC cyI cO ad n d md go ke ha wy ab be sr) (cC cyI cO ad n d md go ke ha wy ab be sr) (some (.int (weV n d x))) := by
  refine Ct.of (by decide) (Nat.le_of_ble_eq_true rfl) ?_
  intro p e s m args below meth c A C hr H locs hW ls hl
  have C : Cx p s m args meth c cX2_weigh 5 RX2 D (ty3 cyI cO cyZ) fa A := C
  have hx := C.1
  have hb := C.2.1
  have hl : lv_has ls 5 [(0, .ref (ad 27)), (1, .int x)] := hl
  refine lv_sipush (v := 2000) hx hb dX2_weigh_0 (by decide) ?_
  refine lv_istore_n (lv' := [(2, .int 2000), (0, .ref (ad 27)), (1, .int x)]) hx hb dX2_weigh_3 rfl hl (by decide) rfl (fun ls hl => ?_)
  refine lv_iconst (v := 0) hx hb dX2_weigh_4 (by decide) ?_
  refine lv_istore_n (lv' := [(3, .int 0), (2, .int 2000), (0, .ref (ad 27)), (1, .int x)]) hx hb dX2_weigh_5 rfl hl (by decide) rfl (fun ls hl => ?_)
  have L6 : ∀ (k6 : Nat) (i : Nat) (a : Int32), i + k6 = n → lp (weO n d x) i k6 a = weV n d x → ∀ (H : Heap) (locs : List Loc), Wd D 29 ad (cC cyI cO ad n d md go ke ha wy ab be sr) A s.heap H locs → ∀ ls : Array Slot, lv_has ls 5 [(3, .int (nI i)), (0, .ref (ad 27)), (1, .int x), (2, .int a)] → W p l e ({ frames := 3, cells := 0, slots := 0, locals := 80 } : Room) s m args below meth c H locs 0 0 (MQ below (uQ D 29 ad (cC cyI cO ad n d md go ke ha wy ab be sr) (some (.int (weV n d x))) A) args s 0 0 A) (F0 m 6 ls []) := by
    intro k6
    induction k6 with
    | zero =>
      intro i a hi r6 H locs hW ls hl
      refine lv_iload_n hx hb dX2_weigh_6 rfl (lv_at hl 0 rfl) ?_
      refine lv_aload_n hx hb dX2_weigh_7 rfl (lv_at hl 1 rfl) ?_
      refine u_get C hW inlX2 (by decide) cC_27 rfl 0 (by decide) mw_52 rfl dX2_weigh_8 ?_
      refine u_getN C hW inlX3 (by decide) cC_1 rfl 2 (by decide) (List.mem_of_getElem? (i := 10) rfl) rfl dX2_weigh_11 ?_
      refine lv_icmp_ge (tgt := 74) hx hb dX2_weigh_14 (by decide) (fun _ => ?_) (fun c9 => absurd (nI_le (by omega) (by omega)) c9)
      refine lv_iload_n hx hb dX2_weigh_74 rfl (lv_at hl 3 rfl) ?_
      exact u_iret C hr hW dX2_weigh_75 r6 rfl
    | succ k6 ih6 =>
      intro i a hi r6 H locs hW ls hl
      refine lv_iload_n hx hb dX2_weigh_6 rfl (lv_at hl 0 rfl) ?_
      refine lv_aload_n hx hb dX2_weigh_7 rfl (lv_at hl 1 rfl) ?_
      refine u_get C hW inlX2 (by decide) cC_27 rfl 0 (by decide) mw_52 rfl dX2_weigh_8 ?_
      refine u_getN C hW inlX3 (by decide) cC_1 rfl 2 (by decide) (List.mem_of_getElem? (i := 10) rfl) rfl dX2_weigh_11 ?_
      refine lv_icmp_ge (tgt := 74) hx hb dX2_weigh_14 (by decide) (fun c9 => absurd c9 (nI_ge (by omega) (by omega))) (fun _ => ?_)
      refine lv_iload_n hx hb dX2_weigh_17 rfl (lv_at hl 0 rfl) ?_
      refine lv_istore (lv' := [(4, .int (nI i)), (3, .int (nI i)), (0, .ref (ad 27)), (1, .int x), (2, .int a)]) hx hb dX2_weigh_18 hl (by decide) rfl (fun ls hl => ?_)
      have L20 : ∀ (k20 : Nat) (j : Nat) (a : Int32), j + k20 = n → lp (weO n d x) (i + 1) k6 (lp (weI n d x i) j k20 a) = weV n d x → ∀ (H : Heap) (locs : List Loc), Wd D 29 ad (cC cyI cO ad n d md go ke ha wy ab be sr) A s.heap H locs → ∀ ls : Array Slot, lv_has ls 5 [(4, .int (nI j)), (0, .ref (ad 27)), (1, .int x), (2, .int a), (3, .int (nI i))] → W p l e ({ frames := 3, cells := 0, slots := 0, locals := 80 } : Room) s m args below meth c H locs 0 0 (MQ below (uQ D 29 ad (cC cyI cO ad n d md go ke ha wy ab be sr) (some (.int (weV n d x))) A) args s 0 0 A) (F0 m 20 ls []) := by
        intro k20
        induction k20 with
        | zero =>
          intro j a hj r20 H locs hW ls hl
          refine lv_iload hx hb dX2_weigh_20 (lv_at hl 0 rfl) ?_
          refine lv_aload_n hx hb dX2_weigh_22 rfl (lv_at hl 1 rfl) ?_
          refine u_get C hW inlX2 (by decide) cC_27 rfl 0 (by decide) mw_52 rfl dX2_weigh_23 ?_
          refine u_getN C hW inlX3 (by decide) cC_1 rfl 2 (by decide) (List.mem_of_getElem? (i := 10) rfl) rfl dX2_weigh_26 ?_
          refine lv_icmp_ge (tgt := 68) hx hb dX2_weigh_29 (by decide) (fun _ => ?_) (fun c9 => absurd (nI_le (by omega) (by omega)) c9)
          refine lv_iinc (v := nI (i + 1)) (lv' := [(3, .int (nI (i + 1))), (4, .int (nI j)), (0, .ref (ad 27)), (1, .int x), (2, .int a)]) hx hb dX2_weigh_68 hl (k := 4) rfl (nI_1 _) (by decide) rfl (fun ls hl => ?_)
          refine lv_goto (tgt := 6) hx hb dX2_weigh_71 (by decide) ?_
          exact ih6  (i + 1) a (by omega) r20 H locs hW ls (lv_sub hl [0, 2, 3, 4] rfl)
        | succ k20 ih20 =>
          intro j a hj r20 H locs hW ls hl
          refine lv_iload hx hb dX2_weigh_20 (lv_at hl 0 rfl) ?_
          refine lv_aload_n hx hb dX2_weigh_22 rfl (lv_at hl 1 rfl) ?_
          refine u_get C hW inlX2 (by decide) cC_27 rfl 0 (by decide) mw_52 rfl dX2_weigh_23 ?_
          refine u_getN C hW inlX3 (by decide) cC_1 rfl 2 (by decide) (List.mem_of_getElem? (i := 10) rfl) rfl dX2_weigh_26 ?_
          refine lv_icmp_ge (tgt := 68) hx hb dX2_weigh_29 (by decide) (fun c9 => absurd c9 (nI_ge (by omega) (by omega))) (fun _ => ?_)
          refine lv_iload_n hx hb dX2_weigh_32 rfl (lv_at hl 2 rfl) ?_
          refine lv_iload_n hx hb dX2_weigh_33 rfl (lv_at hl 4 rfl) ?_
          refine u_callS (cf' := cC cyI cO ad n d md go ke ha wy ab be sr) (As := [.int x, .int (nI i)]) (rest := []) (st1 := [.int (iiV x (nI i))]) C hW (c_X2_isIn l D cyI cO cyZ ad fa n d md go ke ha wy ab be sr x (nI i) ) ms_yX2_isIn mw_437 rfl ⟨rfl, rfl, Nat.le_of_ble_eq_true rfl, Nat.le_of_ble_eq_true rfl⟩ hl (Nat.le_of_ble_eq_true rfl) rfl rfl dX2_weigh_34 (fun H locs hW => ?_)
          refine lv_if_eq (tgt := 62) hx hb dX2_weigh_37 (by decide) (fun c37_1 => ?_) (fun c37_1 => ?_)
          · skip
            refine lv_iinc (v := nI (j + 1)) (lv' := [(4, .int (nI (j + 1))), (0, .ref (ad 27)), (1, .int x), (2, .int a), (3, .int (nI i))]) hx hb dX2_weigh_62 hl (k := 0) rfl (nI_1 _) (by decide) rfl (fun ls hl => ?_)
            refine lv_goto (tgt := 20) hx hb dX2_weigh_65 (by decide) ?_
            exact ih20  (j + 1) a (by omega) (by first | exact r20 | (have h9 := r20; simp only [lp_s, lp_0, weI, if_pos c37_1] at h9; exact h9)) H locs hW ls (lv_sub hl [0, 1, 2, 3, 4] rfl)
          · skip
            refine lv_iload_n hx hb dX2_weigh_40 rfl (lv_at hl 2 rfl) ?_
            refine lv_iload hx hb dX2_weigh_41 (lv_at hl 0 rfl) ?_
            refine u_callS (cf' := cC cyI cO ad n d md go ke ha wy ab be sr) (As := [.int x, .int (nI j)]) (rest := []) (st1 := [.int (iiV x (nI j))]) C hW (c_X2_isIn l D cyI cO cyZ ad fa n d md go ke ha wy ab be sr x (nI j) ) ms_yX2_isIn mw_437 rfl ⟨rfl, rfl, Nat.le_of_ble_eq_true rfl, Nat.le_of_ble_eq_true rfl⟩ hl (Nat.le_of_ble_eq_true rfl) rfl rfl dX2_weigh_43 (fun H locs hW => ?_)
            refine lv_if_eq (tgt := 62) hx hb dX2_weigh_46 (by decide) (fun c46_2 => ?_) (fun c46_2 => ?_)
            · skip
              refine lv_iinc (v := nI (j + 1)) (lv' := [(4, .int (nI (j + 1))), (0, .ref (ad 27)), (1, .int x), (2, .int a), (3, .int (nI i))]) hx hb dX2_weigh_62 hl (k := 0) rfl (nI_1 _) (by decide) rfl (fun ls hl => ?_)
              refine lv_goto (tgt := 20) hx hb dX2_weigh_65 (by decide) ?_
              exact ih20  (j + 1) a (by omega) (by first | exact r20 | (have h9 := r20; simp only [lp_s, lp_0, weI, if_neg c37_1, if_pos c46_2] at h9; exact h9)) H locs hW ls (lv_sub hl [0, 1, 2, 3, 4] rfl)
            · skip
              refine lv_iload_n hx hb dX2_weigh_49 rfl (lv_at hl 3 rfl) ?_
              refine lv_aload_n hx hb dX2_weigh_50 rfl (lv_at hl 1 rfl) ?_
              refine lv_iload_n hx hb dX2_weigh_51 rfl (lv_at hl 2 rfl) ?_
              refine lv_iload_n hx hb dX2_weigh_52 rfl (lv_at hl 4 rfl) ?_
              refine lv_iload hx hb dX2_weigh_53 (lv_at hl 0 rfl) ?_
              refine u_callV (cf' := cC cyI cO ad n d md go ke ha wy ab be sr) (As := [.int x, .int (nI i), .int (nI j)]) (rest := [.int a]) (st1 := [.int (laV n d x i j), .int a]) C hW (c_X2_leastAcross l D cyI cO cyZ ad fa n d md go ke ha wy ab be sr x i j (by omega) (by omega) (by omega)) mv_yX2_leastAcross mw_445 rfl ⟨rfl, rfl, Nat.le_of_ble_eq_true rfl, Nat.le_of_ble_eq_true rfl⟩ (by decide) cC_27 rfl rfl hl (Nat.le_of_ble_eq_true rfl) rfl rfl dX2_weigh_55 (fun H locs hW => ?_)
              refine u_min C mw_444 hl (by decide) (Nat.le_of_ble_eq_true rfl) dX2_weigh_58 ?_
              refine u_top (y := mn a (laV n d x i j)) rfl ?_
              refine lv_istore_n (lv' := [(2, .int (mn a (laV n d x i j))), (4, .int (nI j)), (0, .ref (ad 27)), (1, .int x), (3, .int (nI i))]) hx hb dX2_weigh_61 rfl hl (by decide) rfl (fun ls hl => ?_)
              refine lv_iinc (v := nI (j + 1)) (lv' := [(4, .int (nI (j + 1))), (2, .int (mn a (laV n d x i j))), (0, .ref (ad 27)), (1, .int x), (3, .int (nI i))]) hx hb dX2_weigh_62 hl (k := 1) rfl (nI_1 _) (by decide) rfl (fun ls hl => ?_)
              refine lv_goto (tgt := 20) hx hb dX2_weigh_65 (by decide) ?_
              exact ih20  (j + 1) (mn a (laV n d x i j)) (by omega) (by first | exact r20 | (have h9 := r20; simp only [lp_s, lp_0, weI, if_neg c37_1, if_neg c46_2] at h9; exact h9)) H locs hW ls (lv_sub hl [0, 2, 3, 1, 4] rfl)
      exact L20 (n - i) i a (by omega) r6 H locs hW ls (lv_sub hl [0, 2, 3, 4, 1] rfl)
  exact L6 n 0 2000 (by omega) rfl H locs hW ls (lv_sub hl [0, 2, 3, 1] rfl)
set_option maxHeartbeats 4000000 in
set_option maxRecDepth 100000 in
theorem c_X2_howManyWeigh (l : Launch) (D : va_G) (cyI cO cyZ : ClassId) (ad : Nat → Nat) (fa : Nat) (n : Nat) (d md : Nat → Nat → Int32) (go ke ha : Nat → Int32) (wy : Nat → Nat → Int32) (ab be sr : Int32)  (hn : n ≤ 6) (h2 : 2 ≤ n) : Ct l yX2_howManyWeigh (Cond.code yX2_howManyWeigh cX2_howManyWeigh 3 (some .int) :: wsL_law) ({ frames := 4, cells := 0, slots := 0, locals := 104 } : Room) D (ty3 cyI cO cyZ) 29 ad fa [.ref (ad 27)] (cC cyI cO ad n d md go ke ha wy ab be sr) (cC cyI cO ad n d md go ke ha wy ab be sr) (some (.int (hwV n d))) := by
  refine Ct.of (by decide) (Nat.le_of_ble_eq_true rfl) ?_
  intro p e s m args below meth c A C hr H locs hW ls hl
  have C : Cx p s m args meth c cX2_howManyWeigh 3 RX2 D (ty3 cyI cO cyZ) fa A := C
  have hx := C.1
  have hb := C.2.1
  have hl : lv_has ls 3 [(0, .ref (ad 27))] := hl
  have hpw := pw_half h2 hn
  refine lv_iconst (v := 0) hx hb dX2_howManyWeigh_0 (by decide) ?_
  refine lv_istore_n (lv' := [(1, .int 0), (0, .ref (ad 27))]) hx hb dX2_howManyWeigh_1 rfl hl (by decide) rfl (fun ls hl => ?_)
  refine lv_iconst (v := 1) hx hb dX2_howManyWeigh_2 (by decide) ?_
  refine lv_istore_n (lv' := [(2, .int 1), (1, .int 0), (0, .ref (ad 27))]) hx hb dX2_howManyWeigh_3 rfl hl (by decide) rfl (fun ls hl => ?_)
  have L4 : ∀ (k4 : Nat) (q : Nat) (a : Int32), q + k4 = 2 ^ (n - 1) - 1 → lp (hwF n d) q k4 a = hwV n d → ∀ (H : Heap) (locs : List Loc), Wd D 29 ad (cC cyI cO ad n d md go ke ha wy ab be sr) A s.heap H locs → ∀ ls : Array Slot, lv_has ls 3 [(2, .int (nI (2 * q + 1))), (0, .ref (ad 27)), (1, .int a)] → W p l e ({ frames := 4, cells := 0, slots := 0, locals := 104 } : Room) s m args below meth c H locs 0 0 (MQ below (uQ D 29 ad (cC cyI cO ad n d md go ke ha wy ab be sr) (some (.int (hwV n d))) A) args s 0 0 A) (F0 m 4 ls []) := by
    intro k4
    induction k4 with
    | zero =>
      intro q a hq r4 H locs hW ls hl
      refine lv_iload_n hx hb dX2_howManyWeigh_4 rfl (lv_at hl 0 rfl) ?_
      refine lv_aload_n hx hb dX2_howManyWeigh_5 rfl (lv_at hl 1 rfl) ?_
      refine u_callV (cf' := cC cyI cO ad n d md go ke ha wy ab be sr) (As := []) (rest := [.int (nI (2 * q + 1))]) (st1 := [.int (nI (2 ^ n - 1)), .int (nI (2 * q + 1))]) C hW (c_X2_allPoints l D cyI cO cyZ ad fa n d md go ke ha wy ab be sr  (by omega)) mv_yX2_allPoints mw_433 rfl ⟨rfl, rfl, Nat.le_of_ble_eq_true rfl, Nat.le_of_ble_eq_true rfl⟩ (by decide) cC_27 rfl rfl hl (Nat.le_of_ble_eq_true rfl) rfl rfl dX2_howManyWeigh_6 (fun H locs hW => ?_)
      refine lv_icmp_ge (tgt := 37) hx hb dX2_howManyWeigh_9 (by decide) (fun _ => ?_) (fun c9 => absurd (show nI (2 ^ n - 1) ≤ nI (2 * q + 1) from nI_le (by omega) (by omega)) c9)
      refine lv_iload_n hx hb dX2_howManyWeigh_37 rfl (lv_at hl 2 rfl) ?_
      exact u_iret C hr hW dX2_howManyWeigh_38 r4 rfl
    | succ k4 ih4 =>
      intro q a hq r4 H locs hW ls hl
      refine lv_iload_n hx hb dX2_howManyWeigh_4 rfl (lv_at hl 0 rfl) ?_
      refine lv_aload_n hx hb dX2_howManyWeigh_5 rfl (lv_at hl 1 rfl) ?_
      refine u_callV (cf' := cC cyI cO ad n d md go ke ha wy ab be sr) (As := []) (rest := [.int (nI (2 * q + 1))]) (st1 := [.int (nI (2 ^ n - 1)), .int (nI (2 * q + 1))]) C hW (c_X2_allPoints l D cyI cO cyZ ad fa n d md go ke ha wy ab be sr  (by omega)) mv_yX2_allPoints mw_433 rfl ⟨rfl, rfl, Nat.le_of_ble_eq_true rfl, Nat.le_of_ble_eq_true rfl⟩ (by decide) cC_27 rfl rfl hl (Nat.le_of_ble_eq_true rfl) rfl rfl dX2_howManyWeigh_6 (fun H locs hW => ?_)
      refine lv_icmp_ge (tgt := 37) hx hb dX2_howManyWeigh_9 (by decide) (fun c9 => absurd c9 (show ¬ nI (2 ^ n - 1) ≤ nI (2 * q + 1) from nI_ge (by omega) (by omega))) (fun _ => ?_)
      refine lv_iload_n hx hb dX2_howManyWeigh_12 rfl (lv_at hl 2 rfl) ?_
      refine lv_aload_n hx hb dX2_howManyWeigh_13 rfl (lv_at hl 1 rfl) ?_
      refine lv_iload_n hx hb dX2_howManyWeigh_14 rfl (lv_at hl 0 rfl) ?_
      refine u_callV (cf' := cC cyI cO ad n d md go ke ha wy ab be sr) (As := [.int (nI (2 * q + 1))]) (rest := [.int a]) (st1 := [.int (weV n d (nI (2 * q + 1))), .int a]) C hW (c_X2_weigh l D cyI cO cyZ ad fa n d md go ke ha wy ab be sr (nI (2 * q + 1)) (by omega)) mv_yX2_weigh mw_474 rfl ⟨rfl, rfl, Nat.le_of_ble_eq_true rfl, Nat.le_of_ble_eq_true rfl⟩ (by decide) cC_27 rfl rfl hl (Nat.le_of_ble_eq_true rfl) rfl rfl dX2_howManyWeigh_15 (fun H locs hW => ?_)
      refine lv_if_le (tgt := 25) hx hb dX2_howManyWeigh_18 (by decide) (fun c18_1 => ?_) (fun c18_1 => ?_)
      · skip
        refine lv_iconst (v := 0) hx hb dX2_howManyWeigh_25 (by decide) ?_
        refine u_callSN (cf' := cC cyI cO ad n d md go ke ha wy ab be sr) (As := [.int 0]) (rest := [.int a]) (st1 := [.int (asA 0), .int a]) C hW (c_X4_asAnswer l D cyI cO cyZ ad fa n d md go ke ha wy ab be sr 0 ) ms_yX4_asAnswer (List.mem_of_getElem? (i := 13) rfl) rfl ⟨rfl, rfl, Nat.le_of_ble_eq_true rfl, Nat.le_of_ble_eq_true rfl⟩ hl (Nat.le_of_ble_eq_true rfl) rfl rfl dX2_howManyWeigh_26 (fun H locs hW => ?_)
        refine lv_iadd hx hb dX2_howManyWeigh_29 ?_
        refine lv_istore_n (lv' := [(1, .int (a + (asA 0))), (2, .int (nI (2 * q + 1))), (0, .ref (ad 27))]) hx hb dX2_howManyWeigh_30 rfl hl (by decide) rfl (fun ls hl => ?_)
        refine lv_iinc (v := nI (2 * (q + 1) + 1)) (lv' := [(2, .int (nI (2 * (q + 1) + 1))), (1, .int (a + (asA 0))), (0, .ref (ad 27))]) hx hb dX2_howManyWeigh_31 hl (k := 1) rfl (nI_add (2 * q + 1) 2) (by decide) rfl (fun ls hl => ?_)
        refine lv_goto (tgt := 4) hx hb dX2_howManyWeigh_34 (by decide) ?_
        exact ih4  (q + 1) (a + (asA 0)) (by omega) (by first | exact r4 | (have h9 := r4; simp only [lp_s, lp_0, hwF, if_pos c18_1] at h9; exact h9)) H locs hW ls (lv_sub hl [0, 2, 1] rfl)
      · skip
        refine lv_iconst (v := 1) hx hb dX2_howManyWeigh_21 (by decide) ?_
        refine lv_goto (tgt := 26) hx hb dX2_howManyWeigh_22 (by decide) ?_
        refine u_callSN (cf' := cC cyI cO ad n d md go ke ha wy ab be sr) (As := [.int 1]) (rest := [.int a]) (st1 := [.int (asA 1), .int a]) C hW (c_X4_asAnswer l D cyI cO cyZ ad fa n d md go ke ha wy ab be sr 1 ) ms_yX4_asAnswer (List.mem_of_getElem? (i := 13) rfl) rfl ⟨rfl, rfl, Nat.le_of_ble_eq_true rfl, Nat.le_of_ble_eq_true rfl⟩ hl (Nat.le_of_ble_eq_true rfl) rfl rfl dX2_howManyWeigh_26 (fun H locs hW => ?_)
        refine lv_iadd hx hb dX2_howManyWeigh_29 ?_
        refine lv_istore_n (lv' := [(1, .int (a + (asA 1))), (2, .int (nI (2 * q + 1))), (0, .ref (ad 27))]) hx hb dX2_howManyWeigh_30 rfl hl (by decide) rfl (fun ls hl => ?_)
        refine lv_iinc (v := nI (2 * (q + 1) + 1)) (lv' := [(2, .int (nI (2 * (q + 1) + 1))), (1, .int (a + (asA 1))), (0, .ref (ad 27))]) hx hb dX2_howManyWeigh_31 hl (k := 1) rfl (nI_add (2 * q + 1) 2) (by decide) rfl (fun ls hl => ?_)
        refine lv_goto (tgt := 4) hx hb dX2_howManyWeigh_34 (by decide) ?_
        exact ih4  (q + 1) (a + (asA 1)) (by omega) (by first | exact r4 | (have h9 := r4; simp only [lp_s, lp_0, hwF, if_neg c18_1] at h9; exact h9)) H locs hW ls (lv_sub hl [0, 2, 1] rfl)
  exact L4 (2 ^ (n - 1) - 1) 0 0 (by omega) rfl H locs hW ls (lv_sub hl [0, 2, 1] rfl)
set_option maxHeartbeats 4000000 in
set_option maxRecDepth 100000 in
theorem c_X2_leftOf (l : Launch) (D : va_G) (cyI cO cyZ : ClassId) (ad : Nat → Nat) (fa : Nat) (n : Nat) (d md : Nat → Nat → Int32) (go ke ha : Nat → Int32) (wy : Nat → Nat → Int32) (ab be sr : Int32) (i j : Nat) (hn : n ≤ 6) (h2 : 2 ≤ n) (hi : i < 6) (hj : j < 6) : Ct l yX2_leftOf (Cond.code yX2_leftOf cX2_leftOf 5 (some .int) :: wsL_law) ({ frames := 4, cells := 0, slots := 0, locals := 104 } : Room) D (ty3 cyI cO cyZ) 29 ad fa [.ref (ad 27), .int (nI i), .int (nI j)] (cC cyI cO ad n d md go ke ha wy ab be sr) (cC cyI cO ad n d md go ke ha wy ab be sr) (some (.int (loV n d i j))) := by
  refine Ct.of (by decide) (Nat.le_of_ble_eq_true rfl) ?_
  intro p e s m args below meth c A C hr H locs hW ls hl
  have C : Cx p s m args meth c cX2_leftOf 5 RX2 D (ty3 cyI cO cyZ) fa A := C
  have hx := C.1
  have hb := C.2.1
  have hl : lv_has ls 5 [(0, .ref (ad 27)), (1, .int (nI i)), (2, .int (nI j))] := hl
  have hpw := pw_half h2 hn
  refine lv_iconst (v := 2) hx hb dX2_leftOf_0 (by decide) ?_
  refine lv_aload_n hx hb dX2_leftOf_1 rfl (lv_at hl 0 rfl) ?_
  refine u_get C hW inlX2 (by decide) cC_27 rfl 0 (by decide) mw_52 rfl dX2_leftOf_2 ?_
  refine u_getN C hW inlX3 (by decide) cC_1 rfl 0 (by decide) (List.mem_of_getElem? (i := 11) rfl) rfl dX2_leftOf_5 ?_
  refine lv_iload_n hx hb dX2_leftOf_8 rfl (lv_at hl 1 rfl) ?_
  refine u_aald C hW (by decide) cC_2 1 rfl i rfl (by omega) (by decide) (cC_outer (by omega)) dX2_leftOf_9 ?_
  refine lv_iload_n hx hb dX2_leftOf_10 rfl (lv_at hl 2 rfl) ?_
  refine u_iald C hW (by omega) (cC_d (by omega)) 0 rfl j rfl (by omega) (by decide) dX2_leftOf_11 ?_
  refine lv_imul hx hb dX2_leftOf_12 ?_
  refine lv_istore_n (lv' := [(3, .int (2 * (d i j))), (0, .ref (ad 27)), (1, .int (nI i)), (2, .int (nI j))]) hx hb dX2_leftOf_13 rfl hl (by decide) rfl (fun ls hl => ?_)
  refine lv_iconst (v := 1) hx hb dX2_leftOf_14 (by decide) ?_
  refine lv_istore (lv' := [(4, .int 1), (3, .int (2 * (d i j))), (0, .ref (ad 27)), (1, .int (nI i)), (2, .int (nI j))]) hx hb dX2_leftOf_15 hl (by decide) rfl (fun ls hl => ?_)
  have L17 : ∀ (k17 : Nat) (q : Nat) (a : Int32), q + k17 = 2 ^ (n - 1) - 1 → lp (loF n d i j) q k17 a = loV n d i j → ∀ (H : Heap) (locs : List Loc), Wd D 29 ad (cC cyI cO ad n d md go ke ha wy ab be sr) A s.heap H locs → ∀ ls : Array Slot, lv_has ls 5 [(4, .int (nI (2 * q + 1))), (0, .ref (ad 27)), (1, .int (nI i)), (2, .int (nI j)), (3, .int a)] → W p l e ({ frames := 4, cells := 0, slots := 0, locals := 104 } : Room) s m args below meth c H locs 0 0 (MQ below (uQ D 29 ad (cC cyI cO ad n d md go ke ha wy ab be sr) (some (.int (loV n d i j))) A) args s 0 0 A) (F0 m 17 ls []) := by
    intro k17
    induction k17 with
    | zero =>
      intro q a hq r17 H locs hW ls hl
      refine lv_iload hx hb dX2_leftOf_17 (lv_at hl 0 rfl) ?_
      refine lv_aload_n hx hb dX2_leftOf_19 rfl (lv_at hl 1 rfl) ?_
      refine u_callV (cf' := cC cyI cO ad n d md go ke ha wy ab be sr) (As := []) (rest := [.int (nI (2 * q + 1))]) (st1 := [.int (nI (2 ^ n - 1)), .int (nI (2 * q + 1))]) C hW (c_X2_allPoints l D cyI cO cyZ ad fa n d md go ke ha wy ab be sr  (by omega)) mv_yX2_allPoints mw_433 rfl ⟨rfl, rfl, Nat.le_of_ble_eq_true rfl, Nat.le_of_ble_eq_true rfl⟩ (by decide) cC_27 rfl rfl hl (Nat.le_of_ble_eq_true rfl) rfl rfl dX2_leftOf_20 (fun H locs hW => ?_)
      refine lv_icmp_ge (tgt := 56) hx hb dX2_leftOf_23 (by decide) (fun _ => ?_) (fun c9 => absurd (show nI (2 ^ n - 1) ≤ nI (2 * q + 1) from nI_le (by omega) (by omega)) c9)
      refine lv_iload_n hx hb dX2_leftOf_56 rfl (lv_at hl 4 rfl) ?_
      exact u_iret C hr hW dX2_leftOf_57 r17 rfl
    | succ k17 ih17 =>
      intro q a hq r17 H locs hW ls hl
      refine lv_iload hx hb dX2_leftOf_17 (lv_at hl 0 rfl) ?_
      refine lv_aload_n hx hb dX2_leftOf_19 rfl (lv_at hl 1 rfl) ?_
      refine u_callV (cf' := cC cyI cO ad n d md go ke ha wy ab be sr) (As := []) (rest := [.int (nI (2 * q + 1))]) (st1 := [.int (nI (2 ^ n - 1)), .int (nI (2 * q + 1))]) C hW (c_X2_allPoints l D cyI cO cyZ ad fa n d md go ke ha wy ab be sr  (by omega)) mv_yX2_allPoints mw_433 rfl ⟨rfl, rfl, Nat.le_of_ble_eq_true rfl, Nat.le_of_ble_eq_true rfl⟩ (by decide) cC_27 rfl rfl hl (Nat.le_of_ble_eq_true rfl) rfl rfl dX2_leftOf_20 (fun H locs hW => ?_)
      refine lv_icmp_ge (tgt := 56) hx hb dX2_leftOf_23 (by decide) (fun c9 => absurd c9 (show ¬ nI (2 ^ n - 1) ≤ nI (2 * q + 1) from nI_ge (by omega) (by omega))) (fun _ => ?_)
      refine lv_iload hx hb dX2_leftOf_26 (lv_at hl 0 rfl) ?_
      refine lv_iload_n hx hb dX2_leftOf_28 rfl (lv_at hl 2 rfl) ?_
      refine u_callS (cf' := cC cyI cO ad n d md go ke ha wy ab be sr) (As := [.int (nI (2 * q + 1)), .int (nI i)]) (rest := []) (st1 := [.int (iiV (nI (2 * q + 1)) (nI i))]) C hW (c_X2_isIn l D cyI cO cyZ ad fa n d md go ke ha wy ab be sr (nI (2 * q + 1)) (nI i) ) ms_yX2_isIn mw_437 rfl ⟨rfl, rfl, Nat.le_of_ble_eq_true rfl, Nat.le_of_ble_eq_true rfl⟩ hl (Nat.le_of_ble_eq_true rfl) rfl rfl dX2_leftOf_29 (fun H locs hW => ?_)
      refine lv_iload hx hb dX2_leftOf_32 (lv_at hl 0 rfl) ?_
      refine lv_iload_n hx hb dX2_leftOf_34 rfl (lv_at hl 3 rfl) ?_
      refine u_callS (cf' := cC cyI cO ad n d md go ke ha wy ab be sr) (As := [.int (nI (2 * q + 1)), .int (nI j)]) (rest := [.int (iiV (nI (2 * q + 1)) (nI i))]) (st1 := [.int (iiV (nI (2 * q + 1)) (nI j)), .int (iiV (nI (2 * q + 1)) (nI i))]) C hW (c_X2_isIn l D cyI cO cyZ ad fa n d md go ke ha wy ab be sr (nI (2 * q + 1)) (nI j) ) ms_yX2_isIn mw_437 rfl ⟨rfl, rfl, Nat.le_of_ble_eq_true rfl, Nat.le_of_ble_eq_true rfl⟩ hl (Nat.le_of_ble_eq_true rfl) rfl rfl dX2_leftOf_35 (fun H locs hW => ?_)
      refine lv_icmp_eq (tgt := 50) hx hb dX2_leftOf_38 (by decide) (fun c38_1 => ?_) (fun c38_1 => ?_)
      · skip
        refine lv_iinc (v := nI (2 * (q + 1) + 1)) (lv' := [(4, .int (nI (2 * (q + 1) + 1))), (0, .ref (ad 27)), (1, .int (nI i)), (2, .int (nI j)), (3, .int a)]) hx hb dX2_leftOf_50 hl (k := 0) rfl (nI_add (2 * q + 1) 2) (by decide) rfl (fun ls hl => ?_)
        refine lv_goto (tgt := 17) hx hb dX2_leftOf_53 (by decide) ?_
        exact ih17  (q + 1) a (by omega) (by first | exact r17 | (have h9 := r17; simp only [lp_s, lp_0, loF, if_pos c38_1] at h9; exact h9)) H locs hW ls (lv_sub hl [0, 1, 2, 3, 4] rfl)
      · skip
        refine lv_iload_n hx hb dX2_leftOf_41 rfl (lv_at hl 4 rfl) ?_
        refine lv_aload_n hx hb dX2_leftOf_42 rfl (lv_at hl 1 rfl) ?_
        refine lv_iload hx hb dX2_leftOf_43 (lv_at hl 0 rfl) ?_
        refine u_callV (cf' := cC cyI cO ad n d md go ke ha wy ab be sr) (As := [.int (nI (2 * q + 1))]) (rest := [.int a]) (st1 := [.int (weV n d (nI (2 * q + 1))), .int a]) C hW (c_X2_weigh l D cyI cO cyZ ad fa n d md go ke ha wy ab be sr (nI (2 * q + 1)) (by omega)) mv_yX2_weigh mw_474 rfl ⟨rfl, rfl, Nat.le_of_ble_eq_true rfl, Nat.le_of_ble_eq_true rfl⟩ (by decide) cC_27 rfl rfl hl (Nat.le_of_ble_eq_true rfl) rfl rfl dX2_leftOf_45 (fun H locs hW => ?_)
        refine lv_isub hx hb dX2_leftOf_48 ?_
        refine lv_istore_n (lv' := [(3, .int (a - (weV n d (nI (2 * q + 1))))), (4, .int (nI (2 * q + 1))), (0, .ref (ad 27)), (1, .int (nI i)), (2, .int (nI j))]) hx hb dX2_leftOf_49 rfl hl (by decide) rfl (fun ls hl => ?_)
        refine lv_iinc (v := nI (2 * (q + 1) + 1)) (lv' := [(4, .int (nI (2 * (q + 1) + 1))), (3, .int (a - (weV n d (nI (2 * q + 1))))), (0, .ref (ad 27)), (1, .int (nI i)), (2, .int (nI j))]) hx hb dX2_leftOf_50 hl (k := 1) rfl (nI_add (2 * q + 1) 2) (by decide) rfl (fun ls hl => ?_)
        refine lv_goto (tgt := 17) hx hb dX2_leftOf_53 (by decide) ?_
        exact ih17  (q + 1) (a - (weV n d (nI (2 * q + 1)))) (by omega) (by first | exact r17 | (have h9 := r17; simp only [lp_s, lp_0, loF, if_neg c38_1] at h9; exact h9)) H locs hW ls (lv_sub hl [0, 2, 3, 4, 1] rfl)
  exact L17 (2 ^ (n - 1) - 1) 0 (2 * (d i j)) (by omega) rfl H locs hW ls (lv_sub hl [0, 2, 3, 4, 1] rfl)
set_option maxHeartbeats 4000000 in
set_option maxRecDepth 100000 in
theorem c_X0_howMany (l : Launch) (D : va_G) (cyI cO cyZ : ClassId) (ad : Nat → Nat) (fa : Nat) (n : Nat) (d md : Nat → Nat → Int32) (go ke ha : Nat → Int32) (wy : Nat → Nat → Int32) (ab be sr : Int32)  (hn : n ≤ 6) : Ct l yX0_howMany (Cond.code yX0_howMany cX0_howMany 1 (some .int) :: wsL_law) ({ frames := 0, cells := 0, slots := 0, locals := 0 } : Room) D (ty3 cyI cO cyZ) 29 ad fa [.ref (ad 28)] (cC cyI cO ad n d md go ke ha wy ab be sr) (cC cyI cO ad n d md go ke ha wy ab be sr) (some (.int (nI (fct n)))) := by
  refine Ct.of (by decide) (Nat.le_of_ble_eq_true rfl) ?_
  intro p e s m args below meth c A C hr H locs hW ls hl
  have C : Cx p s m args meth c cX0_howMany 1 RX0 D (ty3 cyI cO cyZ) fa A := C
  have hx := C.1
  have hb := C.2.1
  have hl : lv_has ls 1 [(0, .ref (ad 28))] := hl
  refine va_getsN hx hb C.2.2.2.2.2.2.2.2.2.1 hW.2.2 C.2.2.2.1 (va_Nw.use rfl (C.2.2.2.2.2.2.1 _ (List.mem_of_getElem? (i := 5) rfl))) (fun _ h => h) dX0_howMany_0 ?_
  refine lv_aload_n hx hb dX0_howMany_3 rfl (lv_at hl 0 rfl) ?_
  refine u_get C hW inlX0 (by decide) cC_28 rfl 0 (by decide) mw_57 rfl dX0_howMany_4 ?_
  refine u_getN C hW inlX3 (by decide) cC_1 rfl 2 (by decide) (List.mem_of_getElem? (i := 6) rfl) rfl dX0_howMany_7 ?_
  refine va_ti hx hb C.2.2.2.2.2.2.2.2.2.2 hW.2.2 (vp_in_nI (n := n) (by omega) (by decide)) (v := .int (nI (fct n))) (facV_n hn) dX0_howMany_10 ?_
  exact u_iret C hr hW dX0_howMany_11 rfl rfl
set_option maxHeartbeats 4000000 in
set_option maxRecDepth 100000 in
theorem c_X0_reached (l : Launch) (D : va_G) (cyI cO cyZ : ClassId) (ad : Nat → Nat) (fa : Nat) (n : Nat) (d md : Nat → Nat → Int32) (go ke ha : Nat → Int32) (wy : Nat → Nat → Int32) (ab be sr : Int32) (i : Nat) (r : Int32) (hn : n ≤ 6) (hi : i < 6) : Ct l yX0_reached (Cond.code yX0_reached cX0_reached 5 (some .int) :: wsL_law) ({ frames := 0, cells := 0, slots := 0, locals := 0 } : Room) D (ty3 cyI cO cyZ) 29 ad fa [.ref (ad 28), .int (nI i), .int r] (cC cyI cO ad n d md go ke ha wy ab be sr) (cC cyI cO ad n d md go ke ha wy ab be sr) (some (.int (rcV n d i r))) := by
  refine Ct.of (by decide) (Nat.le_of_ble_eq_true rfl) ?_
  intro p e s m args below meth c A C hr H locs hW ls hl
  have C : Cx p s m args meth c cX0_reached 5 RX0 D (ty3 cyI cO cyZ) fa A := C
  have hx := C.1
  have hb := C.2.1
  have hl : lv_has ls 5 [(0, .ref (ad 28)), (1, .int (nI i)), (2, .int r)] := hl
  refine lv_iconst (v := 0) hx hb dX0_reached_0 (by decide) ?_
  refine lv_istore_n (lv' := [(3, .int 0), (0, .ref (ad 28)), (1, .int (nI i)), (2, .int r)]) hx hb dX0_reached_1 rfl hl (by decide) rfl (fun ls hl => ?_)
  refine lv_iconst (v := 0) hx hb dX0_reached_2 (by decide) ?_
  refine lv_istore (lv' := [(4, .int 0), (3, .int 0), (0, .ref (ad 28)), (1, .int (nI i)), (2, .int r)]) hx hb dX0_reached_3 hl (by decide) rfl (fun ls hl => ?_)
  have L5 : ∀ (k5 : Nat) (k : Nat) (b : Int32), k + k5 = n → lp (rcF d i r) k k5 b = rcV n d i r → ∀ (H : Heap) (locs : List Loc), Wd D 29 ad (cC cyI cO ad n d md go ke ha wy ab be sr) A s.heap H locs → ∀ ls : Array Slot, lv_has ls 5 [(4, .int (nI k)), (0, .ref (ad 28)), (1, .int (nI i)), (2, .int r), (3, .int b)] → W p l e ({ frames := 0, cells := 0, slots := 0, locals := 0 } : Room) s m args below meth c H locs 0 0 (MQ below (uQ D 29 ad (cC cyI cO ad n d md go ke ha wy ab be sr) (some (.int (rcV n d i r))) A) args s 0 0 A) (F0 m 5 ls []) := by
    intro k5
    induction k5 with
    | zero =>
      intro k b hk r5 H locs hW ls hl
      refine lv_iload hx hb dX0_reached_5 (lv_at hl 0 rfl) ?_
      refine lv_aload_n hx hb dX0_reached_7 rfl (lv_at hl 1 rfl) ?_
      refine u_get C hW inlX0 (by decide) cC_28 rfl 0 (by decide) mw_57 rfl dX0_reached_8 ?_
      refine u_getN C hW inlX3 (by decide) cC_1 rfl 2 (by decide) (List.mem_of_getElem? (i := 6) rfl) rfl dX0_reached_11 ?_
      refine lv_icmp_ge (tgt := 46) hx hb dX0_reached_14 (by decide) (fun _ => ?_) (fun c9 => absurd (nI_le (by omega) (by omega)) c9)
      refine lv_iload_n hx hb dX0_reached_46 rfl (lv_at hl 4 rfl) ?_
      exact u_iret C hr hW dX0_reached_47 r5 rfl
    | succ k5 ih5 =>
      intro k b hk r5 H locs hW ls hl
      refine lv_iload hx hb dX0_reached_5 (lv_at hl 0 rfl) ?_
      refine lv_aload_n hx hb dX0_reached_7 rfl (lv_at hl 1 rfl) ?_
      refine u_get C hW inlX0 (by decide) cC_28 rfl 0 (by decide) mw_57 rfl dX0_reached_8 ?_
      refine u_getN C hW inlX3 (by decide) cC_1 rfl 2 (by decide) (List.mem_of_getElem? (i := 6) rfl) rfl dX0_reached_11 ?_
      refine lv_icmp_ge (tgt := 46) hx hb dX0_reached_14 (by decide) (fun c9 => absurd c9 (nI_ge (by omega) (by omega))) (fun _ => ?_)
      refine lv_aload_n hx hb dX0_reached_17 rfl (lv_at hl 1 rfl) ?_
      refine u_get C hW inlX0 (by decide) cC_28 rfl 0 (by decide) mw_57 rfl dX0_reached_18 ?_
      refine u_getN C hW inlX3 (by decide) cC_1 rfl 0 (by decide) (List.mem_of_getElem? (i := 7) rfl) rfl dX0_reached_21 ?_
      refine lv_iload_n hx hb dX0_reached_24 rfl (lv_at hl 2 rfl) ?_
      refine u_aald C hW (by decide) cC_2 1 rfl i rfl (by omega) (by decide) (cC_outer (by omega)) dX0_reached_25 ?_
      refine lv_iload hx hb dX0_reached_26 (lv_at hl 0 rfl) ?_
      refine u_iald C hW (by omega) (cC_d (by omega)) 0 rfl k rfl (by omega) (by decide) dX0_reached_28 ?_
      refine lv_iload_n hx hb dX0_reached_29 rfl (lv_at hl 3 rfl) ?_
      refine lv_icmp_gt (tgt := 40) hx hb dX0_reached_30 (by decide) (fun c30_1 => ?_) (fun c30_1 => ?_)
      · skip
        refine lv_iinc (v := nI (k + 1)) (lv' := [(4, .int (nI (k + 1))), (0, .ref (ad 28)), (1, .int (nI i)), (2, .int r), (3, .int b)]) hx hb dX0_reached_40 hl (k := 0) rfl (nI_1 _) (by decide) rfl (fun ls hl => ?_)
        refine lv_goto (tgt := 5) hx hb dX0_reached_43 (by decide) ?_
        exact ih5  (k + 1) b (by omega) (by first | exact r5 | (have h9 := r5; simp only [lp_s, lp_0, rcF, if_pos c30_1] at h9; exact h9)) H locs hW ls (lv_sub hl [0, 1, 2, 3, 4] rfl)
      · skip
        refine lv_iload_n hx hb dX0_reached_33 rfl (lv_at hl 4 rfl) ?_
        refine lv_iconst (v := 1) hx hb dX0_reached_34 (by decide) ?_
        refine lv_iload hx hb dX0_reached_35 (lv_at hl 0 rfl) ?_
        refine lv_ishl hx hb dX0_reached_37 ?_
        refine lv_ior hx hb dX0_reached_38 ?_
        refine lv_istore_n (lv' := [(3, .int (b ||| (1 <<< ((nI k) &&& 31)))), (4, .int (nI k)), (0, .ref (ad 28)), (1, .int (nI i)), (2, .int r)]) hx hb dX0_reached_39 rfl hl (by decide) rfl (fun ls hl => ?_)
        refine lv_iinc (v := nI (k + 1)) (lv' := [(4, .int (nI (k + 1))), (3, .int (b ||| (1 <<< ((nI k) &&& 31)))), (0, .ref (ad 28)), (1, .int (nI i)), (2, .int r)]) hx hb dX0_reached_40 hl (k := 1) rfl (nI_1 _) (by decide) rfl (fun ls hl => ?_)
        refine lv_goto (tgt := 5) hx hb dX0_reached_43 (by decide) ?_
        exact ih5  (k + 1) (b ||| (1 <<< ((nI k) &&& 31))) (by omega) (by first | exact r5 | (have h9 := r5; simp only [lp_s, lp_0, rcF, if_neg c30_1] at h9; exact h9)) H locs hW ls (lv_sub hl [0, 2, 3, 4, 1] rfl)
  exact L5 n 0 0 (by omega) rfl H locs hW ls (lv_sub hl [0, 2, 3, 4, 1] rfl)
set_option maxHeartbeats 4000000 in
set_option maxRecDepth 100000 in
theorem c_J6_bitCount_0f7a4 (l : Launch) (D : va_G) (cyI cO cyZ : ClassId) (ad : Nat → Nat) (fa : Nat) (n : Nat) (d md : Nat → Nat → Int32) (go ke ha : Nat → Int32) (wy : Nat → Nat → Int32) (ab be sr : Int32) (x : Int32)  : Ct l yJ6_bitCount_0f7a4 (Cond.code yJ6_bitCount_0f7a4 cJ6_bitCount_0f7a4 1 (some .int) :: wsL_law) ({ frames := 0, cells := 0, slots := 0, locals := 0 } : Room) D (ty3 cyI cO cyZ) 29 ad fa [.int x] (cC cyI cO ad n d md go ke ha wy ab be sr) (cC cyI cO ad n d md go ke ha wy ab be sr) (some (.int (bctV x))) := by
  refine Ct.of (by decide) (Nat.le_of_ble_eq_true rfl) ?_
  intro p e s m args below meth c A C hr H locs hW ls hl
  have C : Cx p s m args meth c cJ6_bitCount_0f7a4 1 RJ6 D (ty3 cyI cO cyZ) fa A := C
  have hx := C.1
  have hb := C.2.1
  have hl : lv_has ls 1 [(0, .int x)] := hl
  refine lv_iload_n hx hb dJ6_bitCount_0f7a4_0 rfl (lv_at hl 0 rfl) ?_
  refine lv_iload_n hx hb dJ6_bitCount_0f7a4_1 rfl (lv_at hl 0 rfl) ?_
  refine lv_iconst (v := 1) hx hb dJ6_bitCount_0f7a4_2 (by decide) ?_
  refine lv_iushr hx hb dJ6_bitCount_0f7a4_3 rfl ?_
  refine lv_ldcw (v := 1431655765) hx hb C.2.2.2.1 (C.2.2.2.2.1 _ mw_507) dJ6_bitCount_0f7a4_4 ?_
  refine lv_iand hx hb dJ6_bitCount_0f7a4_7 ?_
  refine lv_isub hx hb dJ6_bitCount_0f7a4_8 ?_
  refine u_top (show x - ((((x : Int32).toUInt32 >>> ((1 : Int32).toUInt32 &&& Int32.toUInt32 31)).toInt32) &&& 1431655765) = bc1 x from rfl) ?_
  refine lv_istore_n (lv' := [(0, .int (bc1 x))]) hx hb dJ6_bitCount_0f7a4_9 rfl hl (by decide) rfl (fun ls hl => ?_)
  refine lv_iload_n hx hb dJ6_bitCount_0f7a4_10 rfl (lv_at hl 0 rfl) ?_
  refine lv_ldcw (v := 858993459) hx hb C.2.2.2.1 (C.2.2.2.2.1 _ mw_508) dJ6_bitCount_0f7a4_11 ?_
  refine lv_iand hx hb dJ6_bitCount_0f7a4_14 ?_
  refine lv_iload_n hx hb dJ6_bitCount_0f7a4_15 rfl (lv_at hl 0 rfl) ?_
  refine lv_iconst (v := 2) hx hb dJ6_bitCount_0f7a4_16 (by decide) ?_
  refine lv_iushr hx hb dJ6_bitCount_0f7a4_17 rfl ?_
  refine lv_ldcw (v := 858993459) hx hb C.2.2.2.1 (C.2.2.2.2.1 _ mw_508) dJ6_bitCount_0f7a4_18 ?_
  refine lv_iand hx hb dJ6_bitCount_0f7a4_21 ?_
  refine lv_iadd hx hb dJ6_bitCount_0f7a4_22 ?_
  refine u_top (show ((bc1 x) &&& 858993459) + (((((bc1 x) : Int32).toUInt32 >>> ((2 : Int32).toUInt32 &&& Int32.toUInt32 31)).toInt32) &&& 858993459) = bc2 x from rfl) ?_
  refine lv_istore_n (lv' := [(0, .int (bc2 x))]) hx hb dJ6_bitCount_0f7a4_23 rfl hl (by decide) rfl (fun ls hl => ?_)
  refine lv_iload_n hx hb dJ6_bitCount_0f7a4_24 rfl (lv_at hl 0 rfl) ?_
  refine lv_iload_n hx hb dJ6_bitCount_0f7a4_25 rfl (lv_at hl 0 rfl) ?_
  refine lv_iconst (v := 4) hx hb dJ6_bitCount_0f7a4_26 (by decide) ?_
  refine lv_iushr hx hb dJ6_bitCount_0f7a4_27 rfl ?_
  refine lv_iadd hx hb dJ6_bitCount_0f7a4_28 ?_
  refine lv_ldcw (v := 252645135) hx hb C.2.2.2.1 (C.2.2.2.2.1 _ mw_509) dJ6_bitCount_0f7a4_29 ?_
  refine lv_iand hx hb dJ6_bitCount_0f7a4_32 ?_
  refine u_top (show ((bc2 x) + ((((bc2 x) : Int32).toUInt32 >>> ((4 : Int32).toUInt32 &&& Int32.toUInt32 31)).toInt32)) &&& 252645135 = bc3 x from rfl) ?_
  refine lv_istore_n (lv' := [(0, .int (bc3 x))]) hx hb dJ6_bitCount_0f7a4_33 rfl hl (by decide) rfl (fun ls hl => ?_)
  refine lv_iload_n hx hb dJ6_bitCount_0f7a4_34 rfl (lv_at hl 0 rfl) ?_
  refine lv_iload_n hx hb dJ6_bitCount_0f7a4_35 rfl (lv_at hl 0 rfl) ?_
  refine lv_bipush (v := 8) hx hb dJ6_bitCount_0f7a4_36 (by decide) ?_
  refine lv_iushr hx hb dJ6_bitCount_0f7a4_38 rfl ?_
  refine lv_iadd hx hb dJ6_bitCount_0f7a4_39 ?_
  refine u_top (show (bc3 x) + ((((bc3 x) : Int32).toUInt32 >>> ((8 : Int32).toUInt32 &&& Int32.toUInt32 31)).toInt32) = bc4 x from rfl) ?_
  refine lv_istore_n (lv' := [(0, .int (bc4 x))]) hx hb dJ6_bitCount_0f7a4_40 rfl hl (by decide) rfl (fun ls hl => ?_)
  refine lv_iload_n hx hb dJ6_bitCount_0f7a4_41 rfl (lv_at hl 0 rfl) ?_
  refine lv_iload_n hx hb dJ6_bitCount_0f7a4_42 rfl (lv_at hl 0 rfl) ?_
  refine lv_bipush (v := 16) hx hb dJ6_bitCount_0f7a4_43 (by decide) ?_
  refine lv_iushr hx hb dJ6_bitCount_0f7a4_45 rfl ?_
  refine lv_iadd hx hb dJ6_bitCount_0f7a4_46 ?_
  refine u_top (show (bc4 x) + ((((bc4 x) : Int32).toUInt32 >>> ((16 : Int32).toUInt32 &&& Int32.toUInt32 31)).toInt32) = bc5 x from rfl) ?_
  refine lv_istore_n (lv' := [(0, .int (bc5 x))]) hx hb dJ6_bitCount_0f7a4_47 rfl hl (by decide) rfl (fun ls hl => ?_)
  refine lv_iload_n hx hb dJ6_bitCount_0f7a4_48 rfl (lv_at hl 0 rfl) ?_
  refine lv_bipush (v := 63) hx hb dJ6_bitCount_0f7a4_49 (by decide) ?_
  refine lv_iand hx hb dJ6_bitCount_0f7a4_51 ?_
  exact u_iret C hr hW dJ6_bitCount_0f7a4_52 rfl rfl
set_option maxHeartbeats 4000000 in
set_option maxRecDepth 100000 in
theorem c_X0_ordersThatPart (l : Launch) (D : va_G) (cyI cO cyZ : ClassId) (ad : Nat → Nat) (fa : Nat) (n : Nat) (d md : Nat → Nat → Int32) (go ke ha : Nat → Int32) (wy : Nat → Nat → Int32) (ab be sr : Int32) (i j : Nat) (r : Int32) (hn : n ≤ 6) (hi : i < 6) (hj : j < 6) : Ct l yX0_ordersThatPart (Cond.code yX0_ordersThatPart cX0_ordersThatPart 6 (some .int) :: wsL_law) ({ frames := 1, cells := 0, slots := 0, locals := 24 } : Room) D (ty3 cyI cO cyZ) 29 ad fa [.ref (ad 28), .int (nI i), .int (nI j), .int r] (cC cyI cO ad n d md go ke ha wy ab be sr) (cC cyI cO ad n d md go ke ha wy ab be sr) (some (.int (otV n d i j r))) := by
  refine Ct.of (by decide) (Nat.le_of_ble_eq_true rfl) ?_
  intro p e s m args below meth c A C hr H locs hW ls hl
  have C : Cx p s m args meth c cX0_ordersThatPart 6 RX0 D (ty3 cyI cO cyZ) fa A := C
  have hx := C.1
  have hb := C.2.1
  have hl : lv_has ls 6 [(0, .ref (ad 28)), (1, .int (nI i)), (2, .int (nI j)), (3, .int r)] := hl
  refine lv_aload_n hx hb dX0_ordersThatPart_0 rfl (lv_at hl 0 rfl) ?_
  refine lv_iload_n hx hb dX0_ordersThatPart_1 rfl (lv_at hl 1 rfl) ?_
  refine lv_iload_n hx hb dX0_ordersThatPart_2 rfl (lv_at hl 3 rfl) ?_
  refine u_callV (cf' := cC cyI cO ad n d md go ke ha wy ab be sr) (As := [.int (nI i), .int r]) (rest := []) (st1 := [.int (rcV n d i r)]) C hW (c_X0_reached l D cyI cO cyZ ad fa n d md go ke ha wy ab be sr i r (by omega) (by omega)) mv_yX0_reached mw_499 rfl ⟨rfl, rfl, Nat.le_of_ble_eq_true rfl, Nat.le_of_ble_eq_true rfl⟩ (by decide) cC_28 rfl rfl hl (Nat.le_of_ble_eq_true rfl) rfl rfl dX0_ordersThatPart_3 (fun H locs hW => ?_)
  refine lv_aload_n hx hb dX0_ordersThatPart_6 rfl (lv_at hl 0 rfl) ?_
  refine lv_iload_n hx hb dX0_ordersThatPart_7 rfl (lv_at hl 2 rfl) ?_
  refine lv_iload_n hx hb dX0_ordersThatPart_8 rfl (lv_at hl 3 rfl) ?_
  refine u_callV (cf' := cC cyI cO ad n d md go ke ha wy ab be sr) (As := [.int (nI j), .int r]) (rest := [.int (rcV n d i r)]) (st1 := [.int (rcV n d j r), .int (rcV n d i r)]) C hW (c_X0_reached l D cyI cO cyZ ad fa n d md go ke ha wy ab be sr j r (by omega) (by omega)) mv_yX0_reached mw_499 rfl ⟨rfl, rfl, Nat.le_of_ble_eq_true rfl, Nat.le_of_ble_eq_true rfl⟩ (by decide) cC_28 rfl rfl hl (Nat.le_of_ble_eq_true rfl) rfl rfl dX0_ordersThatPart_9 (fun H locs hW => ?_)
  refine lv_ior hx hb dX0_ordersThatPart_12 ?_
  refine u_callS (cf' := cC cyI cO ad n d md go ke ha wy ab be sr) (As := [.int ((rcV n d i r) ||| (rcV n d j r))]) (rest := []) (st1 := [.int (bctV ((rcV n d i r) ||| (rcV n d j r)))]) C hW (c_J6_bitCount_0f7a4 l D cyI cO cyZ ad fa n d md go ke ha wy ab be sr ((rcV n d i r) ||| (rcV n d j r)) ) ms_yJ6_bitCount_0f7a4 mw_503 rfl ⟨rfl, rfl, Nat.le_of_ble_eq_true rfl, Nat.le_of_ble_eq_true rfl⟩ hl (Nat.le_of_ble_eq_true rfl) rfl rfl dX0_ordersThatPart_13 (fun H locs hW => ?_)
  refine lv_istore (lv' := [(4, .int (bctV ((rcV n d i r) ||| (rcV n d j r)))), (0, .ref (ad 28)), (1, .int (nI i)), (2, .int (nI j)), (3, .int r)]) hx hb dX0_ordersThatPart_16 hl (by decide) rfl (fun ls hl => ?_)
  refine lv_aload_n hx hb dX0_ordersThatPart_18 rfl (lv_at hl 1 rfl) ?_
  refine lv_iload_n hx hb dX0_ordersThatPart_19 rfl (lv_at hl 2 rfl) ?_
  refine lv_iload_n hx hb dX0_ordersThatPart_20 rfl (lv_at hl 4 rfl) ?_
  refine u_callV (cf' := cC cyI cO ad n d md go ke ha wy ab be sr) (As := [.int (nI i), .int r]) (rest := []) (st1 := [.int (rcV n d i r)]) C hW (c_X0_reached l D cyI cO cyZ ad fa n d md go ke ha wy ab be sr i r (by omega) (by omega)) mv_yX0_reached mw_499 rfl ⟨rfl, rfl, Nat.le_of_ble_eq_true rfl, Nat.le_of_ble_eq_true rfl⟩ (by decide) cC_28 rfl rfl hl (Nat.le_of_ble_eq_true rfl) rfl rfl dX0_ordersThatPart_21 (fun H locs hW => ?_)
  refine lv_aload_n hx hb dX0_ordersThatPart_24 rfl (lv_at hl 1 rfl) ?_
  refine lv_iload_n hx hb dX0_ordersThatPart_25 rfl (lv_at hl 3 rfl) ?_
  refine lv_iload_n hx hb dX0_ordersThatPart_26 rfl (lv_at hl 4 rfl) ?_
  refine u_callV (cf' := cC cyI cO ad n d md go ke ha wy ab be sr) (As := [.int (nI j), .int r]) (rest := [.int (rcV n d i r)]) (st1 := [.int (rcV n d j r), .int (rcV n d i r)]) C hW (c_X0_reached l D cyI cO cyZ ad fa n d md go ke ha wy ab be sr j r (by omega) (by omega)) mv_yX0_reached mw_499 rfl ⟨rfl, rfl, Nat.le_of_ble_eq_true rfl, Nat.le_of_ble_eq_true rfl⟩ (by decide) cC_28 rfl rfl hl (Nat.le_of_ble_eq_true rfl) rfl rfl dX0_ordersThatPart_27 (fun H locs hW => ?_)
  refine lv_ixor hx hb dX0_ordersThatPart_30 ?_
  refine u_callS (cf' := cC cyI cO ad n d md go ke ha wy ab be sr) (As := [.int ((rcV n d i r) ^^^ (rcV n d j r))]) (rest := []) (st1 := [.int (bctV ((rcV n d i r) ^^^ (rcV n d j r)))]) C hW (c_J6_bitCount_0f7a4 l D cyI cO cyZ ad fa n d md go ke ha wy ab be sr ((rcV n d i r) ^^^ (rcV n d j r)) ) ms_yJ6_bitCount_0f7a4 mw_503 rfl ⟨rfl, rfl, Nat.le_of_ble_eq_true rfl, Nat.le_of_ble_eq_true rfl⟩ hl (Nat.le_of_ble_eq_true rfl) rfl rfl dX0_ordersThatPart_31 (fun H locs hW => ?_)
  refine lv_istore (lv' := [(5, .int (bctV ((rcV n d i r) ^^^ (rcV n d j r)))), (4, .int (bctV ((rcV n d i r) ||| (rcV n d j r)))), (0, .ref (ad 28)), (1, .int (nI i)), (2, .int (nI j)), (3, .int r)]) hx hb dX0_ordersThatPart_34 hl (by decide) rfl (fun ls hl => ?_)
  refine lv_iload hx hb dX0_ordersThatPart_36 (lv_at hl 1 rfl) ?_
  refine lv_if_le (tgt := 54) hx hb dX0_ordersThatPart_38 (by decide) (fun c38_1 => ?_) (fun c38_1 => ?_)
  · skip
    refine lv_iconst (v := 0) hx hb dX0_ordersThatPart_54 (by decide) ?_
    exact u_iret C hr hW dX0_ordersThatPart_55 (by simp only [otV, if_pos c38_1]) rfl
  · skip
    refine lv_aload_n hx hb dX0_ordersThatPart_41 rfl (lv_at hl 2 rfl) ?_
    refine u_callV (cf' := cC cyI cO ad n d md go ke ha wy ab be sr) (As := []) (rest := []) (st1 := [.int (nI (fct n))]) C hW (c_X0_howMany l D cyI cO cyZ ad fa n d md go ke ha wy ab be sr  (by omega)) mv_yX0_howMany mw_510 rfl ⟨rfl, rfl, Nat.le_of_ble_eq_true rfl, Nat.le_of_ble_eq_true rfl⟩ (by decide) cC_28 rfl rfl hl (Nat.le_of_ble_eq_true rfl) rfl rfl dX0_ordersThatPart_42 (fun H locs hW => ?_)
    refine lv_iload hx hb dX0_ordersThatPart_45 (lv_at hl 1 rfl) ?_
    refine lv_idiv hx hb dX0_ordersThatPart_47 (fun h9 => c38_1 (by rw [h9]; decide)) ?_
    refine lv_iload hx hb dX0_ordersThatPart_48 (lv_at hl 0 rfl) ?_
    refine lv_imul hx hb dX0_ordersThatPart_50 ?_
    refine lv_goto (tgt := 55) hx hb dX0_ordersThatPart_51 (by decide) ?_
    exact u_iret C hr hW dX0_ordersThatPart_55 (by simp only [otV, if_neg c38_1]) rfl
set_option maxHeartbeats 4000000 in
set_option maxRecDepth 100000 in
theorem c_X0_undealtAt (l : Launch) (D : va_G) (cyI cO cyZ : ClassId) (ad : Nat → Nat) (fa : Nat) (n : Nat) (d md : Nat → Nat → Int32) (go ke ha : Nat → Int32) (wy : Nat → Nat → Int32) (ab be sr : Int32) (u b : Int32) (hn : n ≤ 6) : Ct l yX0_undealtAt (Cond.code yX0_undealtAt cX0_undealtAt 5 (some .int) :: wsL_law) ({ frames := 0, cells := 0, slots := 0, locals := 0 } : Room) D (ty3 cyI cO cyZ) 29 ad fa [.ref (ad 28), .int u, .int b] (cC cyI cO ad n d md go ke ha wy ab be sr) (cC cyI cO ad n d md go ke ha wy ab be sr) (some (.int (nI (uaN u n 0 b)))) := by
  refine Ct.of (by decide) (Nat.le_of_ble_eq_true rfl) ?_
  intro p e s m args below meth c A C hr H locs hW ls hl
  have C : Cx p s m args meth c cX0_undealtAt 5 RX0 D (ty3 cyI cO cyZ) fa A := C
  have hx := C.1
  have hb := C.2.1
  have hl : lv_has ls 5 [(0, .ref (ad 28)), (1, .int u), (2, .int b)] := hl
  refine lv_iload_n hx hb dX0_undealtAt_0 rfl (lv_at hl 2 rfl) ?_
  refine lv_istore_n (lv' := [(3, .int b), (0, .ref (ad 28)), (1, .int u), (2, .int b)]) hx hb dX0_undealtAt_1 rfl hl (by decide) rfl (fun ls hl => ?_)
  refine lv_iconst (v := 0) hx hb dX0_undealtAt_2 (by decide) ?_
  refine lv_istore (lv' := [(4, .int 0), (3, .int b), (0, .ref (ad 28)), (1, .int u), (2, .int b)]) hx hb dX0_undealtAt_3 hl (by decide) rfl (fun ls hl => ?_)
  have L5 : ∀ (k5 : Nat) (q : Nat) (tp : Int32), q + k5 = n → uaN u k5 q tp = uaN u n 0 b → ∀ (H : Heap) (locs : List Loc), Wd D 29 ad (cC cyI cO ad n d md go ke ha wy ab be sr) A s.heap H locs → ∀ ls : Array Slot, lv_has ls 5 [(4, .int (nI q)), (0, .ref (ad 28)), (1, .int u), (3, .int tp)] → W p l e ({ frames := 0, cells := 0, slots := 0, locals := 0 } : Room) s m args below meth c H locs 0 0 (MQ below (uQ D 29 ad (cC cyI cO ad n d md go ke ha wy ab be sr) (some (.int (nI (uaN u n 0 b)))) A) args s 0 0 A) (F0 m 5 ls []) := by
    intro k5
    induction k5 with
    | zero =>
      intro q tp hq r5 H locs hW ls hl
      refine lv_iload hx hb dX0_undealtAt_5 (lv_at hl 0 rfl) ?_
      refine lv_aload_n hx hb dX0_undealtAt_7 rfl (lv_at hl 1 rfl) ?_
      refine u_get C hW inlX0 (by decide) cC_28 rfl 0 (by decide) mw_57 rfl dX0_undealtAt_8 ?_
      refine u_getN C hW inlX3 (by decide) cC_1 rfl 2 (by decide) (List.mem_of_getElem? (i := 6) rfl) rfl dX0_undealtAt_11 ?_
      refine lv_icmp_ge (tgt := 43) hx hb dX0_undealtAt_14 (by decide) (fun _ => ?_) (fun c9 => absurd (nI_le (by omega) (by omega)) c9)
      refine lv_iconst (v := 0) hx hb dX0_undealtAt_43 (by decide) ?_
      exact u_iret C hr hW dX0_undealtAt_44 (by have h9 := r5; simp only [uaN] at h9; first | (rw [← h9]; done) | (rw [← h9]; exact nI_0.symm)) rfl
    | succ k5 ih5 =>
      intro q tp hq r5 H locs hW ls hl
      refine lv_iload hx hb dX0_undealtAt_5 (lv_at hl 0 rfl) ?_
      refine lv_aload_n hx hb dX0_undealtAt_7 rfl (lv_at hl 1 rfl) ?_
      refine u_get C hW inlX0 (by decide) cC_28 rfl 0 (by decide) mw_57 rfl dX0_undealtAt_8 ?_
      refine u_getN C hW inlX3 (by decide) cC_1 rfl 2 (by decide) (List.mem_of_getElem? (i := 6) rfl) rfl dX0_undealtAt_11 ?_
      refine lv_icmp_ge (tgt := 43) hx hb dX0_undealtAt_14 (by decide) (fun c9 => absurd c9 (nI_ge (by omega) (by omega))) (fun _ => ?_)
      refine lv_iload_n hx hb dX0_undealtAt_17 rfl (lv_at hl 2 rfl) ?_
      refine lv_iload hx hb dX0_undealtAt_18 (lv_at hl 0 rfl) ?_
      refine lv_ishr hx hb dX0_undealtAt_20 ?_
      refine lv_iconst (v := 1) hx hb dX0_undealtAt_21 (by decide) ?_
      refine lv_iand hx hb dX0_undealtAt_22 ?_
      refine lv_iconst (v := 1) hx hb dX0_undealtAt_23 (by decide) ?_
      refine lv_icmp_ne (tgt := 37) hx hb dX0_undealtAt_24 (by decide) (fun c24_1 => ?_) (fun c24_1 => ?_)
      · skip
        refine lv_iinc (v := nI (q + 1)) (lv' := [(4, .int (nI (q + 1))), (0, .ref (ad 28)), (1, .int u), (3, .int tp)]) hx hb dX0_undealtAt_37 hl (k := 0) rfl (nI_1 _) (by decide) rfl (fun ls hl => ?_)
        refine lv_goto (tgt := 5) hx hb dX0_undealtAt_40 (by decide) ?_
        exact ih5  (q + 1) tp (by omega) (by first | exact r5 | (have h9 := r5; simp only [lp_s, lp_0, uaN, if_neg c24_1] at h9; exact h9)) H locs hW ls (lv_sub hl [0, 1, 2, 3] rfl)
      · skip
        refine lv_iload_n hx hb dX0_undealtAt_27 rfl (lv_at hl 3 rfl) ?_
        refine lv_if_ne (tgt := 34) hx hb dX0_undealtAt_28 (by decide) (fun c28_2 => ?_) (fun c28_2 => ?_)
        · skip
          refine lv_iinc (v := tp + -1) (lv' := [(3, .int (tp + -1)), (4, .int (nI q)), (0, .ref (ad 28)), (1, .int u)]) hx hb dX0_undealtAt_34 hl (k := 3) rfl rfl (by decide) rfl (fun ls hl => ?_)
          refine lv_iinc (v := nI (q + 1)) (lv' := [(4, .int (nI (q + 1))), (3, .int (tp + -1)), (0, .ref (ad 28)), (1, .int u)]) hx hb dX0_undealtAt_37 hl (k := 1) rfl (nI_1 _) (by decide) rfl (fun ls hl => ?_)
          refine lv_goto (tgt := 5) hx hb dX0_undealtAt_40 (by decide) ?_
          exact ih5  (q + 1) (tp + -1) (by omega) (by first | exact r5 | (have h9 := r5; simp only [lp_s, lp_0, uaN, if_pos c24_1, if_neg c28_2] at h9; exact h9)) H locs hW ls (lv_sub hl [0, 2, 3, 1] rfl)
        · skip
          refine lv_iload hx hb dX0_undealtAt_31 (lv_at hl 0 rfl) ?_
          exact u_iret C hr hW dX0_undealtAt_33 (by have h9 := r5; simp only [uaN, if_pos c24_1, if_pos c28_2] at h9; first | (rw [← h9]; done) | (rw [← h9]; exact nI_0.symm)) rfl
  exact L5 n 0 b (by omega) rfl H locs hW ls (lv_sub hl [0, 2, 3, 1] rfl)
set_option maxHeartbeats 4000000 in
set_option maxRecDepth 100000 in
theorem c_X0_firstWithin (l : Launch) (D : va_G) (cyI cO cyZ : ClassId) (ad : Nat → Nat) (fa : Nat) (n : Nat) (d md : Nat → Nat → Int32) (go ke ha : Nat → Int32) (wy : Nat → Nat → Int32) (ab be sr : Int32) (i lo : Nat) (r : Int32) (hn : n ≤ 6) (h2 : 2 ≤ n) (hi : i < 6) (hlo : lo < 2 ^ 31) : Ct l yX0_firstWithin (Cond.code yX0_firstWithin cX0_firstWithin 8 (some .int) :: wsL_law) ({ frames := 1, cells := 0, slots := 0, locals := 24 } : Room) D (ty3 cyI cO cyZ) 29 ad fa [.ref (ad 28), .int (nI i), .int (nI lo), .int r] (cC cyI cO ad n d md go ke ha wy ab be sr) (cC cyI cO ad n d md go ke ha wy ab be sr) (some (.int (nI (fwN n d i r n (nI (2 ^ n - 1)) lo)))) := by
  refine Ct.of (by decide) (Nat.le_of_ble_eq_true rfl) ?_
  intro p e s m args below meth c A C hr H locs hW ls hl
  have C : Cx p s m args meth c cX0_firstWithin 8 RX0 D (ty3 cyI cO cyZ) fa A := C
  have hx := C.1
  have hb := C.2.1
  have hl : lv_has ls 8 [(0, .ref (ad 28)), (1, .int (nI i)), (2, .int (nI lo)), (3, .int r)] := hl
  refine lv_iconst (v := 1) hx hb dX0_firstWithin_0 (by decide) ?_
  refine lv_aload_n hx hb dX0_firstWithin_1 rfl (lv_at hl 0 rfl) ?_
  refine u_get C hW inlX0 (by decide) cC_28 rfl 0 (by decide) mw_57 rfl dX0_firstWithin_2 ?_
  refine u_getN C hW inlX3 (by decide) cC_1 rfl 2 (by decide) (List.mem_of_getElem? (i := 6) rfl) rfl dX0_firstWithin_5 ?_
  refine lv_ishl hx hb dX0_firstWithin_8 ?_
  refine u_top (show 1 <<< ((nI n) &&& 31) = nI (2 ^ n) from shl1 hn) ?_
  refine lv_iconst (v := 1) hx hb dX0_firstWithin_9 (by decide) ?_
  refine lv_isub hx hb dX0_firstWithin_10 ?_
  refine u_top (show (nI (2 ^ n)) - 1 = nI (2 ^ n - 1) from pk_sub Nat.one_le_two_pow) ?_
  refine lv_istore (lv' := [(4, .int (nI (2 ^ n - 1))), (0, .ref (ad 28)), (1, .int (nI i)), (2, .int (nI lo)), (3, .int r)]) hx hb dX0_firstWithin_11 hl (by decide) rfl (fun ls hl => ?_)
  refine lv_iload_n hx hb dX0_firstWithin_13 rfl (lv_at hl 3 rfl) ?_
  refine lv_istore (lv' := [(5, .int (nI lo)), (4, .int (nI (2 ^ n - 1))), (0, .ref (ad 28)), (1, .int (nI i)), (2, .int (nI lo)), (3, .int r)]) hx hb dX0_firstWithin_14 hl (by decide) rfl (fun ls hl => ?_)
  refine lv_aload_n hx hb dX0_firstWithin_16 rfl (lv_at hl 2 rfl) ?_
  refine u_get C hW inlX0 (by decide) cC_28 rfl 0 (by decide) mw_57 rfl dX0_firstWithin_17 ?_
  refine u_getN C hW inlX3 (by decide) cC_1 rfl 2 (by decide) (List.mem_of_getElem? (i := 6) rfl) rfl dX0_firstWithin_20 ?_
  refine lv_iconst (v := 1) hx hb dX0_firstWithin_23 (by decide) ?_
  refine lv_isub hx hb dX0_firstWithin_24 ?_
  refine u_top (show (nI n) - 1 = nI n - 1 from rfl) ?_
  refine lv_istore (lv' := [(6, .int (nI n - 1)), (5, .int (nI lo)), (4, .int (nI (2 ^ n - 1))), (0, .ref (ad 28)), (1, .int (nI i)), (2, .int (nI lo)), (3, .int r)]) hx hb dX0_firstWithin_25 hl (by decide) rfl (fun ls hl => ?_)
  have L27 : ∀ (k27 : Nat) (u : Int32) (left : Nat), k27 ≤ n → left < 2 ^ 31 → fwN n d i r k27 u left = fwN n d i r n (nI (2 ^ n - 1)) lo → ∀ (H : Heap) (locs : List Loc), Wd D 29 ad (cC cyI cO ad n d md go ke ha wy ab be sr) A s.heap H locs → ∀ ls : Array Slot, lv_has ls 8 [(0, .ref (ad 28)), (1, .int (nI i)), (3, .int r), (4, .int u), (5, .int (nI left)), (6, .int (nI k27 - 1))] → W p l e ({ frames := 1, cells := 0, slots := 0, locals := 24 } : Room) s m args below meth c H locs 0 0 (MQ below (uQ D 29 ad (cC cyI cO ad n d md go ke ha wy ab be sr) (some (.int (nI (fwN n d i r n (nI (2 ^ n - 1)) lo)))) A) args s 0 0 A) (F0 m 27 ls []) := by
    intro k27
    induction k27 with
    | zero =>
      intro u left hk hL r27 H locs hW ls hl
      refine lv_iload hx hb dX0_firstWithin_27 (lv_at hl 5 rfl) ?_
      refine lv_if_lt (tgt := 96) hx hb dX0_firstWithin_29 (by decide) (fun _ => ?_) (fun c9 => absurd (by decide) c9)
      refine lv_iload_n hx hb dX0_firstWithin_96 rfl (lv_at hl 1 rfl) ?_
      exact u_iret C hr hW dX0_firstWithin_97 (by have h9 := r27; simp only [fwN] at h9; rw [← h9]) rfl
    | succ k27 ih27 =>
      intro u left hk hL r27 H locs hW ls hl
      rw [show nI (k27 + 1) - 1 = nI k27 from nI_pred k27] at hl
      have hfc := fct_in (k := k27) (by omega)
      have hua := uaN_lt u (nI (left / fct k27)) h2
      have hmd : left % fct k27 ≤ left := Nat.mod_le _ _
      refine lv_iload hx hb dX0_firstWithin_27 (lv_at hl 5 rfl) ?_
      refine lv_if_lt (tgt := 96) hx hb dX0_firstWithin_29 (by decide) (fun c9 => absurd c9 (nI_pos (by omega))) (fun _ => ?_)
      refine lv_aload_n hx hb dX0_firstWithin_32 rfl (lv_at hl 0 rfl) ?_
      refine lv_iload hx hb dX0_firstWithin_33 (lv_at hl 3 rfl) ?_
      refine lv_iload hx hb dX0_firstWithin_35 (lv_at hl 4 rfl) ?_
      refine va_getsN hx hb C.2.2.2.2.2.2.2.2.2.1 hW.2.2 C.2.2.2.1 (va_Nw.use rfl (C.2.2.2.2.2.2.1 _ (List.mem_of_getElem? (i := 5) rfl))) (fun _ h => h) dX0_firstWithin_37 ?_
      refine lv_iload hx hb dX0_firstWithin_40 (lv_at hl 5 rfl) ?_
      refine va_ti hx hb C.2.2.2.2.2.2.2.2.2.2 hW.2.2 (vp_in_nI (n := k27) (by omega) (by decide)) (v := .int (nI (fct k27))) (facV_n (by omega)) dX0_firstWithin_42 ?_
      refine lv_idiv hx hb dX0_firstWithin_43 (nI_ne0 (by omega) (by omega)) ?_
      refine u_top (show (nI left) / (nI (fct k27)) = nI (left / fct k27) from pk_div (by omega) (by omega) (by omega)) ?_
      refine u_callV (cf' := cC cyI cO ad n d md go ke ha wy ab be sr) (As := [.int u, .int (nI (left / fct k27))]) (rest := []) (st1 := [.int (nI (uaN u n 0 (nI (left / fct k27))))]) C hW (c_X0_undealtAt l D cyI cO cyZ ad fa n d md go ke ha wy ab be sr u (nI (left / fct k27)) (by omega)) mv_yX0_undealtAt mw_539 rfl ⟨rfl, rfl, Nat.le_of_ble_eq_true rfl, Nat.le_of_ble_eq_true rfl⟩ (by decide) cC_28 rfl rfl hl (Nat.le_of_ble_eq_true rfl) rfl rfl dX0_firstWithin_44 (fun H locs hW => ?_)
      refine lv_istore (lv' := [(7, .int (nI (uaN u n 0 (nI (left / fct k27))))), (0, .ref (ad 28)), (1, .int (nI i)), (3, .int r), (4, .int u), (5, .int (nI left)), (6, .int (nI k27))]) hx hb dX0_firstWithin_47 hl (by decide) rfl (fun ls hl => ?_)
      refine lv_aload_n hx hb dX0_firstWithin_49 rfl (lv_at hl 1 rfl) ?_
      refine u_get C hW inlX0 (by decide) cC_28 rfl 0 (by decide) mw_57 rfl dX0_firstWithin_50 ?_
      refine u_getN C hW inlX3 (by decide) cC_1 rfl 0 (by decide) (List.mem_of_getElem? (i := 7) rfl) rfl dX0_firstWithin_53 ?_
      refine lv_iload_n hx hb dX0_firstWithin_56 rfl (lv_at hl 2 rfl) ?_
      refine u_aald C hW (by decide) cC_2 1 rfl i rfl (by omega) (by decide) (cC_outer (by omega)) dX0_firstWithin_57 ?_
      refine lv_iload hx hb dX0_firstWithin_58 (lv_at hl 0 rfl) ?_
      refine u_iald C hW (by omega) (cC_d (by omega)) 0 rfl (uaN u n 0 (nI (left / fct k27))) rfl (by omega) (by decide) dX0_firstWithin_60 ?_
      refine lv_iload_n hx hb dX0_firstWithin_61 rfl (lv_at hl 3 rfl) ?_
      refine lv_icmp_gt (tgt := 68) hx hb dX0_firstWithin_62 (by decide) (fun c62_1 => ?_) (fun c62_1 => ?_)
      · skip
        refine lv_iload hx hb dX0_firstWithin_68 (lv_at hl 4 rfl) ?_
        refine lv_iconst (v := 1) hx hb dX0_firstWithin_70 (by decide) ?_
        refine lv_iload hx hb dX0_firstWithin_71 (lv_at hl 0 rfl) ?_
        refine lv_ishl hx hb dX0_firstWithin_73 ?_
        refine lv_iconst (v := -1) hx hb dX0_firstWithin_74 (by decide) ?_
        refine lv_ixor hx hb dX0_firstWithin_75 ?_
        refine lv_iand hx hb dX0_firstWithin_76 ?_
        refine u_top (show u &&& ((1 <<< ((nI (uaN u n 0 (nI (left / fct k27)))) &&& 31)) ^^^ (-1)) = clr u (uaN u n 0 (nI (left / fct k27))) from rfl) ?_
        refine lv_istore (lv' := [(4, .int (clr u (uaN u n 0 (nI (left / fct k27))))), (7, .int (nI (uaN u n 0 (nI (left / fct k27))))), (0, .ref (ad 28)), (1, .int (nI i)), (3, .int r), (5, .int (nI left)), (6, .int (nI k27))]) hx hb dX0_firstWithin_77 hl (by decide) rfl (fun ls hl => ?_)
        refine lv_iload hx hb dX0_firstWithin_79 (lv_at hl 5 rfl) ?_
        refine va_getsN hx hb C.2.2.2.2.2.2.2.2.2.1 hW.2.2 C.2.2.2.1 (va_Nw.use rfl (C.2.2.2.2.2.2.1 _ (List.mem_of_getElem? (i := 5) rfl))) (fun _ h => h) dX0_firstWithin_81 ?_
        refine lv_iload hx hb dX0_firstWithin_84 (lv_at hl 6 rfl) ?_
        refine va_ti hx hb C.2.2.2.2.2.2.2.2.2.2 hW.2.2 (vp_in_nI (n := k27) (by omega) (by decide)) (v := .int (nI (fct k27))) (facV_n (by omega)) dX0_firstWithin_86 ?_
        refine lv_irem hx hb dX0_firstWithin_87 (nI_ne0 (by omega) (by omega)) ?_
        refine u_top (show (nI left) - (nI left) / (nI (fct k27)) * (nI (fct k27)) = nI (left % fct k27) from pk_rem (by omega) (by omega) (by omega)) ?_
        refine lv_istore (lv' := [(5, .int (nI (left % fct k27))), (4, .int (clr u (uaN u n 0 (nI (left / fct k27))))), (7, .int (nI (uaN u n 0 (nI (left / fct k27))))), (0, .ref (ad 28)), (1, .int (nI i)), (3, .int r), (6, .int (nI k27))]) hx hb dX0_firstWithin_88 hl (by decide) rfl (fun ls hl => ?_)
        refine lv_iinc (v := nI k27 - 1) (lv' := [(6, .int (nI k27 - 1)), (5, .int (nI (left % fct k27))), (4, .int (clr u (uaN u n 0 (nI (left / fct k27))))), (7, .int (nI (uaN u n 0 (nI (left / fct k27))))), (0, .ref (ad 28)), (1, .int (nI i)), (3, .int r)]) hx hb dX0_firstWithin_90 hl (k := 6) rfl (nI_dn k27) (by decide) rfl (fun ls hl => ?_)
        refine lv_goto (tgt := 27) hx hb dX0_firstWithin_93 (by decide) ?_
        exact ih27  (clr u (uaN u n 0 (nI (left / fct k27)))) (left % fct k27) (by omega) (by omega) (by have h9 := r27; simp only [fwN, if_pos c62_1] at h9; exact h9) H locs hW ls (lv_sub hl [4, 5, 6, 2, 1, 0] rfl)
      · skip
        refine lv_iload hx hb dX0_firstWithin_65 (lv_at hl 0 rfl) ?_
        exact u_iret C hr hW dX0_firstWithin_67 (by have h9 := r27; simp only [fwN, if_neg c62_1] at h9; rw [← h9]) rfl
  exact L27 n (nI (2 ^ n - 1)) lo (by omega) (by omega) rfl H locs hW ls (lv_sub hl [3, 4, 6, 2, 1, 0] rfl)
end
