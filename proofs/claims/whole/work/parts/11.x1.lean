set_option maxHeartbeats 4000000 in
set_option maxRecDepth 100000 in
theorem c_X1_howMany (l : Launch) (D : va_G) (cyI cO cyZ : ClassId) (ad : Nat → Nat) (fa : Nat) (n : Nat) (d md : Nat → Nat → Int32) (go ke ha : Nat → Int32) (wy : Nat → Nat → Int32) (ab be sr : Int32)  (hn : n ≤ 6) (h2 : 2 ≤ n) : Ct l yX1_howMany (Cond.code yX1_howMany cX1_howMany 3 (some .int) :: wsL_law) ({ frames := 0, cells := 0, slots := 0, locals := 0 } : Room) D (ty3 cyI cO cyZ) 29 ad fa [.ref (ad 16)] (cC cyI cO ad n d md go ke ha wy ab be sr) (cC cyI cO ad n d md go ke ha wy ab be sr) (some (.int (nI (cmV n)))) := by
  refine Ct.of (by decide) (Nat.le_of_ble_eq_true rfl) ?_
  intro p e s m args below meth c A C hr H locs hW ls hl
  have C : Cx p s m args meth c cX1_howMany 3 RX1 D (ty3 cyI cO cyZ) fa A := C
  have hx := C.1
  have hb := C.2.1
  have hl : lv_has ls 3 [(0, .ref (ad 16))] := hl
  refine lv_iconst (v := 1) hx hb dX1_howMany_0 (by decide) ?_
  refine lv_istore_n (lv' := [(1, .int 1), (0, .ref (ad 16))]) hx hb dX1_howMany_1 rfl hl (by decide) rfl (fun ls hl => ?_)
  refine lv_iconst (v := 0) hx hb dX1_howMany_2 (by decide) ?_
  refine lv_istore_n (lv' := [(2, .int 0), (1, .int 1), (0, .ref (ad 16))]) hx hb dX1_howMany_3 rfl hl (by decide) rfl (fun ls hl => ?_)
  have L4 : ∀ (k4 : Nat) (q : Nat) (mm : Nat), q + k4 = n - 2 → lp (fun m _ => m * n) q k4 mm = cmV n → ∀ (H : Heap) (locs : List Loc), Wd D 29 ad (cC cyI cO ad n d md go ke ha wy ab be sr) A s.heap H locs → ∀ ls : Array Slot, lv_has ls 3 [(2, .int (nI q)), (0, .ref (ad 16)), (1, .int (nI mm))] → W p l e ({ frames := 0, cells := 0, slots := 0, locals := 0 } : Room) s m args below meth c H locs 0 0 (MQ below (uQ D 29 ad (cC cyI cO ad n d md go ke ha wy ab be sr) (some (.int (nI (cmV n)))) A) args s 0 0 A) (F0 m 4 ls []) := by
    intro k4
    induction k4 with
    | zero =>
      intro q mm hq r4 H locs hW ls hl
      refine lv_iload_n hx hb dX1_howMany_4 rfl (lv_at hl 0 rfl) ?_
      refine lv_aload_n hx hb dX1_howMany_5 rfl (lv_at hl 1 rfl) ?_
      refine u_get C hW inlX1 (by decide) cC_16 rfl 0 (by decide) mw_47 rfl dX1_howMany_6 ?_
      refine u_getN C hW inlX3 (by decide) cC_1 rfl 2 (by decide) (List.mem_of_getElem? (i := 8) rfl) rfl dX1_howMany_9 ?_
      refine lv_iconst (v := 2) hx hb dX1_howMany_12 (by decide) ?_
      refine lv_isub hx hb dX1_howMany_13 ?_
      refine u_top (show (nI n) - 2 = nI (n - 2) from pk_sub (a := n) (b := 2) (by omega)) ?_
      refine lv_icmp_ge (tgt := 33) hx hb dX1_howMany_14 (by decide) (fun _ => ?_) (fun c9 => absurd (nI_le (by omega) (by omega)) c9)
      refine lv_iload_n hx hb dX1_howMany_33 rfl (lv_at hl 2 rfl) ?_
      exact u_iret C hr hW dX1_howMany_34 (by rw [← r4]; rfl) rfl
    | succ k4 ih4 =>
      intro q mm hq r4 H locs hW ls hl
      refine lv_iload_n hx hb dX1_howMany_4 rfl (lv_at hl 0 rfl) ?_
      refine lv_aload_n hx hb dX1_howMany_5 rfl (lv_at hl 1 rfl) ?_
      refine u_get C hW inlX1 (by decide) cC_16 rfl 0 (by decide) mw_47 rfl dX1_howMany_6 ?_
      refine u_getN C hW inlX3 (by decide) cC_1 rfl 2 (by decide) (List.mem_of_getElem? (i := 8) rfl) rfl dX1_howMany_9 ?_
      refine lv_iconst (v := 2) hx hb dX1_howMany_12 (by decide) ?_
      refine lv_isub hx hb dX1_howMany_13 ?_
      refine u_top (show (nI n) - 2 = nI (n - 2) from pk_sub (a := n) (b := 2) (by omega)) ?_
      refine lv_icmp_ge (tgt := 33) hx hb dX1_howMany_14 (by decide) (fun c9 => absurd c9 (nI_ge (by omega) (by omega))) (fun _ => ?_)
      refine lv_iload_n hx hb dX1_howMany_17 rfl (lv_at hl 2 rfl) ?_
      refine lv_aload_n hx hb dX1_howMany_18 rfl (lv_at hl 1 rfl) ?_
      refine u_get C hW inlX1 (by decide) cC_16 rfl 0 (by decide) mw_47 rfl dX1_howMany_19 ?_
      refine u_getN C hW inlX3 (by decide) cC_1 rfl 2 (by decide) (List.mem_of_getElem? (i := 8) rfl) rfl dX1_howMany_22 ?_
      refine lv_imul hx hb dX1_howMany_25 ?_
      refine u_top (show (nI mm) * (nI n) = nI (mm * n) from pk_mul mm n) ?_
      refine lv_istore_n (lv' := [(1, .int (nI (mm * n))), (2, .int (nI q)), (0, .ref (ad 16))]) hx hb dX1_howMany_26 rfl hl (by decide) rfl (fun ls hl => ?_)
      refine lv_iinc (v := nI (q + 1)) (lv' := [(2, .int (nI (q + 1))), (1, .int (nI (mm * n))), (0, .ref (ad 16))]) hx hb dX1_howMany_27 hl (k := 1) rfl (nI_1 _) (by decide) rfl (fun ls hl => ?_)
      refine lv_goto (tgt := 4) hx hb dX1_howMany_30 (by decide) ?_
      exact ih4  (q + 1) (mm * n) (by omega) r4 H locs hW ls (lv_sub hl [0, 2, 1] rfl)
  exact L4 (n - 2) 0 1 (by omega) rfl H locs hW ls (lv_sub hl [0, 2, 1] rfl)
set_option maxHeartbeats 4000000 in
set_option maxRecDepth 100000 in
theorem c_X1_readFigures (l : Launch) (D : va_G) (cyI cO cyZ : ClassId) (ad : Nat → Nat) (fa : Nat) (n : Nat) (d md : Nat → Nat → Int32) (go ke ha : Nat → Int32) (wy : Nat → Nat → Int32) (ab be sr : Int32) (cd : Nat) (hn : n ≤ 6) (h2 : 2 ≤ n) (hcd : cd < 2 ^ 31) : Ct l yX1_readFigures (Cond.code yX1_readFigures cX1_readFigures 5 none :: wsL_law) ({ frames := 1, cells := 0, slots := 0, locals := 23 } : Room) D (ty3 cyI cO cyZ) 29 ad fa [.ref (ad 16), .int (nI cd)] (cC cyI cO ad n d md go ke ha wy ab be sr) (cC cyI cO ad n d md go ((rfV n (n - 2) cd ke (fillA ha 1)).1) ((rfV n (n - 2) cd ke (fillA ha 1)).2) wy ab be sr) (none) := by
  refine Ct.of (by decide) (Nat.le_of_ble_eq_true rfl) ?_
  intro p e s m args below meth c A C hr H locs hW ls hl
  have C : Cx p s m args meth c cX1_readFigures 5 RX1 D (ty3 cyI cO cyZ) fa A := C
  have hx := C.1
  have hb := C.2.1
  have hl : lv_has ls 5 [(0, .ref (ad 16)), (1, .int (nI cd))] := hl
  refine lv_aload_n hx hb dX1_readFigures_0 rfl (lv_at hl 0 rfl) ?_
  refine u_get C hW inlX1 (by decide) cC_16 rfl 3 (by decide) mw_42 rfl dX1_readFigures_1 ?_
  refine lv_iconst (v := 1) hx hb dX1_readFigures_4 (by decide) ?_
  refine u_callS (cf' := cC cyI cO ad n d md go ke (fillA ha 1) wy ab be sr) (As := [.ref (ad 19), .int 1]) (rest := []) (st1 := []) C hW (c_fillA l D cyI cO cyZ ad fa n d md go ke ha wy ab be sr 1 ) ms_yJ7_fill_53178 mw_302 rfl ⟨rfl, rfl, Nat.le_of_ble_eq_true rfl, Nat.le_of_ble_eq_true rfl⟩ hl (Nat.le_of_ble_eq_true rfl) rfl rfl dX1_readFigures_5 (fun H locs hW => ?_)
  refine lv_aload_n hx hb dX1_readFigures_8 rfl (lv_at hl 0 rfl) ?_
  refine u_get C hW inlX1 (by decide) cC_16 rfl 0 (by decide) mw_47 rfl dX1_readFigures_9 ?_
  refine u_getN C hW inlX3 (by decide) cC_1 rfl 2 (by decide) (List.mem_of_getElem? (i := 8) rfl) rfl dX1_readFigures_12 ?_
  refine lv_istore_n (lv' := [(2, .int (nI n)), (0, .ref (ad 16)), (1, .int (nI cd))]) hx hb dX1_readFigures_15 rfl hl (by decide) rfl (fun ls hl => ?_)
  refine lv_iload_n hx hb dX1_readFigures_16 rfl (lv_at hl 2 rfl) ?_
  refine lv_istore_n (lv' := [(3, .int (nI cd)), (2, .int (nI n)), (0, .ref (ad 16)), (1, .int (nI cd))]) hx hb dX1_readFigures_17 rfl hl (by decide) rfl (fun ls hl => ?_)
  refine lv_iload_n hx hb dX1_readFigures_18 rfl (lv_at hl 1 rfl) ?_
  refine lv_iconst (v := 3) hx hb dX1_readFigures_19 (by decide) ?_
  refine lv_isub hx hb dX1_readFigures_20 ?_
  refine u_top (show (nI n) - 3 = nI (n - 2) - 1 from nI_m3 h2) ?_
  refine lv_istore (lv' := [(4, .int (nI (n - 2) - 1)), (3, .int (nI cd)), (2, .int (nI n)), (0, .ref (ad 16)), (1, .int (nI cd))]) hx hb dX1_readFigures_21 hl (by decide) rfl (fun ls hl => ?_)
  have L23 : ∀ (k23 : Nat) (left : Nat) (kk : Nat → Int32) (hh : Nat → Int32), k23 ≤ n - 2 → left < 2 ^ 31 → rfV n k23 left kk hh = rfV n (n - 2) cd ke (fillA ha 1) → ∀ (H : Heap) (locs : List Loc), Wd D 29 ad (cC cyI cO ad n d md go kk hh wy ab be sr) A s.heap H locs → ∀ ls : Array Slot, lv_has ls 5 [(0, .ref (ad 16)), (1, .int (nI cd)), (2, .int (nI n)), (3, .int (nI left)), (4, .int (nI k23 - 1))] → W p l e ({ frames := 1, cells := 0, slots := 0, locals := 23 } : Room) s m args below meth c H locs 0 0 (MQ below (uQ D 29 ad (cC cyI cO ad n d md go ((rfV n (n - 2) cd ke (fillA ha 1)).1) ((rfV n (n - 2) cd ke (fillA ha 1)).2) wy ab be sr) (none) A) args s 0 0 A) (F0 m 23 ls []) := by
    intro k23
    induction k23 with
    | zero =>
      intro left kk hh hk hL r23 H locs hW ls hl
      refine lv_iload hx hb dX1_readFigures_23 (lv_at hl 4 rfl) ?_
      refine lv_if_lt (tgt := 64) hx hb dX1_readFigures_25 (by decide) (fun _ => ?_) (fun c9 => absurd (by decide) c9)
      exact u_vret C hr hW dX1_readFigures_64 (by rw [← r23]; rfl)
    | succ k23 ih23 =>
      intro left kk hh hk hL r23 H locs hW ls hl
      rw [show nI (k23 + 1) - 1 = nI k23 from nI_pred k23] at hl
      have hm : left % n < n := Nat.mod_lt _ (by omega)
      have hdv : left / n ≤ left := Nat.div_le_self _ _
      refine lv_iload hx hb dX1_readFigures_23 (lv_at hl 4 rfl) ?_
      refine lv_if_lt (tgt := 64) hx hb dX1_readFigures_25 (by decide) (fun c9 => absurd c9 (nI_pos (by omega))) (fun _ => ?_)
      refine lv_aload_n hx hb dX1_readFigures_28 rfl (lv_at hl 0 rfl) ?_
      refine u_get C hW inlX1 (by decide) cC_16 rfl 2 (by decide) mw_41 rfl dX1_readFigures_29 ?_
      refine lv_iload hx hb dX1_readFigures_32 (lv_at hl 4 rfl) ?_
      refine lv_iload_n hx hb dX1_readFigures_34 rfl (lv_at hl 3 rfl) ?_
      refine lv_iload_n hx hb dX1_readFigures_35 rfl (lv_at hl 2 rfl) ?_
      refine lv_irem hx hb dX1_readFigures_36 (nI_ne0 (by omega) (by omega)) ?_
      refine u_top (show (nI left) - (nI left) / (nI n) * (nI n) = nI (left % n) from pk_rem (by omega) (by omega) (by omega)) ?_
      refine u_iast (cf' := cC cyI cO ad n d md go (upd kk k23 (nI (left % n))) hh wy ab be sr) C hW (by decide) cC_18 0 rfl k23 rfl (by omega) (by decide) cC_s18 dX1_readFigures_37 (fun H locs hW => ?_)
      refine lv_iload_n hx hb dX1_readFigures_38 rfl (lv_at hl 3 rfl) ?_
      refine lv_iload_n hx hb dX1_readFigures_39 rfl (lv_at hl 2 rfl) ?_
      refine lv_idiv hx hb dX1_readFigures_40 (nI_ne0 (by omega) (by omega)) ?_
      refine u_top (show (nI left) / (nI n) = nI (left / n) from pk_div (by omega) (by omega) (by omega)) ?_
      refine lv_istore_n (lv' := [(3, .int (nI (left / n))), (0, .ref (ad 16)), (1, .int (nI cd)), (2, .int (nI n)), (4, .int (nI k23))]) hx hb dX1_readFigures_41 rfl hl (by decide) rfl (fun ls hl => ?_)
      refine lv_aload_n hx hb dX1_readFigures_42 rfl (lv_at hl 1 rfl) ?_
      refine u_get C hW inlX1 (by decide) cC_16 rfl 3 (by decide) mw_42 rfl dX1_readFigures_43 ?_
      refine lv_aload_n hx hb dX1_readFigures_46 rfl (lv_at hl 1 rfl) ?_
      refine u_get C hW inlX1 (by decide) cC_16 rfl 2 (by decide) mw_41 rfl dX1_readFigures_47 ?_
      refine lv_iload hx hb dX1_readFigures_50 (lv_at hl 4 rfl) ?_
      refine u_iald C hW (by decide) cC_18 0 rfl k23 rfl (by omega) (by decide) dX1_readFigures_52 ?_
      refine u_top (show upd kk k23 (nI (left % n)) k23 = nI (left % n) from pk_us) ?_
      refine lv_dup2_11 hx hb dX1_readFigures_53 rfl rfl ?_
      refine u_iald C hW (by decide) cC_19 0 rfl (left % n) rfl (by omega) (by decide) dX1_readFigures_54 ?_
      refine lv_iconst (v := 1) hx hb dX1_readFigures_55 (by decide) ?_
      refine lv_iadd hx hb dX1_readFigures_56 ?_
      refine u_iast (cf' := cC cyI cO ad n d md go (upd kk k23 (nI (left % n))) (upd hh (left % n) ((hh (left % n)) + 1)) wy ab be sr) C hW (by decide) cC_19 0 rfl (left % n) rfl (by omega) (by decide) cC_s19 dX1_readFigures_57 (fun H locs hW => ?_)
      refine lv_iinc (v := nI k23 - 1) (lv' := [(4, .int (nI k23 - 1)), (3, .int (nI (left / n))), (0, .ref (ad 16)), (1, .int (nI cd)), (2, .int (nI n))]) hx hb dX1_readFigures_58 hl (k := 4) rfl (nI_dn k23) (by decide) rfl (fun ls hl => ?_)
      refine lv_goto (tgt := 23) hx hb dX1_readFigures_61 (by decide) ?_
      exact ih23  (left / n) (upd kk k23 (nI (left % n))) (upd hh (left % n) ((hh (left % n)) + 1)) (by omega) (by omega) r23 H locs hW ls (lv_sub hl [2, 3, 4, 1, 0] rfl)
  exact L23 (n - 2) cd ke (fillA ha 1) (by omega) (by omega) rfl H locs hW ls (lv_sub hl [3, 4, 2, 1, 0] rfl)
set_option maxHeartbeats 4000000 in
set_option maxRecDepth 100000 in
theorem c_X1_takeLeast (l : Launch) (D : va_G) (cyI cO cyZ : ClassId) (ad : Nat → Nat) (fa : Nat) (n : Nat) (d md : Nat → Nat → Int32) (go ke ha : Nat → Int32) (wy : Nat → Nat → Int32) (ab be sr : Int32)  (hn : n ≤ 6) (h2 : 2 ≤ n) : Ct l yX1_takeLeast (Cond.code yX1_takeLeast cX1_takeLeast 2 (some .int) :: wsL_law) ({ frames := 0, cells := 0, slots := 0, locals := 0 } : Room) D (ty3 cyI cO cyZ) 29 ad fa [.ref (ad 16)] (cC cyI cO ad n d md go ke ha wy ab be sr) (cC cyI cO ad n d md go ke (upd ha (tlV n ha) 0) wy ab be sr) (some (.int (nI (tlV n ha)))) := by
  refine Ct.of (by decide) (Nat.le_of_ble_eq_true rfl) ?_
  intro p e s m args below meth c A C hr H locs hW ls hl
  have C : Cx p s m args meth c cX1_takeLeast 2 RX1 D (ty3 cyI cO cyZ) fa A := C
  have hx := C.1
  have hb := C.2.1
  have hl : lv_has ls 2 [(0, .ref (ad 16))] := hl
  refine lv_iconst (v := 0) hx hb dX1_takeLeast_0 (by decide) ?_
  refine lv_istore_n (lv' := [(1, .int 0), (0, .ref (ad 16))]) hx hb dX1_takeLeast_1 rfl hl (by decide) rfl (fun ls hl => ?_)
  have L2 : ∀ (k2 : Nat) (q : Nat), q + k2 = n - 1 → tlF ha k2 q = tlV n ha → ∀ (H : Heap) (locs : List Loc), Wd D 29 ad (cC cyI cO ad n d md go ke ha wy ab be sr) A s.heap H locs → ∀ ls : Array Slot, lv_has ls 2 [(1, .int (nI q)), (0, .ref (ad 16))] → W p l e ({ frames := 0, cells := 0, slots := 0, locals := 0 } : Room) s m args below meth c H locs 0 0 (MQ below (uQ D 29 ad (cC cyI cO ad n d md go ke (upd ha (tlV n ha) 0) wy ab be sr) (some (.int (nI (tlV n ha)))) A) args s 0 0 A) (F0 m 2 ls []) := by
    intro k2
    induction k2 with
    | zero =>
      intro q hq r2 H locs hW ls hl
      refine lv_iload_n hx hb dX1_takeLeast_2 rfl (lv_at hl 0 rfl) ?_
      refine lv_aload_n hx hb dX1_takeLeast_3 rfl (lv_at hl 1 rfl) ?_
      refine u_get C hW inlX1 (by decide) cC_16 rfl 0 (by decide) mw_47 rfl dX1_takeLeast_4 ?_
      refine u_getN C hW inlX3 (by decide) cC_1 rfl 2 (by decide) (List.mem_of_getElem? (i := 8) rfl) rfl dX1_takeLeast_7 ?_
      refine lv_iconst (v := 1) hx hb dX1_takeLeast_10 (by decide) ?_
      refine lv_isub hx hb dX1_takeLeast_11 ?_
      refine u_top (show (nI n) - 1 = nI (n - 1) from pk_sub (a := n) (b := 1) (by omega)) ?_
      refine lv_icmp_ge (tgt := 31) hx hb dX1_takeLeast_12 (by decide) (fun _ => ?_) (fun c9 => absurd (nI_le (by omega) (by omega)) c9)
      refine lv_aload_n hx hb dX1_takeLeast_31 rfl (lv_at hl 1 rfl) ?_
      refine u_get C hW inlX1 (by decide) cC_16 rfl 3 (by decide) mw_42 rfl dX1_takeLeast_32 ?_
      refine lv_iload_n hx hb dX1_takeLeast_35 rfl (lv_at hl 0 rfl) ?_
      refine lv_iconst (v := 0) hx hb dX1_takeLeast_36 (by decide) ?_
      refine u_iast (cf' := cC cyI cO ad n d md go ke (upd ha q 0) wy ab be sr) C hW (by decide) cC_19 0 rfl q rfl (by omega) (by decide) cC_s19 dX1_takeLeast_37 (fun H locs hW => ?_)
      refine lv_iload_n hx hb dX1_takeLeast_38 rfl (lv_at hl 0 rfl) ?_
      exact u_iret C hr hW dX1_takeLeast_39 (by have h9 := r2; simp only [tlF] at h9; rw [← h9]) (by have h9 := r2; simp only [tlF] at h9; rw [← h9])
    | succ k2 ih2 =>
      intro q hq r2 H locs hW ls hl
      refine lv_iload_n hx hb dX1_takeLeast_2 rfl (lv_at hl 0 rfl) ?_
      refine lv_aload_n hx hb dX1_takeLeast_3 rfl (lv_at hl 1 rfl) ?_
      refine u_get C hW inlX1 (by decide) cC_16 rfl 0 (by decide) mw_47 rfl dX1_takeLeast_4 ?_
      refine u_getN C hW inlX3 (by decide) cC_1 rfl 2 (by decide) (List.mem_of_getElem? (i := 8) rfl) rfl dX1_takeLeast_7 ?_
      refine lv_iconst (v := 1) hx hb dX1_takeLeast_10 (by decide) ?_
      refine lv_isub hx hb dX1_takeLeast_11 ?_
      refine u_top (show (nI n) - 1 = nI (n - 1) from pk_sub (a := n) (b := 1) (by omega)) ?_
      refine lv_icmp_ge (tgt := 31) hx hb dX1_takeLeast_12 (by decide) (fun c9 => absurd c9 (nI_ge (by omega) (by omega))) (fun _ => ?_)
      refine lv_aload_n hx hb dX1_takeLeast_15 rfl (lv_at hl 1 rfl) ?_
      refine u_get C hW inlX1 (by decide) cC_16 rfl 3 (by decide) mw_42 rfl dX1_takeLeast_16 ?_
      refine lv_iload_n hx hb dX1_takeLeast_19 rfl (lv_at hl 0 rfl) ?_
      refine u_iald C hW (by decide) cC_19 0 rfl q rfl (by omega) (by decide) dX1_takeLeast_20 ?_
      refine lv_iconst (v := 1) hx hb dX1_takeLeast_21 (by decide) ?_
      refine lv_icmp_eq (tgt := 31) hx hb dX1_takeLeast_22 (by decide) (fun c22_1 => ?_) (fun c22_1 => ?_)
      · skip
        refine lv_aload_n hx hb dX1_takeLeast_31 rfl (lv_at hl 1 rfl) ?_
        refine u_get C hW inlX1 (by decide) cC_16 rfl 3 (by decide) mw_42 rfl dX1_takeLeast_32 ?_
        refine lv_iload_n hx hb dX1_takeLeast_35 rfl (lv_at hl 0 rfl) ?_
        refine lv_iconst (v := 0) hx hb dX1_takeLeast_36 (by decide) ?_
        refine u_iast (cf' := cC cyI cO ad n d md go ke (upd ha q 0) wy ab be sr) C hW (by decide) cC_19 0 rfl q rfl (by omega) (by decide) cC_s19 dX1_takeLeast_37 (fun H locs hW => ?_)
        refine lv_iload_n hx hb dX1_takeLeast_38 rfl (lv_at hl 0 rfl) ?_
        exact u_iret C hr hW dX1_takeLeast_39 (by have h9 := r2; simp only [tlF, if_pos c22_1] at h9; rw [← h9]) (by have h9 := r2; simp only [tlF, if_pos c22_1] at h9; rw [← h9])
      · skip
        refine lv_iinc (v := nI (q + 1)) (lv' := [(1, .int (nI (q + 1))), (0, .ref (ad 16))]) hx hb dX1_takeLeast_25 hl (k := 0) rfl (nI_1 _) (by decide) rfl (fun ls hl => ?_)
        refine lv_goto (tgt := 2) hx hb dX1_takeLeast_28 (by decide) ?_
        exact ih2  (q + 1) (by omega) (by have h9 := r2; simp only [lp_s, lp_0, tlF, if_neg c22_1] at h9; exact h9) H locs hW ls (lv_sub hl [0, 1] rfl)
  exact L2 (n - 1) 0 (by omega) rfl H locs hW ls (lv_sub hl [0, 1] rfl)
set_option maxHeartbeats 4000000 in
set_option maxRecDepth 100000 in
theorem c_X1_read (l : Launch) (D : va_G) (cyI cO cyZ : ClassId) (ad : Nat → Nat) (fa : Nat) (n : Nat) (d md : Nat → Nat → Int32) (go ke ha : Nat → Int32) (wy : Nat → Nat → Int32) (ab be sr : Int32) (cd : Nat) (hn : n ≤ 6) (h2 : 2 ≤ n) (hcd : cd < 2 ^ 31) : Ct l yX1_read (Cond.code yX1_read cX1_read 4 none :: wsL_law) ({ frames := 2, cells := 0, slots := 0, locals := 47 } : Room) D (ty3 cyI cO cyZ) 29 ad fa [.ref (ad 16), .int (nI cd)] (cC cyI cO ad n d md go ke ha wy ab be sr) (cC cyI cO ad n d md (rdG n cd go ke ha) (rdK n cd ke ha) (rdH n cd ke ha) wy ab be sr) (none) := by
  refine Ct.of (by decide) (Nat.le_of_ble_eq_true rfl) ?_
  intro p e s m args below meth c A C hr H locs hW ls hl
  have C : Cx p s m args meth c cX1_read 4 RX1 D (ty3 cyI cO cyZ) fa A := C
  have hx := C.1
  have hb := C.2.1
  have hl : lv_has ls 4 [(0, .ref (ad 16)), (1, .int (nI cd))] := hl
  refine lv_aload_n hx hb dX1_read_0 rfl (lv_at hl 0 rfl) ?_
  refine u_get C hW inlX1 (by decide) cC_16 rfl 0 (by decide) mw_47 rfl dX1_read_1 ?_
  refine u_getN C hW inlX3 (by decide) cC_1 rfl 2 (by decide) (List.mem_of_getElem? (i := 8) rfl) rfl dX1_read_4 ?_
  refine lv_iconst (v := 2) hx hb dX1_read_7 (by decide) ?_
  refine lv_isub hx hb dX1_read_8 ?_
  refine u_top (show (nI n) - 2 = nI (n - 2) from pk_sub (a := n) (b := 2) (by omega)) ?_
  refine lv_istore_n (lv' := [(2, .int (nI (n - 2))), (0, .ref (ad 16)), (1, .int (nI cd))]) hx hb dX1_read_9 rfl hl (by decide) rfl (fun ls hl => ?_)
  refine lv_aload_n hx hb dX1_read_10 rfl (lv_at hl 1 rfl) ?_
  refine lv_iload_n hx hb dX1_read_11 rfl (lv_at hl 2 rfl) ?_
  refine u_callV (cf' := cC cyI cO ad n d md go ((rfV n (n - 2) cd ke (fillA ha 1)).1) ((rfV n (n - 2) cd ke (fillA ha 1)).2) wy ab be sr) (As := [.int (nI cd)]) (rest := []) (st1 := []) C hW (c_X1_readFigures l D cyI cO cyZ ad fa n d md go ke ha wy ab be sr cd (by omega) (by omega) (by omega)) mv_yX1_readFigures mw_298 rfl ⟨rfl, rfl, Nat.le_of_ble_eq_true rfl, Nat.le_of_ble_eq_true rfl⟩ (by decide) cC_16 rfl rfl hl (Nat.le_of_ble_eq_true rfl) rfl rfl dX1_read_12 (fun H locs hW => ?_)
  refine lv_iconst (v := 0) hx hb dX1_read_15 (by decide) ?_
  refine lv_istore_n (lv' := [(3, .int 0), (2, .int (nI (n - 2))), (0, .ref (ad 16)), (1, .int (nI cd))]) hx hb dX1_read_16 rfl hl (by decide) rfl (fun ls hl => ?_)
  have L17 : ∀ (k17 : Nat) (q : Nat), q + k17 = n - 2 → ∀ (H : Heap) (locs : List Loc), Wd D 29 ad (cC cyI cO ad n d md (goW n (figV n cd) (h0V n cd ke ha) go q) ((rfV n (n - 2) cd ke (fillA ha 1)).1) (hqV n (figV n cd) (h0V n cd ke ha) q) wy ab be sr) A s.heap H locs → ∀ ls : Array Slot, lv_has ls 4 [(3, .int (nI q)), (0, .ref (ad 16)), (2, .int (nI (n - 2)))] → W p l e ({ frames := 2, cells := 0, slots := 0, locals := 47 } : Room) s m args below meth c H locs 0 0 (MQ below (uQ D 29 ad (cC cyI cO ad n d md (rdG n cd go ke ha) (rdK n cd ke ha) (rdH n cd ke ha) wy ab be sr) (none) A) args s 0 0 A) (F0 m 17 ls []) := by
    intro k17
    induction k17 with
    | zero =>
      intro q hq H locs hW ls hl
      obtain rfl : q = n - 2 := by omega
      have ht1 := tlV_lt (hqV n (figV n cd) (h0V n cd ke ha) (n - 2)) h2
      refine lv_iload_n hx hb dX1_read_17 rfl (lv_at hl 0 rfl) ?_
      refine lv_iload_n hx hb dX1_read_18 rfl (lv_at hl 2 rfl) ?_
      refine lv_icmp_ge (tgt := 53) hx hb dX1_read_19 (by decide) (fun _ => ?_) (fun c9 => absurd (nI_le (by omega) (by omega)) c9)
      refine lv_aload_n hx hb dX1_read_53 rfl (lv_at hl 1 rfl) ?_
      refine u_get C hW inlX1 (by decide) cC_16 rfl 1 (by decide) mw_40 rfl dX1_read_54 ?_
      refine lv_iload_n hx hb dX1_read_57 rfl (lv_at hl 2 rfl) ?_
      refine lv_aload_n hx hb dX1_read_58 rfl (lv_at hl 1 rfl) ?_
      refine u_callV (cf' := cC cyI cO ad n d md (goW n (figV n cd) (h0V n cd ke ha) go (n - 2)) ((rfV n (n - 2) cd ke (fillA ha 1)).1) (upd (hqV n (figV n cd) (h0V n cd ke ha) (n - 2)) (tlV n (hqV n (figV n cd) (h0V n cd ke ha) (n - 2))) 0) wy ab be sr) (As := []) (rest := [.int (nI (n - 2)), .ref (ad 17)]) (st1 := [.int (nI (tlV n (hqV n (figV n cd) (h0V n cd ke ha) (n - 2)))), .int (nI (n - 2)), .ref (ad 17)]) C hW (c_X1_takeLeast l D cyI cO cyZ ad fa n d md (goW n (figV n cd) (h0V n cd ke ha) go (n - 2)) ((rfV n (n - 2) cd ke (fillA ha 1)).1) (hqV n (figV n cd) (h0V n cd ke ha) (n - 2)) wy ab be sr  (by omega) (by omega)) mv_yX1_takeLeast mw_303 rfl ⟨rfl, rfl, Nat.le_of_ble_eq_true rfl, Nat.le_of_ble_eq_true rfl⟩ (by decide) cC_16 rfl rfl hl (Nat.le_of_ble_eq_true rfl) rfl rfl dX1_read_59 (fun H locs hW => ?_)
      refine u_iast (cf' := cC cyI cO ad n d md (upd (goW n (figV n cd) (h0V n cd ke ha) go (n - 2)) (n - 2) (nI (tlV n (hqV n (figV n cd) (h0V n cd ke ha) (n - 2))))) ((rfV n (n - 2) cd ke (fillA ha 1)).1) (upd (hqV n (figV n cd) (h0V n cd ke ha) (n - 2)) (tlV n (hqV n (figV n cd) (h0V n cd ke ha) (n - 2))) 0) wy ab be sr) C hW (by decide) cC_17 0 rfl (n - 2) rfl (by omega) (by decide) cC_s17 dX1_read_62 (fun H locs hW => ?_)
      refine lv_aload_n hx hb dX1_read_63 rfl (lv_at hl 1 rfl) ?_
      refine u_get C hW inlX1 (by decide) cC_16 rfl 2 (by decide) mw_41 rfl dX1_read_64 ?_
      refine lv_iload_n hx hb dX1_read_67 rfl (lv_at hl 2 rfl) ?_
      refine lv_aload_n hx hb dX1_read_68 rfl (lv_at hl 1 rfl) ?_
      refine u_callV (cf' := cC cyI cO ad n d md (upd (goW n (figV n cd) (h0V n cd ke ha) go (n - 2)) (n - 2) (nI (tlV n (hqV n (figV n cd) (h0V n cd ke ha) (n - 2))))) ((rfV n (n - 2) cd ke (fillA ha 1)).1) (upd (upd (hqV n (figV n cd) (h0V n cd ke ha) (n - 2)) (tlV n (hqV n (figV n cd) (h0V n cd ke ha) (n - 2))) 0) (tlV n (upd (hqV n (figV n cd) (h0V n cd ke ha) (n - 2)) (tlV n (hqV n (figV n cd) (h0V n cd ke ha) (n - 2))) 0)) 0) wy ab be sr) (As := []) (rest := [.int (nI (n - 2)), .ref (ad 18)]) (st1 := [.int (nI (tlV n (upd (hqV n (figV n cd) (h0V n cd ke ha) (n - 2)) (tlV n (hqV n (figV n cd) (h0V n cd ke ha) (n - 2))) 0))), .int (nI (n - 2)), .ref (ad 18)]) C hW (c_X1_takeLeast l D cyI cO cyZ ad fa n d md (upd (goW n (figV n cd) (h0V n cd ke ha) go (n - 2)) (n - 2) (nI (tlV n (hqV n (figV n cd) (h0V n cd ke ha) (n - 2))))) ((rfV n (n - 2) cd ke (fillA ha 1)).1) (upd (hqV n (figV n cd) (h0V n cd ke ha) (n - 2)) (tlV n (hqV n (figV n cd) (h0V n cd ke ha) (n - 2))) 0) wy ab be sr  (by omega) (by omega)) mv_yX1_takeLeast mw_303 rfl ⟨rfl, rfl, Nat.le_of_ble_eq_true rfl, Nat.le_of_ble_eq_true rfl⟩ (by decide) cC_16 rfl rfl hl (Nat.le_of_ble_eq_true rfl) rfl rfl dX1_read_69 (fun H locs hW => ?_)
      refine u_iast (cf' := cC cyI cO ad n d md (upd (goW n (figV n cd) (h0V n cd ke ha) go (n - 2)) (n - 2) (nI (tlV n (hqV n (figV n cd) (h0V n cd ke ha) (n - 2))))) (upd ((rfV n (n - 2) cd ke (fillA ha 1)).1) (n - 2) (nI (tlV n (upd (hqV n (figV n cd) (h0V n cd ke ha) (n - 2)) (tlV n (hqV n (figV n cd) (h0V n cd ke ha) (n - 2))) 0)))) (upd (upd (hqV n (figV n cd) (h0V n cd ke ha) (n - 2)) (tlV n (hqV n (figV n cd) (h0V n cd ke ha) (n - 2))) 0) (tlV n (upd (hqV n (figV n cd) (h0V n cd ke ha) (n - 2)) (tlV n (hqV n (figV n cd) (h0V n cd ke ha) (n - 2))) 0)) 0) wy ab be sr) C hW (by decide) cC_18 0 rfl (n - 2) rfl (by omega) (by decide) cC_s18 dX1_read_72 (fun H locs hW => ?_)
      exact u_vret C hr hW dX1_read_73 rfl
    | succ k17 ih17 =>
      intro q hq H locs hW ls hl
      have hf := figV_lt cd q h2
      refine lv_iload_n hx hb dX1_read_17 rfl (lv_at hl 0 rfl) ?_
      refine lv_iload_n hx hb dX1_read_18 rfl (lv_at hl 2 rfl) ?_
      refine lv_icmp_ge (tgt := 53) hx hb dX1_read_19 (by decide) (fun c9 => absurd c9 (nI_ge (by omega) (by omega))) (fun _ => ?_)
      refine lv_aload_n hx hb dX1_read_22 rfl (lv_at hl 1 rfl) ?_
      refine u_get C hW inlX1 (by decide) cC_16 rfl 1 (by decide) mw_40 rfl dX1_read_23 ?_
      refine lv_iload_n hx hb dX1_read_26 rfl (lv_at hl 0 rfl) ?_
      refine lv_aload_n hx hb dX1_read_27 rfl (lv_at hl 1 rfl) ?_
      refine u_callV (cf' := cC cyI cO ad n d md (goW n (figV n cd) (h0V n cd ke ha) go q) ((rfV n (n - 2) cd ke (fillA ha 1)).1) (upd (hqV n (figV n cd) (h0V n cd ke ha) q) (tlV n (hqV n (figV n cd) (h0V n cd ke ha) q)) 0) wy ab be sr) (As := []) (rest := [.int (nI q), .ref (ad 17)]) (st1 := [.int (nI (tlV n (hqV n (figV n cd) (h0V n cd ke ha) q))), .int (nI q), .ref (ad 17)]) C hW (c_X1_takeLeast l D cyI cO cyZ ad fa n d md (goW n (figV n cd) (h0V n cd ke ha) go q) ((rfV n (n - 2) cd ke (fillA ha 1)).1) (hqV n (figV n cd) (h0V n cd ke ha) q) wy ab be sr  (by omega) (by omega)) mv_yX1_takeLeast mw_303 rfl ⟨rfl, rfl, Nat.le_of_ble_eq_true rfl, Nat.le_of_ble_eq_true rfl⟩ (by decide) cC_16 rfl rfl hl (Nat.le_of_ble_eq_true rfl) rfl rfl dX1_read_28 (fun H locs hW => ?_)
      refine u_iast (cf' := cC cyI cO ad n d md (upd (goW n (figV n cd) (h0V n cd ke ha) go q) q (nI (tlV n (hqV n (figV n cd) (h0V n cd ke ha) q)))) ((rfV n (n - 2) cd ke (fillA ha 1)).1) (upd (hqV n (figV n cd) (h0V n cd ke ha) q) (tlV n (hqV n (figV n cd) (h0V n cd ke ha) q)) 0) wy ab be sr) C hW (by decide) cC_17 0 rfl q rfl (by omega) (by decide) cC_s17 dX1_read_31 (fun H locs hW => ?_)
      refine lv_aload_n hx hb dX1_read_32 rfl (lv_at hl 1 rfl) ?_
      refine u_get C hW inlX1 (by decide) cC_16 rfl 3 (by decide) mw_42 rfl dX1_read_33 ?_
      refine lv_aload_n hx hb dX1_read_36 rfl (lv_at hl 1 rfl) ?_
      refine u_get C hW inlX1 (by decide) cC_16 rfl 2 (by decide) mw_41 rfl dX1_read_37 ?_
      refine lv_iload_n hx hb dX1_read_40 rfl (lv_at hl 0 rfl) ?_
      refine u_iald C hW (by decide) cC_18 0 rfl q rfl (by omega) (by decide) dX1_read_41 ?_
      refine u_top (show (rfV n (n - 2) cd ke (fillA ha 1)).1 q = nI (figV n cd q) from rfV_fig (by omega)) ?_
      refine lv_dup2_11 hx hb dX1_read_42 rfl rfl ?_
      refine u_iald C hW (by decide) cC_19 0 rfl (figV n cd q) rfl (by omega) (by decide) dX1_read_43 ?_
      refine lv_iconst (v := 1) hx hb dX1_read_44 (by decide) ?_
      refine lv_isub hx hb dX1_read_45 ?_
      refine u_iast (cf' := cC cyI cO ad n d md (upd (goW n (figV n cd) (h0V n cd ke ha) go q) q (nI (tlV n (hqV n (figV n cd) (h0V n cd ke ha) q)))) ((rfV n (n - 2) cd ke (fillA ha 1)).1) (upd (upd (hqV n (figV n cd) (h0V n cd ke ha) q) (tlV n (hqV n (figV n cd) (h0V n cd ke ha) q)) 0) (figV n cd q) ((upd (hqV n (figV n cd) (h0V n cd ke ha) q) (tlV n (hqV n (figV n cd) (h0V n cd ke ha) q)) 0 (figV n cd q)) - 1)) wy ab be sr) C hW (by decide) cC_19 0 rfl (figV n cd q) rfl (by omega) (by decide) cC_s19 dX1_read_46 (fun H locs hW => ?_)
      refine lv_iinc (v := nI (q + 1)) (lv' := [(3, .int (nI (q + 1))), (0, .ref (ad 16)), (2, .int (nI (n - 2)))]) hx hb dX1_read_47 hl (k := 0) rfl (nI_1 _) (by decide) rfl (fun ls hl => ?_)
      refine lv_goto (tgt := 17) hx hb dX1_read_50 (by decide) ?_
      exact ih17  (q + 1) (by omega) H locs hW ls (lv_sub hl [0, 1, 2] rfl)
  exact L17 (n - 2) 0 (by omega) H locs hW ls (lv_sub hl [0, 2, 1] rfl)
set_option maxHeartbeats 4000000 in
set_option maxRecDepth 100000 in
theorem c_X1_joins (l : Launch) (D : va_G) (cyI cO cyZ : ClassId) (ad : Nat → Nat) (fa : Nat) (n : Nat) (d md : Nat → Nat → Int32) (go ke ha : Nat → Int32) (wy : Nat → Nat → Int32) (ab be sr : Int32) (x y : Int32) (hn : n ≤ 6) (h2 : 2 ≤ n) : Ct l yX1_joins (Cond.code yX1_joins cX1_joins 5 (some .boolean) :: wsL_law) ({ frames := 0, cells := 0, slots := 0, locals := 0 } : Room) D (ty3 cyI cO cyZ) 29 ad fa [.ref (ad 16), .int x, .int y] (cC cyI cO ad n d md go ke ha wy ab be sr) (cC cyI cO ad n d md go ke ha wy ab be sr) (some (.int (jnV n go ke x y))) := by
  refine Ct.of (by decide) (Nat.le_of_ble_eq_true rfl) ?_
  intro p e s m args below meth c A C hr H locs hW ls hl
  have C : Cx p s m args meth c cX1_joins 5 RX1 D (ty3 cyI cO cyZ) fa A := C
  have hx := C.1
  have hb := C.2.1
  have hl : lv_has ls 5 [(0, .ref (ad 16)), (1, .int x), (2, .int y)] := hl
  refine lv_iconst (v := 0) hx hb dX1_joins_0 (by decide) ?_
  refine lv_istore_n (lv' := [(3, .int 0), (0, .ref (ad 16)), (1, .int x), (2, .int y)]) hx hb dX1_joins_1 rfl hl (by decide) rfl (fun ls hl => ?_)
  refine lv_iconst (v := 0) hx hb dX1_joins_2 (by decide) ?_
  refine lv_istore (lv' := [(4, .int 0), (3, .int 0), (0, .ref (ad 16)), (1, .int x), (2, .int y)]) hx hb dX1_joins_3 hl (by decide) rfl (fun ls hl => ?_)
  have L5 : ∀ (k5 : Nat) (q : Nat) (b : Int32), q + k5 = n - 1 → lp (jnF go ke x y) q k5 b = jnV n go ke x y → b = 0 ∨ b = 1 → ∀ (H : Heap) (locs : List Loc), Wd D 29 ad (cC cyI cO ad n d md go ke ha wy ab be sr) A s.heap H locs → ∀ ls : Array Slot, lv_has ls 5 [(4, .int (nI q)), (0, .ref (ad 16)), (1, .int x), (2, .int y), (3, .int b)] → W p l e ({ frames := 0, cells := 0, slots := 0, locals := 0 } : Room) s m args below meth c H locs 0 0 (MQ below (uQ D 29 ad (cC cyI cO ad n d md go ke ha wy ab be sr) (some (.int (jnV n go ke x y))) A) args s 0 0 A) (F0 m 5 ls []) := by
    intro k5
    induction k5 with
    | zero =>
      intro q b hq r5 hb9 H locs hW ls hl
      refine lv_iload hx hb dX1_joins_5 (lv_at hl 0 rfl) ?_
      refine lv_aload_n hx hb dX1_joins_7 rfl (lv_at hl 1 rfl) ?_
      refine u_get C hW inlX1 (by decide) cC_16 rfl 0 (by decide) mw_47 rfl dX1_joins_8 ?_
      refine u_getN C hW inlX3 (by decide) cC_1 rfl 2 (by decide) (List.mem_of_getElem? (i := 8) rfl) rfl dX1_joins_11 ?_
      refine lv_iconst (v := 1) hx hb dX1_joins_14 (by decide) ?_
      refine lv_isub hx hb dX1_joins_15 ?_
      refine u_top (show (nI n) - 1 = nI (n - 1) from pk_sub (a := n) (b := 1) (by omega)) ?_
      refine lv_icmp_ge (tgt := 79) hx hb dX1_joins_16 (by decide) (fun _ => ?_) (fun c9 => absurd (nI_le (by omega) (by omega)) c9)
      refine lv_iload_n hx hb dX1_joins_79 rfl (lv_at hl 4 rfl) ?_
      exact u_zret C hr hW dX1_joins_80 hb9 r5 rfl
    | succ k5 ih5 =>
      intro q b hq r5 hb9 H locs hW ls hl
      refine lv_iload hx hb dX1_joins_5 (lv_at hl 0 rfl) ?_
      refine lv_aload_n hx hb dX1_joins_7 rfl (lv_at hl 1 rfl) ?_
      refine u_get C hW inlX1 (by decide) cC_16 rfl 0 (by decide) mw_47 rfl dX1_joins_8 ?_
      refine u_getN C hW inlX3 (by decide) cC_1 rfl 2 (by decide) (List.mem_of_getElem? (i := 8) rfl) rfl dX1_joins_11 ?_
      refine lv_iconst (v := 1) hx hb dX1_joins_14 (by decide) ?_
      refine lv_isub hx hb dX1_joins_15 ?_
      refine u_top (show (nI n) - 1 = nI (n - 1) from pk_sub (a := n) (b := 1) (by omega)) ?_
      refine lv_icmp_ge (tgt := 79) hx hb dX1_joins_16 (by decide) (fun c9 => absurd c9 (nI_ge (by omega) (by omega))) (fun _ => ?_)
      refine lv_iload_n hx hb dX1_joins_19 rfl (lv_at hl 4 rfl) ?_
      refine lv_if_ne (tgt := 67) hx hb dX1_joins_20 (by decide) (fun c20_1 => ?_) (fun c20_1 => ?_)
      · skip
        refine lv_iconst (v := 1) hx hb dX1_joins_67 (by decide) ?_
        refine lv_goto (tgt := 72) hx hb dX1_joins_68 (by decide) ?_
        refine lv_istore_n (lv' := [(3, .int 1), (4, .int (nI q)), (0, .ref (ad 16)), (1, .int x), (2, .int y)]) hx hb dX1_joins_72 rfl hl (by decide) rfl (fun ls hl => ?_)
        refine lv_iinc (v := nI (q + 1)) (lv' := [(4, .int (nI (q + 1))), (3, .int 1), (0, .ref (ad 16)), (1, .int x), (2, .int y)]) hx hb dX1_joins_73 hl (k := 1) rfl (nI_1 _) (by decide) rfl (fun ls hl => ?_)
        refine lv_goto (tgt := 5) hx hb dX1_joins_76 (by decide) ?_
        exact ih5  (q + 1) 1 (by omega) (by have h9 := r5; simp only [lp_s, lp_0, jnF, if_neg c20_1] at h9; exact h9) (by first | exact Or.inl rfl | exact Or.inr rfl) H locs hW ls (lv_sub hl [0, 2, 3, 4, 1] rfl)
      · skip
        refine lv_aload_n hx hb dX1_joins_23 rfl (lv_at hl 1 rfl) ?_
        refine u_get C hW inlX1 (by decide) cC_16 rfl 1 (by decide) mw_40 rfl dX1_joins_24 ?_
        refine lv_iload hx hb dX1_joins_27 (lv_at hl 0 rfl) ?_
        refine u_iald C hW (by decide) cC_17 0 rfl q rfl (by omega) (by decide) dX1_joins_29 ?_
        refine lv_iload_n hx hb dX1_joins_30 rfl (lv_at hl 2 rfl) ?_
        refine lv_icmp_ne (tgt := 45) hx hb dX1_joins_31 (by decide) (fun c31_2 => ?_) (fun c31_2 => ?_)
        · skip
          refine lv_aload_n hx hb dX1_joins_45 rfl (lv_at hl 1 rfl) ?_
          refine u_get C hW inlX1 (by decide) cC_16 rfl 1 (by decide) mw_40 rfl dX1_joins_46 ?_
          refine lv_iload hx hb dX1_joins_49 (lv_at hl 0 rfl) ?_
          refine u_iald C hW (by decide) cC_17 0 rfl q rfl (by omega) (by decide) dX1_joins_51 ?_
          refine lv_iload_n hx hb dX1_joins_52 rfl (lv_at hl 3 rfl) ?_
          refine lv_icmp_ne (tgt := 71) hx hb dX1_joins_53 (by decide) (fun c53_3 => ?_) (fun c53_3 => ?_)
          · skip
            refine lv_iconst (v := 0) hx hb dX1_joins_71 (by decide) ?_
            refine lv_istore_n (lv' := [(3, .int 0), (4, .int (nI q)), (0, .ref (ad 16)), (1, .int x), (2, .int y)]) hx hb dX1_joins_72 rfl hl (by decide) rfl (fun ls hl => ?_)
            refine lv_iinc (v := nI (q + 1)) (lv' := [(4, .int (nI (q + 1))), (3, .int 0), (0, .ref (ad 16)), (1, .int x), (2, .int y)]) hx hb dX1_joins_73 hl (k := 1) rfl (nI_1 _) (by decide) rfl (fun ls hl => ?_)
            refine lv_goto (tgt := 5) hx hb dX1_joins_76 (by decide) ?_
            exact ih5  (q + 1) 0 (by omega) (by have h9 := r5; simp only [lp_s, lp_0, jnF, if_pos c20_1, if_neg c31_2, if_neg c53_3] at h9; exact h9) (by first | exact Or.inl rfl | exact Or.inr rfl) H locs hW ls (lv_sub hl [0, 2, 3, 4, 1] rfl)
          · skip
            refine lv_aload_n hx hb dX1_joins_56 rfl (lv_at hl 1 rfl) ?_
            refine u_get C hW inlX1 (by decide) cC_16 rfl 2 (by decide) mw_41 rfl dX1_joins_57 ?_
            refine lv_iload hx hb dX1_joins_60 (lv_at hl 0 rfl) ?_
            refine u_iald C hW (by decide) cC_18 0 rfl q rfl (by omega) (by decide) dX1_joins_62 ?_
            refine lv_iload_n hx hb dX1_joins_63 rfl (lv_at hl 2 rfl) ?_
            refine lv_icmp_ne (tgt := 71) hx hb dX1_joins_64 (by decide) (fun c64_4 => ?_) (fun c64_4 => ?_)
            · skip
              refine lv_iconst (v := 0) hx hb dX1_joins_71 (by decide) ?_
              refine lv_istore_n (lv' := [(3, .int 0), (4, .int (nI q)), (0, .ref (ad 16)), (1, .int x), (2, .int y)]) hx hb dX1_joins_72 rfl hl (by decide) rfl (fun ls hl => ?_)
              refine lv_iinc (v := nI (q + 1)) (lv' := [(4, .int (nI (q + 1))), (3, .int 0), (0, .ref (ad 16)), (1, .int x), (2, .int y)]) hx hb dX1_joins_73 hl (k := 1) rfl (nI_1 _) (by decide) rfl (fun ls hl => ?_)
              refine lv_goto (tgt := 5) hx hb dX1_joins_76 (by decide) ?_
              exact ih5  (q + 1) 0 (by omega) (by have h9 := r5; simp only [lp_s, lp_0, jnF, if_pos c20_1, if_neg c31_2, if_pos c53_3, if_neg c64_4] at h9; exact h9) (by first | exact Or.inl rfl | exact Or.inr rfl) H locs hW ls (lv_sub hl [0, 2, 3, 4, 1] rfl)
            · skip
              refine lv_iconst (v := 1) hx hb dX1_joins_67 (by decide) ?_
              refine lv_goto (tgt := 72) hx hb dX1_joins_68 (by decide) ?_
              refine lv_istore_n (lv' := [(3, .int 1), (4, .int (nI q)), (0, .ref (ad 16)), (1, .int x), (2, .int y)]) hx hb dX1_joins_72 rfl hl (by decide) rfl (fun ls hl => ?_)
              refine lv_iinc (v := nI (q + 1)) (lv' := [(4, .int (nI (q + 1))), (3, .int 1), (0, .ref (ad 16)), (1, .int x), (2, .int y)]) hx hb dX1_joins_73 hl (k := 1) rfl (nI_1 _) (by decide) rfl (fun ls hl => ?_)
              refine lv_goto (tgt := 5) hx hb dX1_joins_76 (by decide) ?_
              exact ih5  (q + 1) 1 (by omega) (by have h9 := r5; simp only [lp_s, lp_0, jnF, if_pos c20_1, if_neg c31_2, if_pos c53_3, if_pos c64_4] at h9; exact h9) (by first | exact Or.inl rfl | exact Or.inr rfl) H locs hW ls (lv_sub hl [0, 2, 3, 4, 1] rfl)
        · skip
          refine lv_aload_n hx hb dX1_joins_34 rfl (lv_at hl 1 rfl) ?_
          refine u_get C hW inlX1 (by decide) cC_16 rfl 2 (by decide) mw_41 rfl dX1_joins_35 ?_
          refine lv_iload hx hb dX1_joins_38 (lv_at hl 0 rfl) ?_
          refine u_iald C hW (by decide) cC_18 0 rfl q rfl (by omega) (by decide) dX1_joins_40 ?_
          refine lv_iload_n hx hb dX1_joins_41 rfl (lv_at hl 3 rfl) ?_
          refine lv_icmp_eq (tgt := 67) hx hb dX1_joins_42 (by decide) (fun c42_5 => ?_) (fun c42_5 => ?_)
          · skip
            refine lv_iconst (v := 1) hx hb dX1_joins_67 (by decide) ?_
            refine lv_goto (tgt := 72) hx hb dX1_joins_68 (by decide) ?_
            refine lv_istore_n (lv' := [(3, .int 1), (4, .int (nI q)), (0, .ref (ad 16)), (1, .int x), (2, .int y)]) hx hb dX1_joins_72 rfl hl (by decide) rfl (fun ls hl => ?_)
            refine lv_iinc (v := nI (q + 1)) (lv' := [(4, .int (nI (q + 1))), (3, .int 1), (0, .ref (ad 16)), (1, .int x), (2, .int y)]) hx hb dX1_joins_73 hl (k := 1) rfl (nI_1 _) (by decide) rfl (fun ls hl => ?_)
            refine lv_goto (tgt := 5) hx hb dX1_joins_76 (by decide) ?_
            exact ih5  (q + 1) 1 (by omega) (by have h9 := r5; simp only [lp_s, lp_0, jnF, if_pos c20_1, if_pos c31_2, if_pos c42_5] at h9; exact h9) (by first | exact Or.inl rfl | exact Or.inr rfl) H locs hW ls (lv_sub hl [0, 2, 3, 4, 1] rfl)
          · skip
            refine lv_aload_n hx hb dX1_joins_45 rfl (lv_at hl 1 rfl) ?_
            refine u_get C hW inlX1 (by decide) cC_16 rfl 1 (by decide) mw_40 rfl dX1_joins_46 ?_
            refine lv_iload hx hb dX1_joins_49 (lv_at hl 0 rfl) ?_
            refine u_iald C hW (by decide) cC_17 0 rfl q rfl (by omega) (by decide) dX1_joins_51 ?_
            refine lv_iload_n hx hb dX1_joins_52 rfl (lv_at hl 3 rfl) ?_
            refine lv_icmp_ne (tgt := 71) hx hb dX1_joins_53 (by decide) (fun c53_6 => ?_) (fun c53_6 => ?_)
            · skip
              refine lv_iconst (v := 0) hx hb dX1_joins_71 (by decide) ?_
              refine lv_istore_n (lv' := [(3, .int 0), (4, .int (nI q)), (0, .ref (ad 16)), (1, .int x), (2, .int y)]) hx hb dX1_joins_72 rfl hl (by decide) rfl (fun ls hl => ?_)
              refine lv_iinc (v := nI (q + 1)) (lv' := [(4, .int (nI (q + 1))), (3, .int 0), (0, .ref (ad 16)), (1, .int x), (2, .int y)]) hx hb dX1_joins_73 hl (k := 1) rfl (nI_1 _) (by decide) rfl (fun ls hl => ?_)
              refine lv_goto (tgt := 5) hx hb dX1_joins_76 (by decide) ?_
              exact ih5  (q + 1) 0 (by omega) (by have h9 := r5; simp only [lp_s, lp_0, jnF, if_pos c20_1, if_pos c31_2, if_neg c42_5, if_neg c53_6] at h9; exact h9) (by first | exact Or.inl rfl | exact Or.inr rfl) H locs hW ls (lv_sub hl [0, 2, 3, 4, 1] rfl)
            · skip
              refine lv_aload_n hx hb dX1_joins_56 rfl (lv_at hl 1 rfl) ?_
              refine u_get C hW inlX1 (by decide) cC_16 rfl 2 (by decide) mw_41 rfl dX1_joins_57 ?_
              refine lv_iload hx hb dX1_joins_60 (lv_at hl 0 rfl) ?_
              refine u_iald C hW (by decide) cC_18 0 rfl q rfl (by omega) (by decide) dX1_joins_62 ?_
              refine lv_iload_n hx hb dX1_joins_63 rfl (lv_at hl 2 rfl) ?_
              refine lv_icmp_ne (tgt := 71) hx hb dX1_joins_64 (by decide) (fun c64_7 => ?_) (fun c64_7 => ?_)
              · skip
                refine lv_iconst (v := 0) hx hb dX1_joins_71 (by decide) ?_
                refine lv_istore_n (lv' := [(3, .int 0), (4, .int (nI q)), (0, .ref (ad 16)), (1, .int x), (2, .int y)]) hx hb dX1_joins_72 rfl hl (by decide) rfl (fun ls hl => ?_)
                refine lv_iinc (v := nI (q + 1)) (lv' := [(4, .int (nI (q + 1))), (3, .int 0), (0, .ref (ad 16)), (1, .int x), (2, .int y)]) hx hb dX1_joins_73 hl (k := 1) rfl (nI_1 _) (by decide) rfl (fun ls hl => ?_)
                refine lv_goto (tgt := 5) hx hb dX1_joins_76 (by decide) ?_
                exact ih5  (q + 1) 0 (by omega) (by have h9 := r5; simp only [lp_s, lp_0, jnF, if_pos c20_1, if_pos c31_2, if_neg c42_5, if_pos c53_6, if_neg c64_7] at h9; exact h9) (by first | exact Or.inl rfl | exact Or.inr rfl) H locs hW ls (lv_sub hl [0, 2, 3, 4, 1] rfl)
              · skip
                refine lv_iconst (v := 1) hx hb dX1_joins_67 (by decide) ?_
                refine lv_goto (tgt := 72) hx hb dX1_joins_68 (by decide) ?_
                refine lv_istore_n (lv' := [(3, .int 1), (4, .int (nI q)), (0, .ref (ad 16)), (1, .int x), (2, .int y)]) hx hb dX1_joins_72 rfl hl (by decide) rfl (fun ls hl => ?_)
                refine lv_iinc (v := nI (q + 1)) (lv' := [(4, .int (nI (q + 1))), (3, .int 1), (0, .ref (ad 16)), (1, .int x), (2, .int y)]) hx hb dX1_joins_73 hl (k := 1) rfl (nI_1 _) (by decide) rfl (fun ls hl => ?_)
                refine lv_goto (tgt := 5) hx hb dX1_joins_76 (by decide) ?_
                exact ih5  (q + 1) 1 (by omega) (by have h9 := r5; simp only [lp_s, lp_0, jnF, if_pos c20_1, if_pos c31_2, if_neg c42_5, if_pos c53_6, if_pos c64_7] at h9; exact h9) (by first | exact Or.inl rfl | exact Or.inr rfl) H locs hW ls (lv_sub hl [0, 2, 3, 4, 1] rfl)
  exact L5 (n - 1) 0 0 (by omega) rfl (Or.inl rfl) H locs hW ls (lv_sub hl [0, 2, 3, 4, 1] rfl)
set_option maxHeartbeats 4000000 in
set_option maxRecDepth 100000 in
theorem c_X1_layWay (l : Launch) (D : va_G) (cyI cO cyZ : ClassId) (ad : Nat → Nat) (fa : Nat) (n : Nat) (d md : Nat → Nat → Int32) (go ke ha : Nat → Int32) (wy : Nat → Nat → Int32) (ab be sr : Int32) (q t f k : Nat) (hq : q < 6) (ht : t < 6) (hf : f < 6) (hk : k < 6) (hgo : go q = nI f) (hke : ke q = nI k) : Ct l yX1_layWay (Cond.code yX1_layWay cX1_layWay 5 none :: wsL_law) ({ frames := 0, cells := 0, slots := 0, locals := 0 } : Room) D (ty3 cyI cO cyZ) 29 ad fa [.ref (ad 16), .int (nI q), .int (nI t)] (cC cyI cO ad n d md go ke ha wy ab be sr) (cC cyI cO ad n d md go ke ha (lwV d wy f k t) ab be sr) (none) := by
  refine Ct.of (by decide) (Nat.le_of_ble_eq_true rfl) ?_
  intro p e s m args below meth c A C hr H locs hW ls hl
  have C : Cx p s m args meth c cX1_layWay 5 RX1 D (ty3 cyI cO cyZ) fa A := C
  have hx := C.1
  have hb := C.2.1
  have hl : lv_has ls 5 [(0, .ref (ad 16)), (1, .int (nI q)), (2, .int (nI t))] := hl
  refine lv_aload_n hx hb dX1_layWay_0 rfl (lv_at hl 0 rfl) ?_
  refine u_get C hW inlX1 (by decide) cC_16 rfl 1 (by decide) mw_40 rfl dX1_layWay_1 ?_
  refine lv_iload_n hx hb dX1_layWay_4 rfl (lv_at hl 1 rfl) ?_
  refine u_iald C hW (by decide) cC_17 0 rfl q rfl (by omega) (by decide) dX1_layWay_5 ?_
  refine u_top (show go q = nI f from hgo) ?_
  refine lv_istore_n (lv' := [(3, .int (nI f)), (0, .ref (ad 16)), (1, .int (nI q)), (2, .int (nI t))]) hx hb dX1_layWay_6 rfl hl (by decide) rfl (fun ls hl => ?_)
  refine lv_aload_n hx hb dX1_layWay_7 rfl (lv_at hl 1 rfl) ?_
  refine u_get C hW inlX1 (by decide) cC_16 rfl 0 (by decide) mw_47 rfl dX1_layWay_8 ?_
  refine u_getN C hW inlX3 (by decide) cC_1 rfl 0 (by decide) (List.mem_of_getElem? (i := 9) rfl) rfl dX1_layWay_11 ?_
  refine lv_iload_n hx hb dX1_layWay_14 rfl (lv_at hl 0 rfl) ?_
  refine u_aald C hW (by decide) cC_2 1 rfl f rfl (by omega) (by decide) (cC_outer (by omega)) dX1_layWay_15 ?_
  refine lv_aload_n hx hb dX1_layWay_16 rfl (lv_at hl 1 rfl) ?_
  refine u_get C hW inlX1 (by decide) cC_16 rfl 2 (by decide) mw_41 rfl dX1_layWay_17 ?_
  refine lv_iload_n hx hb dX1_layWay_20 rfl (lv_at hl 2 rfl) ?_
  refine u_iald C hW (by decide) cC_18 0 rfl q rfl (by omega) (by decide) dX1_layWay_21 ?_
  refine u_top (show ke q = nI k from hke) ?_
  refine u_iald C hW (by omega) (cC_d (by omega)) 0 rfl k rfl (by omega) (by decide) dX1_layWay_22 ?_
  refine lv_aload_n hx hb dX1_layWay_23 rfl (lv_at hl 1 rfl) ?_
  refine u_get C hW inlX1 (by decide) cC_16 rfl 4 (by decide) mw_44 rfl dX1_layWay_24 ?_
  refine lv_aload_n hx hb dX1_layWay_27 rfl (lv_at hl 1 rfl) ?_
  refine u_get C hW inlX1 (by decide) cC_16 rfl 2 (by decide) mw_41 rfl dX1_layWay_28 ?_
  refine lv_iload_n hx hb dX1_layWay_31 rfl (lv_at hl 2 rfl) ?_
  refine u_iald C hW (by decide) cC_18 0 rfl q rfl (by omega) (by decide) dX1_layWay_32 ?_
  refine u_top (show ke q = nI k from hke) ?_
  refine u_aald C hW (by decide) cC_20 1 rfl k rfl (by omega) (by decide) (cC_outer (by omega)) dX1_layWay_33 ?_
  refine lv_iload_n hx hb dX1_layWay_34 rfl (lv_at hl 3 rfl) ?_
  refine u_iald C hW (by omega) (cC_w (by omega)) 0 rfl t rfl (by omega) (by decide) dX1_layWay_35 ?_
  refine lv_iadd hx hb dX1_layWay_36 ?_
  refine lv_istore (lv' := [(4, .int ((d f k) + (wy k t))), (3, .int (nI f)), (0, .ref (ad 16)), (1, .int (nI q)), (2, .int (nI t))]) hx hb dX1_layWay_37 hl (by decide) rfl (fun ls hl => ?_)
  refine lv_aload_n hx hb dX1_layWay_39 rfl (lv_at hl 2 rfl) ?_
  refine u_get C hW inlX1 (by decide) cC_16 rfl 4 (by decide) mw_44 rfl dX1_layWay_40 ?_
  refine lv_iload_n hx hb dX1_layWay_43 rfl (lv_at hl 1 rfl) ?_
  refine u_aald C hW (by decide) cC_20 1 rfl f rfl (by omega) (by decide) (cC_outer (by omega)) dX1_layWay_44 ?_
  refine lv_iload_n hx hb dX1_layWay_45 rfl (lv_at hl 4 rfl) ?_
  refine lv_iload hx hb dX1_layWay_46 (lv_at hl 0 rfl) ?_
  refine u_iast (cf' := cC cyI cO ad n d md go ke ha (u2 wy f t ((d f k) + (wy k t))) ab be sr) C hW (by omega) (cC_w (by omega)) 0 rfl t rfl (by omega) (by decide) (cC_sw (by omega)) dX1_layWay_48 (fun H locs hW => ?_)
  refine lv_aload_n hx hb dX1_layWay_49 rfl (lv_at hl 2 rfl) ?_
  refine u_get C hW inlX1 (by decide) cC_16 rfl 4 (by decide) mw_44 rfl dX1_layWay_50 ?_
  refine lv_iload_n hx hb dX1_layWay_53 rfl (lv_at hl 4 rfl) ?_
  refine u_aald C hW (by decide) cC_20 1 rfl t rfl (by omega) (by decide) (cC_outer (by omega)) dX1_layWay_54 ?_
  refine lv_iload_n hx hb dX1_layWay_55 rfl (lv_at hl 1 rfl) ?_
  refine lv_iload hx hb dX1_layWay_56 (lv_at hl 0 rfl) ?_
  refine u_iast (cf' := cC cyI cO ad n d md go ke ha (u2 (u2 wy f t ((d f k) + (wy k t))) t f ((d f k) + (wy k t))) ab be sr) C hW (by omega) (cC_w (by omega)) 0 rfl f rfl (by omega) (by decide) (cC_sw (by omega)) dX1_layWay_58 (fun H locs hW => ?_)
  exact u_vret C hr hW dX1_layWay_59 rfl
set_option maxHeartbeats 4000000 in
set_option maxRecDepth 100000 in
theorem c_X1_lay (l : Launch) (D : va_G) (cyI cO cyZ : ClassId) (ad : Nat → Nat) (fa : Nat) (n : Nat) (d md : Nat → Nat → Int32) (go ke ha : Nat → Int32) (wy : Nat → Nat → Int32) (ab be sr : Int32) (cd : Nat) (hn : n ≤ 6) (h2 : 2 ≤ n) (hcd : cd < 2 ^ 31) : Ct l yX1_lay (Cond.code yX1_lay cX1_lay 5 none :: wsL_law) ({ frames := 3, cells := 0, slots := 0, locals := 70 } : Room) D (ty3 cyI cO cyZ) 29 ad fa [.ref (ad 16), .int (nI cd)] (cC cyI cO ad n d md go ke ha wy ab be sr) (cC cyI cO ad n d md (rdG n cd go ke ha) (rdK n cd ke ha) (rdH n cd ke ha) (lyV n d (Gn n cd ke ha) (Kn n cd ke ha) wy) ab be sr) (none) := by
  refine Ct.of (by decide) (Nat.le_of_ble_eq_true rfl) ?_
  intro p e s m args below meth c A C hr H locs hW ls hl
  have C : Cx p s m args meth c cX1_lay 5 RX1 D (ty3 cyI cO cyZ) fa A := C
  have hx := C.1
  have hb := C.2.1
  have hl : lv_has ls 5 [(0, .ref (ad 16)), (1, .int (nI cd))] := hl
  have hGl := fun q => Gn_lt cd ke ha q h2
  have hKl := fun q => Kn_lt cd ke ha q h2
  have hK0 := hKl (n - 2)
  refine lv_aload_n hx hb dX1_lay_0 rfl (lv_at hl 0 rfl) ?_
  refine lv_iload_n hx hb dX1_lay_1 rfl (lv_at hl 1 rfl) ?_
  refine u_callV (cf' := cC cyI cO ad n d md (rdG n cd go ke ha) (rdK n cd ke ha) (rdH n cd ke ha) wy ab be sr) (As := [.int (nI cd)]) (rest := []) (st1 := []) C hW (c_X1_read l D cyI cO cyZ ad fa n d md go ke ha wy ab be sr cd (by omega) (by omega) (by omega)) mv_yX1_read mw_339 rfl ⟨rfl, rfl, Nat.le_of_ble_eq_true rfl, Nat.le_of_ble_eq_true rfl⟩ (by decide) cC_16 rfl rfl hl (Nat.le_of_ble_eq_true rfl) rfl rfl dX1_lay_2 (fun H locs hW => ?_)
  refine lv_aload_n hx hb dX1_lay_5 rfl (lv_at hl 0 rfl) ?_
  refine u_get C hW inlX1 (by decide) cC_16 rfl 0 (by decide) mw_47 rfl dX1_lay_6 ?_
  refine u_getN C hW inlX3 (by decide) cC_1 rfl 2 (by decide) (List.mem_of_getElem? (i := 8) rfl) rfl dX1_lay_9 ?_
  refine lv_iconst (v := 2) hx hb dX1_lay_12 (by decide) ?_
  refine lv_isub hx hb dX1_lay_13 ?_
  refine u_top (show (nI n) - 2 = nI (n - 2) from pk_sub (a := n) (b := 2) (by omega)) ?_
  refine lv_istore_n (lv' := [(2, .int (nI (n - 2))), (0, .ref (ad 16)), (1, .int (nI cd))]) hx hb dX1_lay_14 rfl hl (by decide) rfl (fun ls hl => ?_)
  refine lv_aload_n hx hb dX1_lay_15 rfl (lv_at hl 1 rfl) ?_
  refine u_get C hW inlX1 (by decide) cC_16 rfl 4 (by decide) mw_44 rfl dX1_lay_16 ?_
  refine lv_aload_n hx hb dX1_lay_19 rfl (lv_at hl 1 rfl) ?_
  refine u_get C hW inlX1 (by decide) cC_16 rfl 2 (by decide) mw_41 rfl dX1_lay_20 ?_
  refine lv_iload_n hx hb dX1_lay_23 rfl (lv_at hl 0 rfl) ?_
  refine u_iald C hW (by decide) cC_18 0 rfl (n - 2) rfl (by omega) (by decide) dX1_lay_24 ?_
  refine u_top (show rdK n cd ke ha (n - 2) = nI (Kn n cd ke ha (n - 2)) from rdK_n (by omega)) ?_
  refine u_aald C hW (by decide) cC_20 1 rfl (Kn n cd ke ha (n - 2)) rfl (by omega) (by decide) (cC_outer (by omega)) dX1_lay_25 ?_
  refine lv_aload_n hx hb dX1_lay_26 rfl (lv_at hl 1 rfl) ?_
  refine u_get C hW inlX1 (by decide) cC_16 rfl 2 (by decide) mw_41 rfl dX1_lay_27 ?_
  refine lv_iload_n hx hb dX1_lay_30 rfl (lv_at hl 0 rfl) ?_
  refine u_iald C hW (by decide) cC_18 0 rfl (n - 2) rfl (by omega) (by decide) dX1_lay_31 ?_
  refine u_top (show rdK n cd ke ha (n - 2) = nI (Kn n cd ke ha (n - 2)) from rdK_n (by omega)) ?_
  refine lv_iconst (v := 0) hx hb dX1_lay_32 (by decide) ?_
  refine u_iast (cf' := cC cyI cO ad n d md (rdG n cd go ke ha) (rdK n cd ke ha) (rdH n cd ke ha) (u2 wy (Kn n cd ke ha (n - 2)) (Kn n cd ke ha (n - 2)) 0) ab be sr) C hW (by omega) (cC_w (by omega)) 0 rfl (Kn n cd ke ha (n - 2)) rfl (by omega) (by decide) (cC_sw (by omega)) dX1_lay_33 (fun H locs hW => ?_)
  refine lv_iload_n hx hb dX1_lay_34 rfl (lv_at hl 0 rfl) ?_
  refine u_top (show nI (n - 2) = nI (n - 1) - 1 from nI_pm h2) ?_
  refine lv_istore_n (lv' := [(3, .int (nI (n - 1) - 1)), (2, .int (nI (n - 2))), (0, .ref (ad 16)), (1, .int (nI cd))]) hx hb dX1_lay_35 rfl hl (by decide) rfl (fun ls hl => ?_)
  have L36 : ∀ (k36 : Nat) (ww : Nat → Nat → Int32), k36 ≤ n - 1 → lpd (lyS n d (Gn n cd ke ha) (Kn n cd ke ha)) k36 ww = lyV n d (Gn n cd ke ha) (Kn n cd ke ha) wy → ∀ (H : Heap) (locs : List Loc), Wd D 29 ad (cC cyI cO ad n d md (rdG n cd go ke ha) (rdK n cd ke ha) (rdH n cd ke ha) ww ab be sr) A s.heap H locs → ∀ ls : Array Slot, lv_has ls 5 [(0, .ref (ad 16)), (2, .int (nI (n - 2))), (3, .int (nI k36 - 1))] → W p l e ({ frames := 3, cells := 0, slots := 0, locals := 70 } : Room) s m args below meth c H locs 0 0 (MQ below (uQ D 29 ad (cC cyI cO ad n d md (rdG n cd go ke ha) (rdK n cd ke ha) (rdH n cd ke ha) (lyV n d (Gn n cd ke ha) (Kn n cd ke ha) wy) ab be sr) (none) A) args s 0 0 A) (F0 m 36 ls []) := by
    intro k36
    induction k36 with
    | zero =>
      intro ww hk r36 H locs hW ls hl
      refine lv_iload_n hx hb dX1_lay_36 rfl (lv_at hl 2 rfl) ?_
      refine lv_if_lt (tgt := 105) hx hb dX1_lay_37 (by decide) (fun _ => ?_) (fun c9 => absurd (by decide) c9)
      exact u_vret C hr hW dX1_lay_105 (by rw [← r36]; rfl)
    | succ k36 ih36 =>
      intro ww hk r36 H locs hW ls hl
      rw [show nI (k36 + 1) - 1 = nI k36 from nI_pred k36] at hl
      have hg1 := hGl k36
      have hk1 := hKl k36
      refine lv_iload_n hx hb dX1_lay_36 rfl (lv_at hl 2 rfl) ?_
      refine lv_if_lt (tgt := 105) hx hb dX1_lay_37 (by decide) (fun c9 => absurd c9 (nI_pos (by omega))) (fun _ => ?_)
      refine lv_aload_n hx hb dX1_lay_40 rfl (lv_at hl 0 rfl) ?_
      refine u_get C hW inlX1 (by decide) cC_16 rfl 4 (by decide) mw_44 rfl dX1_lay_41 ?_
      refine lv_aload_n hx hb dX1_lay_44 rfl (lv_at hl 0 rfl) ?_
      refine u_get C hW inlX1 (by decide) cC_16 rfl 1 (by decide) mw_40 rfl dX1_lay_45 ?_
      refine lv_iload_n hx hb dX1_lay_48 rfl (lv_at hl 2 rfl) ?_
      refine u_iald C hW (by decide) cC_17 0 rfl k36 rfl (by omega) (by decide) dX1_lay_49 ?_
      refine u_top (show rdG n cd go ke ha k36 = nI (Gn n cd ke ha k36) from rdG_n (by omega)) ?_
      refine u_aald C hW (by decide) cC_20 1 rfl (Gn n cd ke ha k36) rfl (by omega) (by decide) (cC_outer (by omega)) dX1_lay_50 ?_
      refine lv_aload_n hx hb dX1_lay_51 rfl (lv_at hl 0 rfl) ?_
      refine u_get C hW inlX1 (by decide) cC_16 rfl 1 (by decide) mw_40 rfl dX1_lay_52 ?_
      refine lv_iload_n hx hb dX1_lay_55 rfl (lv_at hl 2 rfl) ?_
      refine u_iald C hW (by decide) cC_17 0 rfl k36 rfl (by omega) (by decide) dX1_lay_56 ?_
      refine u_top (show rdG n cd go ke ha k36 = nI (Gn n cd ke ha k36) from rdG_n (by omega)) ?_
      refine lv_iconst (v := 0) hx hb dX1_lay_57 (by decide) ?_
      refine u_iast (cf' := cC cyI cO ad n d md (rdG n cd go ke ha) (rdK n cd ke ha) (rdH n cd ke ha) (u2 ww (Gn n cd ke ha k36) (Gn n cd ke ha k36) 0) ab be sr) C hW (by omega) (cC_w (by omega)) 0 rfl (Gn n cd ke ha k36) rfl (by omega) (by decide) (cC_sw (by omega)) dX1_lay_58 (fun H locs hW => ?_)
      refine lv_aload_n hx hb dX1_lay_59 rfl (lv_at hl 0 rfl) ?_
      refine lv_iload_n hx hb dX1_lay_60 rfl (lv_at hl 2 rfl) ?_
      refine lv_aload_n hx hb dX1_lay_61 rfl (lv_at hl 0 rfl) ?_
      refine u_get C hW inlX1 (by decide) cC_16 rfl 2 (by decide) mw_41 rfl dX1_lay_62 ?_
      refine lv_iload_n hx hb dX1_lay_65 rfl (lv_at hl 1 rfl) ?_
      refine u_iald C hW (by decide) cC_18 0 rfl (n - 2) rfl (by omega) (by decide) dX1_lay_66 ?_
      refine u_top (show rdK n cd ke ha (n - 2) = nI (Kn n cd ke ha (n - 2)) from rdK_n (by omega)) ?_
      refine u_callV (cf' := cC cyI cO ad n d md (rdG n cd go ke ha) (rdK n cd ke ha) (rdH n cd ke ha) (lwV d (u2 ww (Gn n cd ke ha k36) (Gn n cd ke ha k36) 0) (Gn n cd ke ha k36) (Kn n cd ke ha k36) (Kn n cd ke ha (n - 2))) ab be sr) (As := [.int (nI k36), .int (nI (Kn n cd ke ha (n - 2)))]) (rest := []) (st1 := []) C hW (c_X1_layWay l D cyI cO cyZ ad fa n d md (rdG n cd go ke ha) (rdK n cd ke ha) (rdH n cd ke ha) (u2 ww (Gn n cd ke ha k36) (Gn n cd ke ha k36) 0) ab be sr k36 (Kn n cd ke ha (n - 2)) (Gn n cd ke ha k36) (Kn n cd ke ha k36) (by omega) (by omega) (by omega) (by omega) (rdG_n (by omega)) (rdK_n (by omega))) mv_yX1_layWay mw_340 rfl ⟨rfl, rfl, Nat.le_of_ble_eq_true rfl, Nat.le_of_ble_eq_true rfl⟩ (by decide) cC_16 rfl rfl hl (Nat.le_of_ble_eq_true rfl) rfl rfl dX1_lay_67 (fun H locs hW => ?_)
      refine lv_iload_n hx hb dX1_lay_70 rfl (lv_at hl 2 rfl) ?_
      refine lv_iconst (v := 1) hx hb dX1_lay_71 (by decide) ?_
      refine lv_iadd hx hb dX1_lay_72 ?_
      refine u_top (show (nI k36) + 1 = nI (k36 + 1) from nI_add k36 1) ?_
      refine lv_istore (lv' := [(4, .int (nI (k36 + 1))), (0, .ref (ad 16)), (2, .int (nI (n - 2))), (3, .int (nI k36))]) hx hb dX1_lay_73 hl (by decide) rfl (fun ls hl => ?_)
      have L75 : ∀ (k75 : Nat) (q : Nat) (ww : Nat → Nat → Int32), q + k75 = n - 1 → lpd (lyS n d (Gn n cd ke ha) (Kn n cd ke ha)) k36 (lp (lyI d (Gn n cd ke ha) (Kn n cd ke ha) k36) q k75 ww) = lyV n d (Gn n cd ke ha) (Kn n cd ke ha) wy → k36 < q → ∀ (H : Heap) (locs : List Loc), Wd D 29 ad (cC cyI cO ad n d md (rdG n cd go ke ha) (rdK n cd ke ha) (rdH n cd ke ha) ww ab be sr) A s.heap H locs → ∀ ls : Array Slot, lv_has ls 5 [(4, .int (nI q)), (0, .ref (ad 16)), (2, .int (nI (n - 2))), (3, .int (nI k36))] → W p l e ({ frames := 3, cells := 0, slots := 0, locals := 70 } : Room) s m args below meth c H locs 0 0 (MQ below (uQ D 29 ad (cC cyI cO ad n d md (rdG n cd go ke ha) (rdK n cd ke ha) (rdH n cd ke ha) (lyV n d (Gn n cd ke ha) (Kn n cd ke ha) wy) ab be sr) (none) A) args s 0 0 A) (F0 m 75 ls []) := by
        intro k75
        induction k75 with
        | zero =>
          intro q ww hq r75 hqk H locs hW ls hl
          refine lv_iload hx hb dX1_lay_75 (lv_at hl 0 rfl) ?_
          refine lv_iload_n hx hb dX1_lay_77 rfl (lv_at hl 2 rfl) ?_
          refine lv_icmp_gt (tgt := 99) hx hb dX1_lay_78 (by decide) (fun _ => ?_) (fun c9 => absurd (nI_lt (by omega) (by omega)) c9)
          refine lv_iinc (v := nI k36 - 1) (lv' := [(3, .int (nI k36 - 1)), (4, .int (nI q)), (0, .ref (ad 16)), (2, .int (nI (n - 2)))]) hx hb dX1_lay_99 hl (k := 3) rfl (nI_dn k36) (by decide) rfl (fun ls hl => ?_)
          refine lv_goto (tgt := 36) hx hb dX1_lay_102 (by decide) ?_
          exact ih36  ww (by omega) r75 H locs hW ls (lv_sub hl [2, 3, 0] rfl)
        | succ k75 ih75 =>
          intro q ww hq r75 hqk H locs hW ls hl
          have hg2 := hGl q
          refine lv_iload hx hb dX1_lay_75 (lv_at hl 0 rfl) ?_
          refine lv_iload_n hx hb dX1_lay_77 rfl (lv_at hl 2 rfl) ?_
          refine lv_icmp_gt (tgt := 99) hx hb dX1_lay_78 (by decide) (fun c9 => absurd c9 (nI_nlt (by omega) (by omega))) (fun _ => ?_)
          refine lv_aload_n hx hb dX1_lay_81 rfl (lv_at hl 1 rfl) ?_
          refine lv_iload_n hx hb dX1_lay_82 rfl (lv_at hl 3 rfl) ?_
          refine lv_aload_n hx hb dX1_lay_83 rfl (lv_at hl 1 rfl) ?_
          refine u_get C hW inlX1 (by decide) cC_16 rfl 1 (by decide) mw_40 rfl dX1_lay_84 ?_
          refine lv_iload hx hb dX1_lay_87 (lv_at hl 0 rfl) ?_
          refine u_iald C hW (by decide) cC_17 0 rfl q rfl (by omega) (by decide) dX1_lay_89 ?_
          refine u_top (show rdG n cd go ke ha q = nI (Gn n cd ke ha q) from rdG_n (by omega)) ?_
          refine u_callV (cf' := cC cyI cO ad n d md (rdG n cd go ke ha) (rdK n cd ke ha) (rdH n cd ke ha) (lwV d ww (Gn n cd ke ha k36) (Kn n cd ke ha k36) (Gn n cd ke ha q)) ab be sr) (As := [.int (nI k36), .int (nI (Gn n cd ke ha q))]) (rest := []) (st1 := []) C hW (c_X1_layWay l D cyI cO cyZ ad fa n d md (rdG n cd go ke ha) (rdK n cd ke ha) (rdH n cd ke ha) ww ab be sr k36 (Gn n cd ke ha q) (Gn n cd ke ha k36) (Kn n cd ke ha k36) (by omega) (by omega) (by omega) (by omega) (rdG_n (by omega)) (rdK_n (by omega))) mv_yX1_layWay mw_340 rfl ⟨rfl, rfl, Nat.le_of_ble_eq_true rfl, Nat.le_of_ble_eq_true rfl⟩ (by decide) cC_16 rfl rfl hl (Nat.le_of_ble_eq_true rfl) rfl rfl dX1_lay_90 (fun H locs hW => ?_)
          refine lv_iinc (v := nI (q + 1)) (lv' := [(4, .int (nI (q + 1))), (0, .ref (ad 16)), (2, .int (nI (n - 2))), (3, .int (nI k36))]) hx hb dX1_lay_93 hl (k := 0) rfl (nI_1 _) (by decide) rfl (fun ls hl => ?_)
          refine lv_goto (tgt := 75) hx hb dX1_lay_96 (by decide) ?_
          exact ih75  (q + 1) (lwV d ww (Gn n cd ke ha k36) (Kn n cd ke ha k36) (Gn n cd ke ha q)) (by omega) r75 (by omega) H locs hW ls (lv_sub hl [0, 1, 2, 3] rfl)
      exact L75 (n - 2 - k36) (k36 + 1) (lwV d (u2 ww (Gn n cd ke ha k36) (Gn n cd ke ha k36) 0) (Gn n cd ke ha k36) (Kn n cd ke ha k36) (Kn n cd ke ha (n - 2))) (by omega) r36 (by omega) H locs hW ls (lv_sub hl [0, 1, 2, 3] rfl)
  exact L36 (n - 1) (u2 wy (Kn n cd ke ha (n - 2)) (Kn n cd ke ha (n - 2)) 0) (by omega) rfl H locs hW ls (lv_sub hl [2, 1, 0] rfl)
set_option maxHeartbeats 4000000 in
set_option maxRecDepth 100000 in
theorem c_X1_findStretch (l : Launch) (D : va_G) (cyI cO cyZ : ClassId) (ad : Nat → Nat) (fa : Nat) (n : Nat) (d md : Nat → Nat → Int32) (go ke ha : Nat → Int32) (wy : Nat → Nat → Int32) (ab be sr : Int32)  (hn : n ≤ 6) : Ct l yX1_findStretch (Cond.code yX1_findStretch cX1_findStretch 3 none :: wsL_law) ({ frames := 0, cells := 0, slots := 0, locals := 0 } : Room) D (ty3 cyI cO cyZ) 29 ad fa [.ref (ad 16)] (cC cyI cO ad n d md go ke ha wy ab be sr) (cC cyI cO ad n d md go ke ha wy ((fsV n d wy).1) ((fsV n d wy).2) sr) (none) := by
  refine Ct.of (by decide) (Nat.le_of_ble_eq_true rfl) ?_
  intro p e s m args below meth c A C hr H locs hW ls hl
  have C : Cx p s m args meth c cX1_findStretch 3 RX1 D (ty3 cyI cO cyZ) fa A := C
  have hx := C.1
  have hb := C.2.1
  have hl : lv_has ls 3 [(0, .ref (ad 16))] := hl
  refine lv_aload_n hx hb dX1_findStretch_0 rfl (lv_at hl 0 rfl) ?_
  refine lv_iconst (v := 1) hx hb dX1_findStretch_1 (by decide) ?_
  refine u_put (cf' := cC cyI cO ad n d md go ke ha wy 1 be sr) C hW inlX1 tyX1 tyX1_ok nmX1 (by decide) cC_16 rfl 5 (by decide) mw_45 rfl rfl rfl (Nat.le_of_ble_eq_true rfl) cC_sab dX1_findStretch_2 (fun H locs hW => ?_)
  refine lv_aload_n hx hb dX1_findStretch_5 rfl (lv_at hl 0 rfl) ?_
  refine lv_iconst (v := 1) hx hb dX1_findStretch_6 (by decide) ?_
  refine u_put (cf' := cC cyI cO ad n d md go ke ha wy 1 1 sr) C hW inlX1 tyX1 tyX1_ok nmX1 (by decide) cC_16 rfl 6 (by decide) mw_46 rfl rfl rfl (Nat.le_of_ble_eq_true rfl) cC_sab dX1_findStretch_7 (fun H locs hW => ?_)
  refine lv_iconst (v := 0) hx hb dX1_findStretch_10 (by decide) ?_
  refine lv_istore_n (lv' := [(1, .int 0), (0, .ref (ad 16))]) hx hb dX1_findStretch_11 rfl hl (by decide) rfl (fun ls hl => ?_)
  have L12 : ∀ (k12 : Nat) (i : Nat) (x : Int32) (y : Int32), i + k12 = n → lp (fsO n d wy) i k12 (x, y) = fsV n d wy → ∀ (H : Heap) (locs : List Loc), Wd D 29 ad (cC cyI cO ad n d md go ke ha wy x y sr) A s.heap H locs → ∀ ls : Array Slot, lv_has ls 3 [(1, .int (nI i)), (0, .ref (ad 16))] → W p l e ({ frames := 0, cells := 0, slots := 0, locals := 0 } : Room) s m args below meth c H locs 0 0 (MQ below (uQ D 29 ad (cC cyI cO ad n d md go ke ha wy ((fsV n d wy).1) ((fsV n d wy).2) sr) (none) A) args s 0 0 A) (F0 m 12 ls []) := by
    intro k12
    induction k12 with
    | zero =>
      intro i x y hi r12 H locs hW ls hl
      refine lv_iload_n hx hb dX1_findStretch_12 rfl (lv_at hl 0 rfl) ?_
      refine lv_aload_n hx hb dX1_findStretch_13 rfl (lv_at hl 1 rfl) ?_
      refine u_get C hW inlX1 (by decide) cC_16 rfl 0 (by decide) mw_47 rfl dX1_findStretch_14 ?_
      refine u_getN C hW inlX3 (by decide) cC_1 rfl 2 (by decide) (List.mem_of_getElem? (i := 8) rfl) rfl dX1_findStretch_17 ?_
      refine lv_icmp_ge (tgt := 109) hx hb dX1_findStretch_20 (by decide) (fun _ => ?_) (fun c9 => absurd (nI_le (by omega) (by omega)) c9)
      exact u_vret C hr hW dX1_findStretch_109 (by rw [← r12]; rfl)
    | succ k12 ih12 =>
      intro i x y hi r12 H locs hW ls hl
      refine lv_iload_n hx hb dX1_findStretch_12 rfl (lv_at hl 0 rfl) ?_
      refine lv_aload_n hx hb dX1_findStretch_13 rfl (lv_at hl 1 rfl) ?_
      refine u_get C hW inlX1 (by decide) cC_16 rfl 0 (by decide) mw_47 rfl dX1_findStretch_14 ?_
      refine u_getN C hW inlX3 (by decide) cC_1 rfl 2 (by decide) (List.mem_of_getElem? (i := 8) rfl) rfl dX1_findStretch_17 ?_
      refine lv_icmp_ge (tgt := 109) hx hb dX1_findStretch_20 (by decide) (fun c9 => absurd c9 (nI_ge (by omega) (by omega))) (fun _ => ?_)
      refine lv_iload_n hx hb dX1_findStretch_23 rfl (lv_at hl 0 rfl) ?_
      refine lv_iconst (v := 1) hx hb dX1_findStretch_24 (by decide) ?_
      refine lv_iadd hx hb dX1_findStretch_25 ?_
      refine u_top (show (nI i) + 1 = nI (i + 1) from nI_add i 1) ?_
      refine lv_istore_n (lv' := [(2, .int (nI (i + 1))), (1, .int (nI i)), (0, .ref (ad 16))]) hx hb dX1_findStretch_26 rfl hl (by decide) rfl (fun ls hl => ?_)
      have L27 : ∀ (k27 : Nat) (j : Nat) (x : Int32) (y : Int32), j + k27 = n → lp (fsO n d wy) (i + 1) k12 (lp (fsI d wy i) j k27 (x, y)) = fsV n d wy → ∀ (H : Heap) (locs : List Loc), Wd D 29 ad (cC cyI cO ad n d md go ke ha wy x y sr) A s.heap H locs → ∀ ls : Array Slot, lv_has ls 3 [(2, .int (nI j)), (0, .ref (ad 16)), (1, .int (nI i))] → W p l e ({ frames := 0, cells := 0, slots := 0, locals := 0 } : Room) s m args below meth c H locs 0 0 (MQ below (uQ D 29 ad (cC cyI cO ad n d md go ke ha wy ((fsV n d wy).1) ((fsV n d wy).2) sr) (none) A) args s 0 0 A) (F0 m 27 ls []) := by
        intro k27
        induction k27 with
        | zero =>
          intro j x y hj r27 H locs hW ls hl
          refine lv_iload_n hx hb dX1_findStretch_27 rfl (lv_at hl 0 rfl) ?_
          refine lv_aload_n hx hb dX1_findStretch_28 rfl (lv_at hl 1 rfl) ?_
          refine u_get C hW inlX1 (by decide) cC_16 rfl 0 (by decide) mw_47 rfl dX1_findStretch_29 ?_
          refine u_getN C hW inlX3 (by decide) cC_1 rfl 2 (by decide) (List.mem_of_getElem? (i := 8) rfl) rfl dX1_findStretch_32 ?_
          refine lv_icmp_ge (tgt := 103) hx hb dX1_findStretch_35 (by decide) (fun _ => ?_) (fun c9 => absurd (nI_le (by omega) (by omega)) c9)
          refine lv_iinc (v := nI (i + 1)) (lv' := [(1, .int (nI (i + 1))), (2, .int (nI j)), (0, .ref (ad 16))]) hx hb dX1_findStretch_103 hl (k := 2) rfl (nI_1 _) (by decide) rfl (fun ls hl => ?_)
          refine lv_goto (tgt := 12) hx hb dX1_findStretch_106 (by decide) ?_
          exact ih12  (i + 1) x y (by omega) r27 H locs hW ls (lv_sub hl [0, 2] rfl)
        | succ k27 ih27 =>
          intro j x y hj r27 H locs hW ls hl
          refine lv_iload_n hx hb dX1_findStretch_27 rfl (lv_at hl 0 rfl) ?_
          refine lv_aload_n hx hb dX1_findStretch_28 rfl (lv_at hl 1 rfl) ?_
          refine u_get C hW inlX1 (by decide) cC_16 rfl 0 (by decide) mw_47 rfl dX1_findStretch_29 ?_
          refine u_getN C hW inlX3 (by decide) cC_1 rfl 2 (by decide) (List.mem_of_getElem? (i := 8) rfl) rfl dX1_findStretch_32 ?_
          refine lv_icmp_ge (tgt := 103) hx hb dX1_findStretch_35 (by decide) (fun c9 => absurd c9 (nI_ge (by omega) (by omega))) (fun _ => ?_)
          refine lv_aload_n hx hb dX1_findStretch_38 rfl (lv_at hl 1 rfl) ?_
          refine u_get C hW inlX1 (by decide) cC_16 rfl 4 (by decide) mw_44 rfl dX1_findStretch_39 ?_
          refine lv_iload_n hx hb dX1_findStretch_42 rfl (lv_at hl 2 rfl) ?_
          refine u_aald C hW (by decide) cC_20 1 rfl i rfl (by omega) (by decide) (cC_outer (by omega)) dX1_findStretch_43 ?_
          refine lv_iload_n hx hb dX1_findStretch_44 rfl (lv_at hl 0 rfl) ?_
          refine u_iald C hW (by omega) (cC_w (by omega)) 0 rfl j rfl (by omega) (by decide) dX1_findStretch_45 ?_
          refine lv_aload_n hx hb dX1_findStretch_46 rfl (lv_at hl 1 rfl) ?_
          refine u_get C hW inlX1 (by decide) cC_16 rfl 6 (by decide) mw_46 rfl dX1_findStretch_47 ?_
          refine lv_imul hx hb dX1_findStretch_50 ?_
          refine lv_aload_n hx hb dX1_findStretch_51 rfl (lv_at hl 1 rfl) ?_
          refine u_get C hW inlX1 (by decide) cC_16 rfl 5 (by decide) mw_45 rfl dX1_findStretch_52 ?_
          refine lv_aload_n hx hb dX1_findStretch_55 rfl (lv_at hl 1 rfl) ?_
          refine u_get C hW inlX1 (by decide) cC_16 rfl 0 (by decide) mw_47 rfl dX1_findStretch_56 ?_
          refine u_getN C hW inlX3 (by decide) cC_1 rfl 0 (by decide) (List.mem_of_getElem? (i := 9) rfl) rfl dX1_findStretch_59 ?_
          refine lv_iload_n hx hb dX1_findStretch_62 rfl (lv_at hl 2 rfl) ?_
          refine u_aald C hW (by decide) cC_2 1 rfl i rfl (by omega) (by decide) (cC_outer (by omega)) dX1_findStretch_63 ?_
          refine lv_iload_n hx hb dX1_findStretch_64 rfl (lv_at hl 0 rfl) ?_
          refine u_iald C hW (by omega) (cC_d (by omega)) 0 rfl j rfl (by omega) (by decide) dX1_findStretch_65 ?_
          refine lv_imul hx hb dX1_findStretch_66 ?_
          refine lv_icmp_le (tgt := 97) hx hb dX1_findStretch_67 (by decide) (fun c67_1 => ?_) (fun c67_1 => ?_)
          · skip
            refine lv_iinc (v := nI (j + 1)) (lv' := [(2, .int (nI (j + 1))), (0, .ref (ad 16)), (1, .int (nI i))]) hx hb dX1_findStretch_97 hl (k := 0) rfl (nI_1 _) (by decide) rfl (fun ls hl => ?_)
            refine lv_goto (tgt := 27) hx hb dX1_findStretch_100 (by decide) ?_
            exact ih27  (j + 1) x y (by omega) (by have h9 := r27; simp only [lp_s, lp_0, fsI, if_pos c67_1] at h9; exact h9) H locs hW ls (lv_sub hl [0, 1, 2] rfl)
          · skip
            refine lv_aload_n hx hb dX1_findStretch_70 rfl (lv_at hl 1 rfl) ?_
            refine lv_aload_n hx hb dX1_findStretch_71 rfl (lv_at hl 1 rfl) ?_
            refine u_get C hW inlX1 (by decide) cC_16 rfl 4 (by decide) mw_44 rfl dX1_findStretch_72 ?_
            refine lv_iload_n hx hb dX1_findStretch_75 rfl (lv_at hl 2 rfl) ?_
            refine u_aald C hW (by decide) cC_20 1 rfl i rfl (by omega) (by decide) (cC_outer (by omega)) dX1_findStretch_76 ?_
            refine lv_iload_n hx hb dX1_findStretch_77 rfl (lv_at hl 0 rfl) ?_
            refine u_iald C hW (by omega) (cC_w (by omega)) 0 rfl j rfl (by omega) (by decide) dX1_findStretch_78 ?_
            refine u_put (cf' := cC cyI cO ad n d md go ke ha wy (wy i j) y sr) C hW inlX1 tyX1 tyX1_ok nmX1 (by decide) cC_16 rfl 5 (by decide) mw_45 rfl rfl rfl (Nat.le_of_ble_eq_true rfl) cC_sab dX1_findStretch_79 (fun H locs hW => ?_)
            refine lv_aload_n hx hb dX1_findStretch_82 rfl (lv_at hl 1 rfl) ?_
            refine lv_aload_n hx hb dX1_findStretch_83 rfl (lv_at hl 1 rfl) ?_
            refine u_get C hW inlX1 (by decide) cC_16 rfl 0 (by decide) mw_47 rfl dX1_findStretch_84 ?_
            refine u_getN C hW inlX3 (by decide) cC_1 rfl 0 (by decide) (List.mem_of_getElem? (i := 9) rfl) rfl dX1_findStretch_87 ?_
            refine lv_iload_n hx hb dX1_findStretch_90 rfl (lv_at hl 2 rfl) ?_
            refine u_aald C hW (by decide) cC_2 1 rfl i rfl (by omega) (by decide) (cC_outer (by omega)) dX1_findStretch_91 ?_
            refine lv_iload_n hx hb dX1_findStretch_92 rfl (lv_at hl 0 rfl) ?_
            refine u_iald C hW (by omega) (cC_d (by omega)) 0 rfl j rfl (by omega) (by decide) dX1_findStretch_93 ?_
            refine u_put (cf' := cC cyI cO ad n d md go ke ha wy (wy i j) (d i j) sr) C hW inlX1 tyX1 tyX1_ok nmX1 (by decide) cC_16 rfl 6 (by decide) mw_46 rfl rfl rfl (Nat.le_of_ble_eq_true rfl) cC_sab dX1_findStretch_94 (fun H locs hW => ?_)
            refine lv_iinc (v := nI (j + 1)) (lv' := [(2, .int (nI (j + 1))), (0, .ref (ad 16)), (1, .int (nI i))]) hx hb dX1_findStretch_97 hl (k := 0) rfl (nI_1 _) (by decide) rfl (fun ls hl => ?_)
            refine lv_goto (tgt := 27) hx hb dX1_findStretch_100 (by decide) ?_
            exact ih27  (j + 1) (wy i j) (d i j) (by omega) (by have h9 := r27; simp only [lp_s, lp_0, fsI, if_neg c67_1] at h9; exact h9) H locs hW ls (lv_sub hl [0, 1, 2] rfl)
      exact L27 (n - (i + 1)) (i + 1) x y (by omega) r12 H locs hW ls (lv_sub hl [0, 2, 1] rfl)
  exact L12 n 0 1 1 (by omega) rfl H locs hW ls (lv_sub hl [0, 1] rfl)
set_option maxHeartbeats 4000000 in
set_option maxRecDepth 100000 in
theorem c_X1_leastByStretch (l : Launch) (D : va_G) (cyI cO cyZ : ClassId) (ad : Nat → Nat) (fa : Nat) (n : Nat) (d md : Nat → Nat → Int32) (go ke ha : Nat → Int32) (wy : Nat → Nat → Int32) (ab be sr : Int32)  (hn : n ≤ 6) (h2 : 2 ≤ n) : Ct l yX1_leastByStretch (Cond.code yX1_leastByStretch cX1_leastByStretch 6 (some .int) :: wsL_law) ({ frames := 4, cells := 0, slots := 0, locals := 94 } : Room) D (ty3 cyI cO cyZ) 29 ad fa [.ref (ad 16)] (cC cyI cO ad n d md go ke ha wy ab be sr) (cC cyI cO ad n d md ((bsV n d ab be (go, ke, ha, wy)).2.2.2.2.2.1) ((bsV n d ab be (go, ke, ha, wy)).2.2.2.2.2.2.1) ((bsV n d ab be (go, ke, ha, wy)).2.2.2.2.2.2.2.1) ((bsV n d ab be (go, ke, ha, wy)).2.2.2.2.2.2.2.2) ((bsV n d ab be (go, ke, ha, wy)).2.2.2.1) ((bsV n d ab be (go, ke, ha, wy)).2.2.2.2.1) sr) (some (.int ((bsV n d ab be (go, ke, ha, wy)).1))) := by
  refine Ct.of (by decide) (Nat.le_of_ble_eq_true rfl) ?_
  intro p e s m args below meth c A C hr H locs hW ls hl
  have C : Cx p s m args meth c cX1_leastByStretch 6 RX1 D (ty3 cyI cO cyZ) fa A := C
  have hx := C.1
  have hb := C.2.1
  have hl : lv_has ls 6 [(0, .ref (ad 16))] := hl
  have hcm := cmV_le hn
  refine lv_iconst (v := 0) hx hb dX1_leastByStretch_0 (by decide) ?_
  refine lv_istore_n (lv' := [(1, .int 0), (0, .ref (ad 16))]) hx hb dX1_leastByStretch_1 rfl hl (by decide) rfl (fun ls hl => ?_)
  refine lv_iconst (v := 0) hx hb dX1_leastByStretch_2 (by decide) ?_
  refine lv_istore_n (lv' := [(2, .int 0), (1, .int 0), (0, .ref (ad 16))]) hx hb dX1_leastByStretch_3 rfl hl (by decide) rfl (fun ls hl => ?_)
  refine lv_iconst (v := 0) hx hb dX1_leastByStretch_4 (by decide) ?_
  refine lv_istore_n (lv' := [(3, .int 0), (2, .int 0), (1, .int 0), (0, .ref (ad 16))]) hx hb dX1_leastByStretch_5 rfl hl (by decide) rfl (fun ls hl => ?_)
  refine lv_aload_n hx hb dX1_leastByStretch_6 rfl (lv_at hl 3 rfl) ?_
  refine u_callV (cf' := cC cyI cO ad n d md go ke ha wy ab be sr) (As := []) (rest := []) (st1 := [.int (nI (cmV n))]) C hW (c_X1_howMany l D cyI cO cyZ ad fa n d md go ke ha wy ab be sr  (by omega) (by omega)) mv_yX1_howMany mw_400 rfl ⟨rfl, rfl, Nat.le_of_ble_eq_true rfl, Nat.le_of_ble_eq_true rfl⟩ (by decide) cC_16 rfl rfl hl (Nat.le_of_ble_eq_true rfl) rfl rfl dX1_leastByStretch_7 (fun H locs hW => ?_)
  refine lv_istore (lv' := [(4, .int (nI (cmV n))), (3, .int 0), (2, .int 0), (1, .int 0), (0, .ref (ad 16))]) hx hb dX1_leastByStretch_10 hl (by decide) rfl (fun ls hl => ?_)
  refine lv_iconst (v := 0) hx hb dX1_leastByStretch_12 (by decide) ?_
  refine lv_istore (lv' := [(5, .int 0), (4, .int (nI (cmV n))), (3, .int 0), (2, .int 0), (1, .int 0), (0, .ref (ad 16))]) hx hb dX1_leastByStretch_13 hl (by decide) rfl (fun ls hl => ?_)
  have L15 : ∀ (k15 : Nat) (q : Nat) (ls0 : Int32) (la : Int32) (lb : Int32) (x : Int32) (y : Int32) (g1 : Nat → Int32) (k1 : Nat → Int32) (h1 : Nat → Int32) (w1 : Nat → Nat → Int32), q + k15 = cmV n → lp (bsF n d) q k15 (ls0, la, lb, x, y, g1, k1, h1, w1) = bsV n d ab be (go, ke, ha, wy) → ∀ (H : Heap) (locs : List Loc), Wd D 29 ad (cC cyI cO ad n d md g1 k1 h1 w1 x y sr) A s.heap H locs → ∀ ls : Array Slot, lv_has ls 6 [(5, .int (nI q)), (0, .ref (ad 16)), (1, .int ls0), (2, .int la), (3, .int lb), (4, .int (nI (cmV n)))] → W p l e ({ frames := 4, cells := 0, slots := 0, locals := 94 } : Room) s m args below meth c H locs 0 0 (MQ below (uQ D 29 ad (cC cyI cO ad n d md ((bsV n d ab be (go, ke, ha, wy)).2.2.2.2.2.1) ((bsV n d ab be (go, ke, ha, wy)).2.2.2.2.2.2.1) ((bsV n d ab be (go, ke, ha, wy)).2.2.2.2.2.2.2.1) ((bsV n d ab be (go, ke, ha, wy)).2.2.2.2.2.2.2.2) ((bsV n d ab be (go, ke, ha, wy)).2.2.2.1) ((bsV n d ab be (go, ke, ha, wy)).2.2.2.2.1) sr) (some (.int ((bsV n d ab be (go, ke, ha, wy)).1))) A) args s 0 0 A) (F0 m 15 ls []) := by
    intro k15
    induction k15 with
    | zero =>
      intro q ls0 la lb x y g1 k1 h1 w1 hq r15 H locs hW ls hl
      refine lv_iload hx hb dX1_leastByStretch_15 (lv_at hl 0 rfl) ?_
      refine lv_iload hx hb dX1_leastByStretch_17 (lv_at hl 5 rfl) ?_
      refine lv_icmp_ge (tgt := 71) hx hb dX1_leastByStretch_19 (by decide) (fun _ => ?_) (fun c9 => absurd (nI_le (by omega) (by omega)) c9)
      refine lv_iload_n hx hb dX1_leastByStretch_71 rfl (lv_at hl 2 rfl) ?_
      exact u_iret C hr hW dX1_leastByStretch_72 (by rw [← r15]; rfl) (by rw [← r15]; rfl)
    | succ k15 ih15 =>
      intro q ls0 la lb x y g1 k1 h1 w1 hq r15 H locs hW ls hl
      refine lv_iload hx hb dX1_leastByStretch_15 (lv_at hl 0 rfl) ?_
      refine lv_iload hx hb dX1_leastByStretch_17 (lv_at hl 5 rfl) ?_
      refine lv_icmp_ge (tgt := 71) hx hb dX1_leastByStretch_19 (by decide) (fun c9 => absurd c9 (nI_ge (by omega) (by omega))) (fun _ => ?_)
      refine lv_aload_n hx hb dX1_leastByStretch_22 rfl (lv_at hl 1 rfl) ?_
      refine lv_iload hx hb dX1_leastByStretch_23 (lv_at hl 0 rfl) ?_
      refine u_callV (cf' := cC cyI cO ad n d md (rdG n q g1 k1 h1) (rdK n q k1 h1) (rdH n q k1 h1) (lyV n d (Gn n q k1 h1) (Kn n q k1 h1) w1) x y sr) (As := [.int (nI q)]) (rest := []) (st1 := []) C hW (c_X1_lay l D cyI cO cyZ ad fa n d md g1 k1 h1 w1 x y sr q (by omega) (by omega) (by omega)) mv_yX1_lay mw_401 rfl ⟨rfl, rfl, Nat.le_of_ble_eq_true rfl, Nat.le_of_ble_eq_true rfl⟩ (by decide) cC_16 rfl rfl hl (Nat.le_of_ble_eq_true rfl) rfl rfl dX1_leastByStretch_25 (fun H locs hW => ?_)
      refine lv_aload_n hx hb dX1_leastByStretch_28 rfl (lv_at hl 1 rfl) ?_
      refine u_callV (cf' := cC cyI cO ad n d md (rdG n q g1 k1 h1) (rdK n q k1 h1) (rdH n q k1 h1) (lyV n d (Gn n q k1 h1) (Kn n q k1 h1) w1) ((fsV n d (lyV n d (Gn n q k1 h1) (Kn n q k1 h1) w1)).1) ((fsV n d (lyV n d (Gn n q k1 h1) (Kn n q k1 h1) w1)).2) sr) (As := []) (rest := []) (st1 := []) C hW (c_X1_findStretch l D cyI cO cyZ ad fa n d md (rdG n q g1 k1 h1) (rdK n q k1 h1) (rdH n q k1 h1) (lyV n d (Gn n q k1 h1) (Kn n q k1 h1) w1) x y sr  (by omega)) mv_yX1_findStretch mw_402 rfl ⟨rfl, rfl, Nat.le_of_ble_eq_true rfl, Nat.le_of_ble_eq_true rfl⟩ (by decide) cC_16 rfl rfl hl (Nat.le_of_ble_eq_true rfl) rfl rfl dX1_leastByStretch_29 (fun H locs hW => ?_)
      refine lv_iload hx hb dX1_leastByStretch_32 (lv_at hl 0 rfl) ?_
      refine lv_if_eq (tgt := 52) hx hb dX1_leastByStretch_34 (by decide) (fun c34_1 => ?_) (fun c34_1 => ?_)
      · skip
        refine lv_iload hx hb dX1_leastByStretch_52 (lv_at hl 0 rfl) ?_
        refine lv_istore_n (lv' := [(1, .int (nI q)), (5, .int (nI q)), (0, .ref (ad 16)), (2, .int la), (3, .int lb), (4, .int (nI (cmV n)))]) hx hb dX1_leastByStretch_54 rfl hl (by decide) rfl (fun ls hl => ?_)
        refine lv_aload_n hx hb dX1_leastByStretch_55 rfl (lv_at hl 2 rfl) ?_
        refine u_get C hW inlX1 (by decide) cC_16 rfl 5 (by decide) mw_45 rfl dX1_leastByStretch_56 ?_
        refine lv_istore_n (lv' := [(2, .int ((fsV n d (lyV n d (Gn n q k1 h1) (Kn n q k1 h1) w1)).1)), (1, .int (nI q)), (5, .int (nI q)), (0, .ref (ad 16)), (3, .int lb), (4, .int (nI (cmV n)))]) hx hb dX1_leastByStretch_59 rfl hl (by decide) rfl (fun ls hl => ?_)
        refine lv_aload_n hx hb dX1_leastByStretch_60 rfl (lv_at hl 3 rfl) ?_
        refine u_get C hW inlX1 (by decide) cC_16 rfl 6 (by decide) mw_46 rfl dX1_leastByStretch_61 ?_
        refine lv_istore_n (lv' := [(3, .int ((fsV n d (lyV n d (Gn n q k1 h1) (Kn n q k1 h1) w1)).2)), (2, .int ((fsV n d (lyV n d (Gn n q k1 h1) (Kn n q k1 h1) w1)).1)), (1, .int (nI q)), (5, .int (nI q)), (0, .ref (ad 16)), (4, .int (nI (cmV n)))]) hx hb dX1_leastByStretch_64 rfl hl (by decide) rfl (fun ls hl => ?_)
        refine lv_iinc (v := nI (q + 1)) (lv' := [(5, .int (nI (q + 1))), (3, .int ((fsV n d (lyV n d (Gn n q k1 h1) (Kn n q k1 h1) w1)).2)), (2, .int ((fsV n d (lyV n d (Gn n q k1 h1) (Kn n q k1 h1) w1)).1)), (1, .int (nI q)), (0, .ref (ad 16)), (4, .int (nI (cmV n)))]) hx hb dX1_leastByStretch_65 hl (k := 3) rfl (nI_1 _) (by decide) rfl (fun ls hl => ?_)
        refine lv_goto (tgt := 15) hx hb dX1_leastByStretch_68 (by decide) ?_
        exact ih15  (q + 1) (nI q) ((fsV n d (lyV n d (Gn n q k1 h1) (Kn n q k1 h1) w1)).1) ((fsV n d (lyV n d (Gn n q k1 h1) (Kn n q k1 h1) w1)).2) ((fsV n d (lyV n d (Gn n q k1 h1) (Kn n q k1 h1) w1)).1) ((fsV n d (lyV n d (Gn n q k1 h1) (Kn n q k1 h1) w1)).2) (rdG n q g1 k1 h1) (rdK n q k1 h1) (rdH n q k1 h1) (lyV n d (Gn n q k1 h1) (Kn n q k1 h1) w1) (by omega) (by refine Eq.trans (congrArg (lp (bsF n d) (q + 1) k15) (Eq.symm ?_)) r15; exact (if_pos c34_1)) H locs hW ls (lv_sub hl [0, 4, 3, 2, 1, 5] rfl)
      · skip
        refine lv_aload_n hx hb dX1_leastByStretch_37 rfl (lv_at hl 1 rfl) ?_
        refine u_get C hW inlX1 (by decide) cC_16 rfl 5 (by decide) mw_45 rfl dX1_leastByStretch_38 ?_
        refine lv_iload_n hx hb dX1_leastByStretch_41 rfl (lv_at hl 4 rfl) ?_
        refine lv_imul hx hb dX1_leastByStretch_42 ?_
        refine lv_iload_n hx hb dX1_leastByStretch_43 rfl (lv_at hl 3 rfl) ?_
        refine lv_aload_n hx hb dX1_leastByStretch_44 rfl (lv_at hl 1 rfl) ?_
        refine u_get C hW inlX1 (by decide) cC_16 rfl 6 (by decide) mw_46 rfl dX1_leastByStretch_45 ?_
        refine lv_imul hx hb dX1_leastByStretch_48 ?_
        refine lv_icmp_ge (tgt := 65) hx hb dX1_leastByStretch_49 (by decide) (fun c49_2 => ?_) (fun c49_2 => ?_)
        · skip
          refine lv_iinc (v := nI (q + 1)) (lv' := [(5, .int (nI (q + 1))), (0, .ref (ad 16)), (1, .int ls0), (2, .int la), (3, .int lb), (4, .int (nI (cmV n)))]) hx hb dX1_leastByStretch_65 hl (k := 0) rfl (nI_1 _) (by decide) rfl (fun ls hl => ?_)
          refine lv_goto (tgt := 15) hx hb dX1_leastByStretch_68 (by decide) ?_
          exact ih15  (q + 1) ls0 la lb ((fsV n d (lyV n d (Gn n q k1 h1) (Kn n q k1 h1) w1)).1) ((fsV n d (lyV n d (Gn n q k1 h1) (Kn n q k1 h1) w1)).2) (rdG n q g1 k1 h1) (rdK n q k1 h1) (rdH n q k1 h1) (lyV n d (Gn n q k1 h1) (Kn n q k1 h1) w1) (by omega) (by refine Eq.trans (congrArg (lp (bsF n d) (q + 1) k15) (Eq.symm ?_)) r15; exact ((if_neg c34_1).trans (if_pos c49_2))) H locs hW ls (lv_sub hl [0, 1, 2, 3, 4, 5] rfl)
        · skip
          refine lv_iload hx hb dX1_leastByStretch_52 (lv_at hl 0 rfl) ?_
          refine lv_istore_n (lv' := [(1, .int (nI q)), (5, .int (nI q)), (0, .ref (ad 16)), (2, .int la), (3, .int lb), (4, .int (nI (cmV n)))]) hx hb dX1_leastByStretch_54 rfl hl (by decide) rfl (fun ls hl => ?_)
          refine lv_aload_n hx hb dX1_leastByStretch_55 rfl (lv_at hl 2 rfl) ?_
          refine u_get C hW inlX1 (by decide) cC_16 rfl 5 (by decide) mw_45 rfl dX1_leastByStretch_56 ?_
          refine lv_istore_n (lv' := [(2, .int ((fsV n d (lyV n d (Gn n q k1 h1) (Kn n q k1 h1) w1)).1)), (1, .int (nI q)), (5, .int (nI q)), (0, .ref (ad 16)), (3, .int lb), (4, .int (nI (cmV n)))]) hx hb dX1_leastByStretch_59 rfl hl (by decide) rfl (fun ls hl => ?_)
          refine lv_aload_n hx hb dX1_leastByStretch_60 rfl (lv_at hl 3 rfl) ?_
          refine u_get C hW inlX1 (by decide) cC_16 rfl 6 (by decide) mw_46 rfl dX1_leastByStretch_61 ?_
          refine lv_istore_n (lv' := [(3, .int ((fsV n d (lyV n d (Gn n q k1 h1) (Kn n q k1 h1) w1)).2)), (2, .int ((fsV n d (lyV n d (Gn n q k1 h1) (Kn n q k1 h1) w1)).1)), (1, .int (nI q)), (5, .int (nI q)), (0, .ref (ad 16)), (4, .int (nI (cmV n)))]) hx hb dX1_leastByStretch_64 rfl hl (by decide) rfl (fun ls hl => ?_)
          refine lv_iinc (v := nI (q + 1)) (lv' := [(5, .int (nI (q + 1))), (3, .int ((fsV n d (lyV n d (Gn n q k1 h1) (Kn n q k1 h1) w1)).2)), (2, .int ((fsV n d (lyV n d (Gn n q k1 h1) (Kn n q k1 h1) w1)).1)), (1, .int (nI q)), (0, .ref (ad 16)), (4, .int (nI (cmV n)))]) hx hb dX1_leastByStretch_65 hl (k := 3) rfl (nI_1 _) (by decide) rfl (fun ls hl => ?_)
          refine lv_goto (tgt := 15) hx hb dX1_leastByStretch_68 (by decide) ?_
          exact ih15  (q + 1) (nI q) ((fsV n d (lyV n d (Gn n q k1 h1) (Kn n q k1 h1) w1)).1) ((fsV n d (lyV n d (Gn n q k1 h1) (Kn n q k1 h1) w1)).2) ((fsV n d (lyV n d (Gn n q k1 h1) (Kn n q k1 h1) w1)).1) ((fsV n d (lyV n d (Gn n q k1 h1) (Kn n q k1 h1) w1)).2) (rdG n q g1 k1 h1) (rdK n q k1 h1) (rdH n q k1 h1) (lyV n d (Gn n q k1 h1) (Kn n q k1 h1) w1) (by omega) (by refine Eq.trans (congrArg (lp (bsF n d) (q + 1) k15) (Eq.symm ?_)) r15; exact ((if_neg c34_1).trans (if_neg c49_2))) H locs hW ls (lv_sub hl [0, 4, 3, 2, 1, 5] rfl)
  exact L15 (cmV n) 0 0 0 0 ab be go ke ha wy (by omega) rfl H locs hW ls (lv_sub hl [0, 5, 4, 3, 2, 1] rfl)
set_option maxHeartbeats 4000000 in
set_option maxRecDepth 100000 in
theorem c_X1_leastBySpread (l : Launch) (D : va_G) (cyI cO cyZ : ClassId) (ad : Nat → Nat) (fa : Nat) (n : Nat) (d md : Nat → Nat → Int32) (go ke ha : Nat → Int32) (wy : Nat → Nat → Int32) (ab be sr : Int32)  (hn : n ≤ 6) (h2 : 2 ≤ n) : Ct l yX1_leastBySpread (Cond.code yX1_leastBySpread cX1_leastBySpread 6 (some .int) :: wsL_law) ({ frames := 4, cells := 0, slots := 0, locals := 94 } : Room) D (ty3 cyI cO cyZ) 29 ad fa [.ref (ad 16)] (cC cyI cO ad n d md go ke ha wy ab be sr) (cC cyI cO ad n d md ((bpV n d (go, ke, ha, wy)).2.2.1) ((bpV n d (go, ke, ha, wy)).2.2.2.1) ((bpV n d (go, ke, ha, wy)).2.2.2.2.1) ((bpV n d (go, ke, ha, wy)).2.2.2.2.2) ab be sr) (some (.int ((bpV n d (go, ke, ha, wy)).1))) := by
  refine Ct.of (by decide) (Nat.le_of_ble_eq_true rfl) ?_
  intro p e s m args below meth c A C hr H locs hW ls hl
  have C : Cx p s m args meth c cX1_leastBySpread 6 RX1 D (ty3 cyI cO cyZ) fa A := C
  have hx := C.1
  have hb := C.2.1
  have hl : lv_has ls 6 [(0, .ref (ad 16))] := hl
  have hcm := cmV_le hn
  refine lv_iconst (v := 0) hx hb dX1_leastBySpread_0 (by decide) ?_
  refine lv_istore_n (lv' := [(1, .int 0), (0, .ref (ad 16))]) hx hb dX1_leastBySpread_1 rfl hl (by decide) rfl (fun ls hl => ?_)
  refine lv_iconst (v := 0) hx hb dX1_leastBySpread_2 (by decide) ?_
  refine lv_istore_n (lv' := [(2, .int 0), (1, .int 0), (0, .ref (ad 16))]) hx hb dX1_leastBySpread_3 rfl hl (by decide) rfl (fun ls hl => ?_)
  refine lv_aload_n hx hb dX1_leastBySpread_4 rfl (lv_at hl 2 rfl) ?_
  refine u_callV (cf' := cC cyI cO ad n d md go ke ha wy ab be sr) (As := []) (rest := []) (st1 := [.int (nI (cmV n))]) C hW (c_X1_howMany l D cyI cO cyZ ad fa n d md go ke ha wy ab be sr  (by omega) (by omega)) mv_yX1_howMany mw_400 rfl ⟨rfl, rfl, Nat.le_of_ble_eq_true rfl, Nat.le_of_ble_eq_true rfl⟩ (by decide) cC_16 rfl rfl hl (Nat.le_of_ble_eq_true rfl) rfl rfl dX1_leastBySpread_5 (fun H locs hW => ?_)
  refine lv_istore_n (lv' := [(3, .int (nI (cmV n))), (2, .int 0), (1, .int 0), (0, .ref (ad 16))]) hx hb dX1_leastBySpread_8 rfl hl (by decide) rfl (fun ls hl => ?_)
  refine lv_iconst (v := 0) hx hb dX1_leastBySpread_9 (by decide) ?_
  refine lv_istore (lv' := [(4, .int 0), (3, .int (nI (cmV n))), (2, .int 0), (1, .int 0), (0, .ref (ad 16))]) hx hb dX1_leastBySpread_10 hl (by decide) rfl (fun ls hl => ?_)
  have L12 : ∀ (k12 : Nat) (q : Nat) (ls0 : Int32) (la : Int32) (g1 : Nat → Int32) (k1 : Nat → Int32) (h1 : Nat → Int32) (w1 : Nat → Nat → Int32), q + k12 = cmV n → lp (bpF n d) q k12 (ls0, la, g1, k1, h1, w1) = bpV n d (go, ke, ha, wy) → ∀ (H : Heap) (locs : List Loc), Wd D 29 ad (cC cyI cO ad n d md g1 k1 h1 w1 ab be sr) A s.heap H locs → ∀ ls : Array Slot, lv_has ls 6 [(4, .int (nI q)), (0, .ref (ad 16)), (1, .int ls0), (2, .int la), (3, .int (nI (cmV n)))] → W p l e ({ frames := 4, cells := 0, slots := 0, locals := 94 } : Room) s m args below meth c H locs 0 0 (MQ below (uQ D 29 ad (cC cyI cO ad n d md ((bpV n d (go, ke, ha, wy)).2.2.1) ((bpV n d (go, ke, ha, wy)).2.2.2.1) ((bpV n d (go, ke, ha, wy)).2.2.2.2.1) ((bpV n d (go, ke, ha, wy)).2.2.2.2.2) ab be sr) (some (.int ((bpV n d (go, ke, ha, wy)).1))) A) args s 0 0 A) (F0 m 12 ls []) := by
    intro k12
    induction k12 with
    | zero =>
      intro q ls0 la g1 k1 h1 w1 hq r12 H locs hW ls hl
      refine lv_iload hx hb dX1_leastBySpread_12 (lv_at hl 0 rfl) ?_
      refine lv_iload_n hx hb dX1_leastBySpread_14 rfl (lv_at hl 4 rfl) ?_
      refine lv_icmp_ge (tgt := 60) hx hb dX1_leastBySpread_15 (by decide) (fun _ => ?_) (fun c9 => absurd (nI_le (by omega) (by omega)) c9)
      refine lv_iload_n hx hb dX1_leastBySpread_60 rfl (lv_at hl 2 rfl) ?_
      exact u_iret C hr hW dX1_leastBySpread_61 (by rw [← r12]; rfl) (by rw [← r12]; rfl)
    | succ k12 ih12 =>
      intro q ls0 la g1 k1 h1 w1 hq r12 H locs hW ls hl
      refine lv_iload hx hb dX1_leastBySpread_12 (lv_at hl 0 rfl) ?_
      refine lv_iload_n hx hb dX1_leastBySpread_14 rfl (lv_at hl 4 rfl) ?_
      refine lv_icmp_ge (tgt := 60) hx hb dX1_leastBySpread_15 (by decide) (fun c9 => absurd c9 (nI_ge (by omega) (by omega))) (fun _ => ?_)
      refine lv_aload_n hx hb dX1_leastBySpread_18 rfl (lv_at hl 1 rfl) ?_
      refine lv_iload hx hb dX1_leastBySpread_19 (lv_at hl 0 rfl) ?_
      refine u_callV (cf' := cC cyI cO ad n d md (rdG n q g1 k1 h1) (rdK n q k1 h1) (rdH n q k1 h1) (lyV n d (Gn n q k1 h1) (Kn n q k1 h1) w1) ab be sr) (As := [.int (nI q)]) (rest := []) (st1 := []) C hW (c_X1_lay l D cyI cO cyZ ad fa n d md g1 k1 h1 w1 ab be sr q (by omega) (by omega) (by omega)) mv_yX1_lay mw_401 rfl ⟨rfl, rfl, Nat.le_of_ble_eq_true rfl, Nat.le_of_ble_eq_true rfl⟩ (by decide) cC_16 rfl rfl hl (Nat.le_of_ble_eq_true rfl) rfl rfl dX1_leastBySpread_21 (fun H locs hW => ?_)
      refine lv_aload_n hx hb dX1_leastBySpread_24 rfl (lv_at hl 1 rfl) ?_
      refine u_get C hW inlX1 (by decide) cC_16 rfl 0 (by decide) mw_47 rfl dX1_leastBySpread_25 ?_
      refine lv_aload_n hx hb dX1_leastBySpread_28 rfl (lv_at hl 1 rfl) ?_
      refine u_get C hW inlX1 (by decide) cC_16 rfl 4 (by decide) mw_44 rfl dX1_leastBySpread_29 ?_
      refine u_callV (cf' := cC cyI cO ad n d md (rdG n q g1 k1 h1) (rdK n q k1 h1) (rdH n q k1 h1) (lyV n d (Gn n q k1 h1) (Kn n q k1 h1) w1) ab be sr) (As := [.ref (ad 20)]) (rest := []) (st1 := [.int (suV n (lyV n d (Gn n q k1 h1) (Kn n q k1 h1) w1))]) C hW (c_sumOfW l D cyI cO cyZ ad fa n d md (rdG n q g1 k1 h1) (rdK n q k1 h1) (rdH n q k1 h1) (lyV n d (Gn n q k1 h1) (Kn n q k1 h1) w1) ab be sr  (by omega)) mv_yX3_sumOf mw_407 rfl ⟨rfl, rfl, Nat.le_of_ble_eq_true rfl, Nat.le_of_ble_eq_true rfl⟩ (by decide) cC_1 rfl rfl hl (Nat.le_of_ble_eq_true rfl) rfl rfl dX1_leastBySpread_32 (fun H locs hW => ?_)
      refine lv_istore (lv' := [(5, .int (suV n (lyV n d (Gn n q k1 h1) (Kn n q k1 h1) w1))), (4, .int (nI q)), (0, .ref (ad 16)), (1, .int ls0), (2, .int la), (3, .int (nI (cmV n)))]) hx hb dX1_leastBySpread_35 hl (by decide) rfl (fun ls hl => ?_)
      refine lv_iload hx hb dX1_leastBySpread_37 (lv_at hl 1 rfl) ?_
      refine lv_if_eq (tgt := 48) hx hb dX1_leastBySpread_39 (by decide) (fun c39_1 => ?_) (fun c39_1 => ?_)
      · skip
        refine lv_iload hx hb dX1_leastBySpread_48 (lv_at hl 1 rfl) ?_
        refine lv_istore_n (lv' := [(1, .int (nI q)), (5, .int (suV n (lyV n d (Gn n q k1 h1) (Kn n q k1 h1) w1))), (4, .int (nI q)), (0, .ref (ad 16)), (2, .int la), (3, .int (nI (cmV n)))]) hx hb dX1_leastBySpread_50 rfl hl (by decide) rfl (fun ls hl => ?_)
        refine lv_iload hx hb dX1_leastBySpread_51 (lv_at hl 1 rfl) ?_
        refine lv_istore_n (lv' := [(2, .int (suV n (lyV n d (Gn n q k1 h1) (Kn n q k1 h1) w1))), (1, .int (nI q)), (5, .int (suV n (lyV n d (Gn n q k1 h1) (Kn n q k1 h1) w1))), (4, .int (nI q)), (0, .ref (ad 16)), (3, .int (nI (cmV n)))]) hx hb dX1_leastBySpread_53 rfl hl (by decide) rfl (fun ls hl => ?_)
        refine lv_iinc (v := nI (q + 1)) (lv' := [(4, .int (nI (q + 1))), (2, .int (suV n (lyV n d (Gn n q k1 h1) (Kn n q k1 h1) w1))), (1, .int (nI q)), (5, .int (suV n (lyV n d (Gn n q k1 h1) (Kn n q k1 h1) w1))), (0, .ref (ad 16)), (3, .int (nI (cmV n)))]) hx hb dX1_leastBySpread_54 hl (k := 3) rfl (nI_1 _) (by decide) rfl (fun ls hl => ?_)
        refine lv_goto (tgt := 12) hx hb dX1_leastBySpread_57 (by decide) ?_
        exact ih12  (q + 1) (nI q) (suV n (lyV n d (Gn n q k1 h1) (Kn n q k1 h1) w1)) (rdG n q g1 k1 h1) (rdK n q k1 h1) (rdH n q k1 h1) (lyV n d (Gn n q k1 h1) (Kn n q k1 h1) w1) (by omega) (by refine Eq.trans (congrArg (lp (bpF n d) (q + 1) k12) (Eq.symm ?_)) r12; exact (if_pos c39_1)) H locs hW ls (lv_sub hl [0, 4, 2, 1, 5] rfl)
      · skip
        refine lv_iload hx hb dX1_leastBySpread_42 (lv_at hl 0 rfl) ?_
        refine lv_iload_n hx hb dX1_leastBySpread_44 rfl (lv_at hl 4 rfl) ?_
        refine lv_icmp_ge (tgt := 54) hx hb dX1_leastBySpread_45 (by decide) (fun c45_2 => ?_) (fun c45_2 => ?_)
        · skip
          refine lv_iinc (v := nI (q + 1)) (lv' := [(4, .int (nI (q + 1))), (5, .int (suV n (lyV n d (Gn n q k1 h1) (Kn n q k1 h1) w1))), (0, .ref (ad 16)), (1, .int ls0), (2, .int la), (3, .int (nI (cmV n)))]) hx hb dX1_leastBySpread_54 hl (k := 1) rfl (nI_1 _) (by decide) rfl (fun ls hl => ?_)
          refine lv_goto (tgt := 12) hx hb dX1_leastBySpread_57 (by decide) ?_
          exact ih12  (q + 1) ls0 la (rdG n q g1 k1 h1) (rdK n q k1 h1) (rdH n q k1 h1) (lyV n d (Gn n q k1 h1) (Kn n q k1 h1) w1) (by omega) (by refine Eq.trans (congrArg (lp (bpF n d) (q + 1) k12) (Eq.symm ?_)) r12; exact ((if_neg c39_1).trans (if_pos c45_2))) H locs hW ls (lv_sub hl [0, 2, 3, 4, 5] rfl)
        · skip
          refine lv_iload hx hb dX1_leastBySpread_48 (lv_at hl 1 rfl) ?_
          refine lv_istore_n (lv' := [(1, .int (nI q)), (5, .int (suV n (lyV n d (Gn n q k1 h1) (Kn n q k1 h1) w1))), (4, .int (nI q)), (0, .ref (ad 16)), (2, .int la), (3, .int (nI (cmV n)))]) hx hb dX1_leastBySpread_50 rfl hl (by decide) rfl (fun ls hl => ?_)
          refine lv_iload hx hb dX1_leastBySpread_51 (lv_at hl 1 rfl) ?_
          refine lv_istore_n (lv' := [(2, .int (suV n (lyV n d (Gn n q k1 h1) (Kn n q k1 h1) w1))), (1, .int (nI q)), (5, .int (suV n (lyV n d (Gn n q k1 h1) (Kn n q k1 h1) w1))), (4, .int (nI q)), (0, .ref (ad 16)), (3, .int (nI (cmV n)))]) hx hb dX1_leastBySpread_53 rfl hl (by decide) rfl (fun ls hl => ?_)
          refine lv_iinc (v := nI (q + 1)) (lv' := [(4, .int (nI (q + 1))), (2, .int (suV n (lyV n d (Gn n q k1 h1) (Kn n q k1 h1) w1))), (1, .int (nI q)), (5, .int (suV n (lyV n d (Gn n q k1 h1) (Kn n q k1 h1) w1))), (0, .ref (ad 16)), (3, .int (nI (cmV n)))]) hx hb dX1_leastBySpread_54 hl (k := 3) rfl (nI_1 _) (by decide) rfl (fun ls hl => ?_)
          refine lv_goto (tgt := 12) hx hb dX1_leastBySpread_57 (by decide) ?_
          exact ih12  (q + 1) (nI q) (suV n (lyV n d (Gn n q k1 h1) (Kn n q k1 h1) w1)) (rdG n q g1 k1 h1) (rdK n q k1 h1) (rdH n q k1 h1) (lyV n d (Gn n q k1 h1) (Kn n q k1 h1) w1) (by omega) (by refine Eq.trans (congrArg (lp (bpF n d) (q + 1) k12) (Eq.symm ?_)) r12; exact ((if_neg c39_1).trans (if_neg c45_2))) H locs hW ls (lv_sub hl [0, 4, 2, 1, 5] rfl)
  exact L12 (cmV n) 0 0 0 go ke ha wy (by omega) rfl H locs hW ls (lv_sub hl [0, 4, 3, 2, 1] rfl)
