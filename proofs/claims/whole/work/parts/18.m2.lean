set_option maxHeartbeats 4000000 in
set_option maxRecDepth 100000 in
theorem c_X5_codeMany (l : Launch) (D : va_G) (cyI cO cyZ : ClassId) (ad : Nat → Nat) (fa : Nat) (n : Nat) (t md jd jn wm od : Nat → Int32) (bs : Int32) (ab be hh : Int64)  (hn : n ≤ 6) (h2 : 2 ≤ n) : Ct l yX5_codeMany (Cond.code yX5_codeMany cX5_codeMany 3 (some .int) :: wsL_law) ({ frames := 0, cells := 0, slots := 0, locals := 0 } : Room) D (ty3 cyI cO cyZ) 7 ad fa [.ref (ad 0)] (cM cyI cyZ ad n t md jd jn wm od bs ab be hh) (cM cyI cyZ ad n t md jd jn wm od bs ab be hh) (some (.int (nI (cmV n)))) := by
  refine Ct.of (by decide) (Nat.le_of_ble_eq_true rfl) ?_
  intro p e s m args below meth c A C hr H locs hW ls hl
  have C : Cx p s m args meth c cX5_codeMany 3 RX5 D (ty3 cyI cO cyZ) fa A := C
  have hx := C.1
  have hb := C.2.1
  have hl : lv_has ls 3 [(0, .ref (ad 0))] := hl
  refine lv_iconst (v := 1) hx hb dX5_codeMany_0 (by decide) ?_
  refine lv_istore_n (lv' := [(1, .int 1), (0, .ref (ad 0))]) hx hb dX5_codeMany_1 rfl hl (by decide) rfl (fun ls hl => ?_)
  refine lv_iconst (v := 2) hx hb dX5_codeMany_2 (by decide) ?_
  refine lv_istore_n (lv' := [(2, .int 2), (1, .int 1), (0, .ref (ad 0))]) hx hb dX5_codeMany_3 rfl hl (by decide) rfl (fun ls hl => ?_)
  have L4 : ∀ (k4 : Nat) (q : Nat) (mm : Nat), q + k4 = n → lp (fun m _ => m * n) q k4 mm = cmV n → ∀ (H : Heap) (locs : List Loc), Wd D 7 ad (cM cyI cyZ ad n t md jd jn wm od bs ab be hh) A s.heap H locs → ∀ ls : Array Slot, lv_has ls 3 [(2, .int (nI q)), (0, .ref (ad 0)), (1, .int (nI mm))] → W p l e ({ frames := 0, cells := 0, slots := 0, locals := 0 } : Room) s m args below meth c H locs 0 0 (MQ below (uQ D 7 ad (cM cyI cyZ ad n t md jd jn wm od bs ab be hh) (some (.int (nI (cmV n)))) A) args s 0 0 A) (F0 m 4 ls []) := by
    intro k4
    induction k4 with
    | zero =>
      intro q mm hq r4 H locs hW ls hl
      refine lv_iload_n hx hb dX5_codeMany_4 rfl (lv_at hl 0 rfl) ?_
      refine lv_aload_n hx hb dX5_codeMany_5 rfl (lv_at hl 1 rfl) ?_
      refine u_get C hW inlX5 (by decide) cM_0 rfl 0 (by decide) mw_71 rfl dX5_codeMany_6 ?_
      refine lv_icmp_ge (tgt := 25) hx hb dX5_codeMany_9 (by decide) (fun _ => ?_) (fun c9 => absurd (nI_le (by omega) (by omega)) c9)
      refine lv_iload_n hx hb dX5_codeMany_25 rfl (lv_at hl 2 rfl) ?_
      exact u_iret C hr hW dX5_codeMany_26 (by rw [← r4]; rfl) rfl
    | succ k4 ih4 =>
      intro q mm hq r4 H locs hW ls hl
      refine lv_iload_n hx hb dX5_codeMany_4 rfl (lv_at hl 0 rfl) ?_
      refine lv_aload_n hx hb dX5_codeMany_5 rfl (lv_at hl 1 rfl) ?_
      refine u_get C hW inlX5 (by decide) cM_0 rfl 0 (by decide) mw_71 rfl dX5_codeMany_6 ?_
      refine lv_icmp_ge (tgt := 25) hx hb dX5_codeMany_9 (by decide) (fun c9 => absurd c9 (nI_ge (by omega) (by omega))) (fun _ => ?_)
      refine lv_iload_n hx hb dX5_codeMany_12 rfl (lv_at hl 2 rfl) ?_
      refine lv_aload_n hx hb dX5_codeMany_13 rfl (lv_at hl 1 rfl) ?_
      refine u_get C hW inlX5 (by decide) cM_0 rfl 0 (by decide) mw_71 rfl dX5_codeMany_14 ?_
      refine lv_imul hx hb dX5_codeMany_17 ?_
      refine u_top (show (nI mm) * (nI n) = nI (mm * n) from pk_mul mm n) ?_
      refine lv_istore_n (lv' := [(1, .int (nI (mm * n))), (2, .int (nI q)), (0, .ref (ad 0))]) hx hb dX5_codeMany_18 rfl hl (by decide) rfl (fun ls hl => ?_)
      refine lv_iinc (v := nI (q + 1)) (lv' := [(2, .int (nI (q + 1))), (1, .int (nI (mm * n))), (0, .ref (ad 0))]) hx hb dX5_codeMany_19 hl (k := 1) rfl (nI_1 _) (by decide) rfl (fun ls hl => ?_)
      refine lv_goto (tgt := 4) hx hb dX5_codeMany_22 (by decide) ?_
      exact ih4  (q + 1) (mm * n) (by omega) r4 H locs hW ls (lv_sub hl [0, 2, 1] rfl)
  exact L4 (n - 2) 2 1 (by omega) (lp_cm n (n - 2) 2 0 1) H locs hW ls (lv_sub hl [0, 2, 1] rfl)
set_option maxHeartbeats 4000000 in
set_option maxRecDepth 100000 in
theorem c_X5_codes (l : Launch) (D : va_G) (cyI cO cyZ : ClassId) (ad : Nat → Nat) (fa : Nat) (n : Nat) (t md jd jn wm od : Nat → Int32) (bs : Int32) (ab be hh : Int64)  (hn : n ≤ 6) (h2 : 2 ≤ n) : Ct l yX5_codes (Cond.code yX5_codes cX5_codes 1 (some .int) :: wsL_law) ({ frames := 1, cells := 0, slots := 0, locals := 22 } : Room) D (ty3 cyI cO cyZ) 7 ad fa [.ref (ad 0)] (cM cyI cyZ ad n t md jd jn wm od bs ab be hh) (cM cyI cyZ ad n t md jd jn wm od bs ab be hh) (some (.int (nI (cmV n)))) := by
  refine Ct.of (by decide) (Nat.le_of_ble_eq_true rfl) ?_
  intro p e s m args below meth c A C hr H locs hW ls hl
  have C : Cx p s m args meth c cX5_codes 1 RX5 D (ty3 cyI cO cyZ) fa A := C
  have hx := C.1
  have hb := C.2.1
  have hl : lv_has ls 1 [(0, .ref (ad 0))] := hl
  refine lv_aload_n hx hb dX5_codes_0 rfl (lv_at hl 0 rfl) ?_
  refine u_callV (cf' := cM cyI cyZ ad n t md jd jn wm od bs ab be hh) (As := []) (rest := []) (st1 := [.int (nI (cmV n))]) C hW (c_X5_codeMany l D cyI cO cyZ ad fa n t md jd jn wm od bs ab be hh  (by omega) (by omega)) mv_yX5_codeMany mw_282 rfl ⟨rfl, rfl, Nat.le_of_ble_eq_true rfl, Nat.le_of_ble_eq_true rfl⟩ (by decide) cM_0 rfl rfl hl (Nat.le_of_ble_eq_true rfl) rfl rfl dX5_codes_1 (fun H locs hW => ?_)
  exact u_iret C hr hW dX5_codes_4 rfl rfl
set_option maxHeartbeats 4000000 in
set_option maxRecDepth 100000 in
theorem c_X5_isCode (l : Launch) (D : va_G) (cyI cO cyZ : ClassId) (ad : Nat → Nat) (fa : Nat) (n : Nat) (t md jd jn wm od : Nat → Int32) (bs : Int32) (ab be hh : Int64) (x : Int32) (hn : n ≤ 6) (h2 : 2 ≤ n) : Ct l yX5_isCode (Cond.code yX5_isCode cX5_isCode 2 (some .boolean) :: wsL_law) ({ frames := 1, cells := 0, slots := 0, locals := 22 } : Room) D (ty3 cyI cO cyZ) 7 ad fa [.ref (ad 0), .int x] (cM cyI cyZ ad n t md jd jn wm od bs ab be hh) (cM cyI cyZ ad n t md jd jn wm od bs ab be hh) (some (.int (icM n x))) := by
  refine Ct.of (by decide) (Nat.le_of_ble_eq_true rfl) ?_
  intro p e s m args below meth c A C hr H locs hW ls hl
  have C : Cx p s m args meth c cX5_isCode 2 RX5 D (ty3 cyI cO cyZ) fa A := C
  have hx := C.1
  have hb := C.2.1
  have hl : lv_has ls 2 [(0, .ref (ad 0)), (1, .int x)] := hl
  have hcm := cmV_le hn
  have hcp := cmV_pos h2 hn
  refine lv_iload_n hx hb dX5_isCode_0 rfl (lv_at hl 1 rfl) ?_
  refine lv_iconst (v := 0) hx hb dX5_isCode_1 (by decide) ?_
  refine lv_aload_n hx hb dX5_isCode_2 rfl (lv_at hl 0 rfl) ?_
  refine u_callV (cf' := cM cyI cyZ ad n t md jd jn wm od bs ab be hh) (As := []) (rest := [.int 0, .int x]) (st1 := [.int (nI (cmV n)), .int 0, .int x]) C hW (c_X5_codeMany l D cyI cO cyZ ad fa n t md jd jn wm od bs ab be hh  (by omega) (by omega)) mv_yX5_codeMany mw_282 rfl ⟨rfl, rfl, Nat.le_of_ble_eq_true rfl, Nat.le_of_ble_eq_true rfl⟩ (by decide) cM_0 rfl rfl hl (Nat.le_of_ble_eq_true rfl) rfl rfl dX5_isCode_3 (fun H locs hW => ?_)
  refine lv_iconst (v := 1) hx hb dX5_isCode_6 (by decide) ?_
  refine lv_isub hx hb dX5_isCode_7 ?_
  refine u_top (show (nI (cmV n)) - 1 = nI ((cmV n) - 1) from pk_sub (a := (cmV n)) (b := 1) (by omega)) ?_
  refine u_callS (cf' := cM cyI cyZ ad n t md jd jn wm od bs ab be hh) (As := [.int x, .int 0, .int (nI ((cmV n) - 1))]) (rest := []) (st1 := [.int (mnV x 0 (nI ((cmV n) - 1)))]) C hW (c_X5_in l D cyI cO cyZ ad fa n t md jd jn wm od bs ab be hh x 0 (nI ((cmV n) - 1)) ) ms_yX5_in mw_91 rfl ⟨rfl, rfl, Nat.le_of_ble_eq_true rfl, Nat.le_of_ble_eq_true rfl⟩ hl (Nat.le_of_ble_eq_true rfl) rfl rfl dX5_isCode_8 (fun H locs hW => ?_)
  exact u_zret C hr hW dX5_isCode_11 (mn_01 _ _ _) rfl rfl
set_option maxHeartbeats 4000000 in
set_option maxRecDepth 100000 in
theorem c_X5_join (l : Launch) (D : va_G) (cyI cO cyZ : ClassId) (ad : Nat → Nat) (fa : Nat) (n : Nat) (t md jd jn wm od : Nat → Int32) (bs : Int32) (ab be hh : Int64) (u v : Nat) (hu : u < 6) (hv : v < 6) : Ct l yX5_join (Cond.code yX5_join cX5_join 3 none :: wsL_law) ({ frames := 0, cells := 0, slots := 0, locals := 0 } : Room) D (ty3 cyI cO cyZ) 7 ad fa [.ref (ad 0), .int (nI u), .int (nI v)] (cM cyI cyZ ad n t md jd jn wm od bs ab be hh) (cM cyI cyZ ad n t md (jdU jd u v) (jnU jn u v) wm od bs ab be hh) (none) := by
  refine Ct.of (by decide) (Nat.le_of_ble_eq_true rfl) ?_
  intro p e s m args below meth c A C hr H locs hW ls hl
  have C : Cx p s m args meth c cX5_join 3 RX5 D (ty3 cyI cO cyZ) fa A := C
  have hx := C.1
  have hb := C.2.1
  have hl : lv_has ls 3 [(0, .ref (ad 0)), (1, .int (nI u)), (2, .int (nI v))] := hl
  refine lv_aload_n hx hb dX5_join_0 rfl (lv_at hl 0 rfl) ?_
  refine u_get C hW inlX5 (by decide) cM_0 rfl 4 (by decide) mw_75 rfl dX5_join_1 ?_
  refine lv_bipush (v := 6) hx hb dX5_join_4 (by decide) ?_
  refine lv_iload_n hx hb dX5_join_6 rfl (lv_at hl 1 rfl) ?_
  refine lv_imul hx hb dX5_join_7 ?_
  refine u_top (show 6 * (nI u) = nI (6 * u) from pk_mul 6 u) ?_
  refine lv_iload_n hx hb dX5_join_8 rfl (lv_at hl 2 rfl) ?_
  refine lv_iadd hx hb dX5_join_9 ?_
  refine u_top (show (nI (6 * u)) + (nI v) = nI ((6 * u) + v) from nI_add (6 * u) v) ?_
  refine lv_iconst (v := 1) hx hb dX5_join_10 (by decide) ?_
  refine u_zast (cf' := cM cyI cyZ ad n t md (upd jd ((6 * u) + v) 1) jn wm od bs ab be hh) C hW (by decide) cM_3 2 rfl ((6 * u) + v) rfl (by omega) (by decide) rfl cM_s3 dX5_join_11 (fun H locs hW => ?_)
  refine lv_aload_n hx hb dX5_join_12 rfl (lv_at hl 0 rfl) ?_
  refine u_get C hW inlX5 (by decide) cM_0 rfl 4 (by decide) mw_75 rfl dX5_join_13 ?_
  refine lv_bipush (v := 6) hx hb dX5_join_16 (by decide) ?_
  refine lv_iload_n hx hb dX5_join_18 rfl (lv_at hl 2 rfl) ?_
  refine lv_imul hx hb dX5_join_19 ?_
  refine u_top (show 6 * (nI v) = nI (6 * v) from pk_mul 6 v) ?_
  refine lv_iload_n hx hb dX5_join_20 rfl (lv_at hl 1 rfl) ?_
  refine lv_iadd hx hb dX5_join_21 ?_
  refine u_top (show (nI (6 * v)) + (nI u) = nI ((6 * v) + u) from nI_add (6 * v) u) ?_
  refine lv_iconst (v := 1) hx hb dX5_join_22 (by decide) ?_
  refine u_zast (cf' := cM cyI cyZ ad n t md (upd (upd jd ((6 * u) + v) 1) ((6 * v) + u) 1) jn wm od bs ab be hh) C hW (by decide) cM_3 2 rfl ((6 * v) + u) rfl (by omega) (by decide) rfl cM_s3 dX5_join_23 (fun H locs hW => ?_)
  refine lv_aload_n hx hb dX5_join_24 rfl (lv_at hl 0 rfl) ?_
  refine u_get C hW inlX5 (by decide) cM_0 rfl 5 (by decide) mw_76 rfl dX5_join_25 ?_
  refine lv_iload_n hx hb dX5_join_28 rfl (lv_at hl 1 rfl) ?_
  refine lv_dup2_11 hx hb dX5_join_29 rfl rfl ?_
  refine u_iald C hW (by decide) cM_4 0 rfl u rfl (by omega) (by decide) dX5_join_30 ?_
  refine lv_iconst (v := 1) hx hb dX5_join_31 (by decide) ?_
  refine lv_isub hx hb dX5_join_32 ?_
  refine u_iast (cf' := cM cyI cyZ ad n t md (upd (upd jd ((6 * u) + v) 1) ((6 * v) + u) 1) (upd jn u ((jn u) - 1)) wm od bs ab be hh) C hW (by decide) cM_4 0 rfl u rfl (by omega) (by decide) cM_s4 dX5_join_33 (fun H locs hW => ?_)
  refine lv_aload_n hx hb dX5_join_34 rfl (lv_at hl 0 rfl) ?_
  refine u_get C hW inlX5 (by decide) cM_0 rfl 5 (by decide) mw_76 rfl dX5_join_35 ?_
  refine lv_iload_n hx hb dX5_join_38 rfl (lv_at hl 2 rfl) ?_
  refine lv_dup2_11 hx hb dX5_join_39 rfl rfl ?_
  refine u_iald C hW (by decide) cM_4 0 rfl v rfl (by omega) (by decide) dX5_join_40 ?_
  refine lv_iconst (v := 1) hx hb dX5_join_41 (by decide) ?_
  refine lv_isub hx hb dX5_join_42 ?_
  refine u_iast (cf' := cM cyI cyZ ad n t md (upd (upd jd ((6 * u) + v) 1) ((6 * v) + u) 1) (upd (upd jn u ((jn u) - 1)) v ((upd jn u ((jn u) - 1) v) - 1)) wm od bs ab be hh) C hW (by decide) cM_4 0 rfl v rfl (by omega) (by decide) cM_s4 dX5_join_43 (fun H locs hW => ?_)
  exact u_vret C hr hW dX5_join_44 rfl
set_option maxHeartbeats 4000000 in
set_option maxRecDepth 100000 in
theorem c_X5_leaf (l : Launch) (D : va_G) (cyI cO cyZ : ClassId) (ad : Nat → Nat) (fa : Nat) (n : Nat) (t md jd jn wm od : Nat → Int32) (bs : Int32) (ab be hh : Int64)  (hlf : lfV jn < 6) : Ct l yX5_leaf (Cond.code yX5_leaf cX5_leaf 2 (some .int) :: wsL_law) ({ frames := 0, cells := 0, slots := 0, locals := 0 } : Room) D (ty3 cyI cO cyZ) 7 ad fa [.ref (ad 0)] (cM cyI cyZ ad n t md jd jn wm od bs ab be hh) (cM cyI cyZ ad n t md jd jn wm od bs ab be hh) (some (.int (nI (lfV jn)))) := by
  refine Ct.of (by decide) (Nat.le_of_ble_eq_true rfl) ?_
  intro p e s m args below meth c A C hr H locs hW ls hl
  have C : Cx p s m args meth c cX5_leaf 2 RX5 D (ty3 cyI cO cyZ) fa A := C
  have hx := C.1
  have hb := C.2.1
  have hl : lv_has ls 2 [(0, .ref (ad 0))] := hl
  refine lv_iconst (v := 0) hx hb dX5_leaf_0 (by decide) ?_
  refine lv_istore_n (lv' := [(1, .int 0), (0, .ref (ad 0))]) hx hb dX5_leaf_1 rfl hl (by decide) rfl (fun ls hl => ?_)
  have L2 : ∀ (k2 : Nat) (q : Nat), q + k2 = 6 → tlF jn k2 q = lfV jn → ∀ (H : Heap) (locs : List Loc), Wd D 7 ad (cM cyI cyZ ad n t md jd jn wm od bs ab be hh) A s.heap H locs → ∀ ls : Array Slot, lv_has ls 2 [(0, .ref (ad 0)), (1, .int (nI q))] → W p l e ({ frames := 0, cells := 0, slots := 0, locals := 0 } : Room) s m args below meth c H locs 0 0 (MQ below (uQ D 7 ad (cM cyI cyZ ad n t md jd jn wm od bs ab be hh) (some (.int (nI (lfV jn)))) A) args s 0 0 A) (F0 m 2 ls []) := by
    intro k2
    induction k2 with
    | zero =>
      intro q hq r2 H locs hW ls hl
      exact absurd (show lfV jn = q from r2.symm) (by omega)
    | succ k2 ih2 =>
      intro q hq r2 H locs hW ls hl
      refine lv_aload_n hx hb dX5_leaf_2 rfl (lv_at hl 0 rfl) ?_
      refine u_get C hW inlX5 (by decide) cM_0 rfl 5 (by decide) mw_76 rfl dX5_leaf_3 ?_
      refine lv_iload_n hx hb dX5_leaf_6 rfl (lv_at hl 1 rfl) ?_
      refine u_iald C hW (by decide) cM_4 0 rfl q rfl (by omega) (by decide) dX5_leaf_7 ?_
      refine lv_iconst (v := 1) hx hb dX5_leaf_8 (by decide) ?_
      refine lv_icmp_eq (tgt := 18) hx hb dX5_leaf_9 (by decide) (fun c9_1 => ?_) (fun c9_1 => ?_)
      · skip
        refine lv_iload_n hx hb dX5_leaf_18 rfl (lv_at hl 1 rfl) ?_
        exact u_iret C hr hW dX5_leaf_19 (by have h9 := r2; simp only [tlF, if_pos c9_1] at h9; rw [← h9]) rfl
      · skip
        refine lv_iinc (v := nI (q + 1)) (lv' := [(1, .int (nI (q + 1))), (0, .ref (ad 0))]) hx hb dX5_leaf_12 hl (k := 1) rfl (nI_1 _) (by decide) rfl (fun ls hl => ?_)
        refine lv_goto (tgt := 2) hx hb dX5_leaf_15 (by decide) ?_
        exact ih2  (q + 1) (by omega) (by have h9 := r2; simp only [tlF, if_neg c9_1] at h9; exact h9) H locs hW ls (lv_sub hl [1, 0] rfl)
  exact L2 6 0 (by omega) rfl H locs hW ls (lv_sub hl [1, 0] rfl)
set_option maxHeartbeats 4000000 in
set_option maxRecDepth 100000 in
theorem c_X5_lay (l : Launch) (D : va_G) (cyI cO cyZ : ClassId) (ad : Nat → Nat) (fa : Nat) (n : Nat) (t md jd jn wm od : Nat → Int32) (bs : Int32) (ab be hh : Int64) (cd : Nat) (hn : n ≤ 6) (h2 : 2 ≤ n) (hcd : cd < cmV n) (hL : LfOK n cd jn) : Ct l yX5_lay (Cond.code yX5_lay cX5_lay 6 none :: wsL_law) ({ frames := 1, cells := 0, slots := 0, locals := 22 } : Room) D (ty3 cyI cO cyZ) 7 ad fa [.ref (ad 0), .int (nI cd)] (cM cyI cyZ ad n t md jd jn wm od bs ab be hh) (cM cyI cyZ ad n t md (mlD n cd jd jn) (mlN n cd jn) wm od bs ab be hh) (none) := by
  refine Ct.of (by decide) (Nat.le_of_ble_eq_true rfl) ?_
  intro p e s m args below meth c A C hr H locs hW ls hl
  have C : Cx p s m args meth c cX5_lay 6 RX5 D (ty3 cyI cO cyZ) fa A := C
  have hx := C.1
  have hb := C.2.1
  have hl : lv_has ls 6 [(0, .ref (ad 0)), (1, .int (nI cd))] := hl
  have hcm := cmV_le hn
  have hcp := cmV_pos h2 hn
  have hla := hL.1 (n - 2) (Nat.le_refl _)
  have hlb := hL.2
  refine lv_iconst (v := 0) hx hb dX5_lay_0 (by decide) ?_
  refine lv_istore_n (lv' := [(2, .int 0), (0, .ref (ad 0)), (1, .int (nI cd))]) hx hb dX5_lay_1 rfl hl (by decide) rfl (fun ls hl => ?_)
  have L2 : ∀ (k2 : Nat) (q : Nat) (f : Nat → Int32), q + k2 = 36 → lp (fun g k => upd g k 0) q k2 f = z36 jd → ∀ (H : Heap) (locs : List Loc), Wd D 7 ad (cM cyI cyZ ad n t md f jn wm od bs ab be hh) A s.heap H locs → ∀ ls : Array Slot, lv_has ls 6 [(2, .int (nI q)), (0, .ref (ad 0)), (1, .int (nI cd))] → W p l e ({ frames := 1, cells := 0, slots := 0, locals := 22 } : Room) s m args below meth c H locs 0 0 (MQ below (uQ D 7 ad (cM cyI cyZ ad n t md (mlD n cd jd jn) (mlN n cd jn) wm od bs ab be hh) (none) A) args s 0 0 A) (F0 m 2 ls []) := by
    intro k2
    induction k2 with
    | zero =>
      intro q f hq r2 H locs hW ls hl
      refine lv_iload_n hx hb dX5_lay_2 rfl (lv_at hl 0 rfl) ?_
      refine lv_bipush (v := 36) hx hb dX5_lay_3 (by decide) ?_
      refine lv_icmp_ge (tgt := 21) hx hb dX5_lay_5 (by decide) (fun _ => ?_) (fun c9 => absurd (show nI 36 ≤ nI q from nI_le (by omega) (by omega)) c9)
      refine lv_iconst (v := 0) hx hb dX5_lay_21 (by decide) ?_
      refine lv_istore_n (lv' := [(2, .int 0), (0, .ref (ad 0)), (1, .int (nI cd))]) hx hb dX5_lay_22 rfl hl (by decide) rfl (fun ls hl => ?_)
      have h9f : f = z36 jd := r2
      subst h9f
      have L23 : ∀ (k23 : Nat) (q : Nat) (g : Nat → Int32), q + k23 = n → lp (fun g v => upd g v 1) q k23 g = mj1 n jn → ∀ (H : Heap) (locs : List Loc), Wd D 7 ad (cM cyI cyZ ad n t md (z36 jd) g wm od bs ab be hh) A s.heap H locs → ∀ ls : Array Slot, lv_has ls 6 [(2, .int (nI q)), (0, .ref (ad 0)), (1, .int (nI cd))] → W p l e ({ frames := 1, cells := 0, slots := 0, locals := 22 } : Room) s m args below meth c H locs 0 0 (MQ below (uQ D 7 ad (cM cyI cyZ ad n t md (mlD n cd jd jn) (mlN n cd jn) wm od bs ab be hh) (none) A) args s 0 0 A) (F0 m 23 ls []) := by
        intro k23
        induction k23 with
        | zero =>
          intro q g hq r23 H locs hW ls hl
          refine lv_iload_n hx hb dX5_lay_23 rfl (lv_at hl 0 rfl) ?_
          refine lv_aload_n hx hb dX5_lay_24 rfl (lv_at hl 1 rfl) ?_
          refine u_get C hW inlX5 (by decide) cM_0 rfl 0 (by decide) mw_71 rfl dX5_lay_25 ?_
          refine lv_icmp_ge (tgt := 44) hx hb dX5_lay_28 (by decide) (fun _ => ?_) (fun c9 => absurd (nI_le (by omega) (by omega)) c9)
          refine lv_iload_n hx hb dX5_lay_44 rfl (lv_at hl 2 rfl) ?_
          refine lv_istore_n (lv' := [(2, .int (nI cd)), (0, .ref (ad 0)), (1, .int (nI cd))]) hx hb dX5_lay_45 rfl hl (by decide) rfl (fun ls hl => ?_)
          refine lv_iconst (v := 2) hx hb dX5_lay_46 (by decide) ?_
          refine lv_istore_n (lv' := [(3, .int 2), (2, .int (nI cd)), (0, .ref (ad 0)), (1, .int (nI cd))]) hx hb dX5_lay_47 rfl hl (by decide) rfl (fun ls hl => ?_)
          have L48 : ∀ (k48 : Nat) (q : Nat) (left : Nat) (g : Nat → Int32), q + k48 = n → mjC n k48 left g = mj0 n cd jn → left < 2 ^ 31 → ∀ (H : Heap) (locs : List Loc), Wd D 7 ad (cM cyI cyZ ad n t md (z36 jd) g wm od bs ab be hh) A s.heap H locs → ∀ ls : Array Slot, lv_has ls 6 [(3, .int (nI q)), (0, .ref (ad 0)), (1, .int (nI cd)), (2, .int (nI left))] → W p l e ({ frames := 1, cells := 0, slots := 0, locals := 22 } : Room) s m args below meth c H locs 0 0 (MQ below (uQ D 7 ad (cM cyI cyZ ad n t md (mlD n cd jd jn) (mlN n cd jn) wm od bs ab be hh) (none) A) args s 0 0 A) (F0 m 48 ls []) := by
            intro k48
            induction k48 with
            | zero =>
              intro q left g hq r48 hL1 H locs hW ls hl
              refine lv_iload_n hx hb dX5_lay_48 rfl (lv_at hl 0 rfl) ?_
              refine lv_aload_n hx hb dX5_lay_49 rfl (lv_at hl 1 rfl) ?_
              refine u_get C hW inlX5 (by decide) cM_0 rfl 0 (by decide) mw_71 rfl dX5_lay_50 ?_
              refine lv_icmp_ge (tgt := 84) hx hb dX5_lay_53 (by decide) (fun _ => ?_) (fun c9 => absurd (nI_le (by omega) (by omega)) c9)
              refine lv_aload_n hx hb dX5_lay_84 rfl (lv_at hl 1 rfl) ?_
              refine u_callV (cf' := cM cyI cyZ ad n t md (z36 jd) g wm od bs ab be hh) (As := []) (rest := []) (st1 := [.int (nI (cmV n))]) C hW (c_X5_codeMany l D cyI cO cyZ ad fa n t md (z36 jd) g wm od bs ab be hh  (by omega) (by omega)) mv_yX5_codeMany mw_282 rfl ⟨rfl, rfl, Nat.le_of_ble_eq_true rfl, Nat.le_of_ble_eq_true rfl⟩ (by decide) cM_0 rfl rfl hl (Nat.le_of_ble_eq_true rfl) rfl rfl dX5_lay_85 (fun H locs hW => ?_)
              refine u_top (show nI (cmV n) = nI (n ^ (n - 2 - 0)) from congrArg nI (cmV_pow h2 hn)) ?_
              refine lv_istore_n (lv' := [(3, .int (nI (n ^ (n - 2 - 0)))), (0, .ref (ad 0)), (1, .int (nI cd)), (2, .int (nI left))]) hx hb dX5_lay_88 rfl hl (by decide) rfl (fun ls hl => ?_)
              refine lv_iconst (v := 2) hx hb dX5_lay_89 (by decide) ?_
              refine lv_istore (lv' := [(4, .int 2), (3, .int (nI (n ^ (n - 2 - 0)))), (0, .ref (ad 0)), (1, .int (nI cd)), (2, .int (nI left))]) hx hb dX5_lay_90 hl (by decide) rfl (fun ls hl => ?_)
              have h9g : g = mj0 n cd jn := r48
              subst h9g
              have L92 : ∀ (k92 : Nat) (s0 : Nat), s0 + k92 = n - 2 → ∀ (H : Heap) (locs : List Loc), Wd D 7 ad (cM cyI cyZ ad n t md (mjd n cd (mj0 n cd jn) (z36 jd) s0) (mjq n cd (mj0 n cd jn) s0) wm od bs ab be hh) A s.heap H locs → ∀ ls : Array Slot, lv_has ls 6 [(0, .ref (ad 0)), (1, .int (nI cd)), (3, .int (nI (n ^ (n - 2 - s0)))), (4, .int (nI (s0 + 2)))] → W p l e ({ frames := 1, cells := 0, slots := 0, locals := 22 } : Room) s m args below meth c H locs 0 0 (MQ below (uQ D 7 ad (cM cyI cyZ ad n t md (mlD n cd jd jn) (mlN n cd jn) wm od bs ab be hh) (none) A) args s 0 0 A) (F0 m 92 ls []) := by
                intro k92
                induction k92 with
                | zero =>
                  intro s0 hs H locs hW ls hl
                  obtain rfl : s0 = n - 2 := by omega
                  refine lv_iload hx hb dX5_lay_92 (lv_at hl 3 rfl) ?_
                  refine lv_aload_n hx hb dX5_lay_94 rfl (lv_at hl 0 rfl) ?_
                  refine u_get C hW inlX5 (by decide) cM_0 rfl 0 (by decide) mw_71 rfl dX5_lay_95 ?_
                  refine lv_icmp_ge (tgt := 130) hx hb dX5_lay_98 (by decide) (fun _ => ?_) (fun c9 => absurd (nI_le (by omega) (by omega)) c9)
                  refine lv_aload_n hx hb dX5_lay_130 rfl (lv_at hl 0 rfl) ?_
                  refine u_callV (cf' := cM cyI cyZ ad n t md (mjd n cd (mj0 n cd jn) (z36 jd) (n - 2)) (mjq n cd (mj0 n cd jn) (n - 2)) wm od bs ab be hh) (As := []) (rest := []) (st1 := [.int (nI (lfV (mjq n cd (mj0 n cd jn) (n - 2))))]) C hW (c_X5_leaf l D cyI cO cyZ ad fa n t md (mjd n cd (mj0 n cd jn) (z36 jd) (n - 2)) (mjq n cd (mj0 n cd jn) (n - 2)) wm od bs ab be hh  (by omega)) mv_yX5_leaf mw_323 rfl ⟨rfl, rfl, Nat.le_of_ble_eq_true rfl, Nat.le_of_ble_eq_true rfl⟩ (by decide) cM_0 rfl rfl hl (Nat.le_of_ble_eq_true rfl) rfl rfl dX5_lay_131 (fun H locs hW => ?_)
                  refine lv_istore (lv' := [(4, .int (nI (lfV (mjq n cd (mj0 n cd jn) (n - 2))))), (0, .ref (ad 0)), (1, .int (nI cd)), (3, .int (nI (n ^ (n - 2 - (n - 2)))))]) hx hb dX5_lay_134 hl (by decide) rfl (fun ls hl => ?_)
                  refine lv_aload_n hx hb dX5_lay_136 rfl (lv_at hl 1 rfl) ?_
                  refine u_get C hW inlX5 (by decide) cM_0 rfl 5 (by decide) mw_76 rfl dX5_lay_137 ?_
                  refine lv_iload hx hb dX5_lay_140 (lv_at hl 0 rfl) ?_
                  refine lv_iconst (v := 0) hx hb dX5_lay_142 (by decide) ?_
                  refine u_iast (cf' := cM cyI cyZ ad n t md (mjd n cd (mj0 n cd jn) (z36 jd) (n - 2)) (upd (mjq n cd (mj0 n cd jn) (n - 2)) (lfV (mjq n cd (mj0 n cd jn) (n - 2))) 0) wm od bs ab be hh) C hW (by decide) cM_4 0 rfl (lfV (mjq n cd (mj0 n cd jn) (n - 2))) rfl (by omega) (by decide) cM_s4 dX5_lay_143 (fun H locs hW => ?_)
                  refine lv_aload_n hx hb dX5_lay_144 rfl (lv_at hl 1 rfl) ?_
                  refine u_callV (cf' := cM cyI cyZ ad n t md (mjd n cd (mj0 n cd jn) (z36 jd) (n - 2)) (upd (mjq n cd (mj0 n cd jn) (n - 2)) (lfV (mjq n cd (mj0 n cd jn) (n - 2))) 0) wm od bs ab be hh) (As := []) (rest := []) (st1 := [.int (nI (lfV (upd (mjq n cd (mj0 n cd jn) (n - 2)) (lfV (mjq n cd (mj0 n cd jn) (n - 2))) 0)))]) C hW (c_X5_leaf l D cyI cO cyZ ad fa n t md (mjd n cd (mj0 n cd jn) (z36 jd) (n - 2)) (upd (mjq n cd (mj0 n cd jn) (n - 2)) (lfV (mjq n cd (mj0 n cd jn) (n - 2))) 0) wm od bs ab be hh  (by omega)) mv_yX5_leaf mw_323 rfl ⟨rfl, rfl, Nat.le_of_ble_eq_true rfl, Nat.le_of_ble_eq_true rfl⟩ (by decide) cM_0 rfl rfl hl (Nat.le_of_ble_eq_true rfl) rfl rfl dX5_lay_145 (fun H locs hW => ?_)
                  refine lv_istore (lv' := [(5, .int (nI (lfV (upd (mjq n cd (mj0 n cd jn) (n - 2)) (lfV (mjq n cd (mj0 n cd jn) (n - 2))) 0)))), (4, .int (nI (lfV (mjq n cd (mj0 n cd jn) (n - 2))))), (0, .ref (ad 0)), (1, .int (nI cd)), (3, .int (nI (n ^ (n - 2 - (n - 2)))))]) hx hb dX5_lay_148 hl (by decide) rfl (fun ls hl => ?_)
                  refine lv_aload_n hx hb dX5_lay_150 rfl (lv_at hl 2 rfl) ?_
                  refine u_get C hW inlX5 (by decide) cM_0 rfl 5 (by decide) mw_76 rfl dX5_lay_151 ?_
                  refine lv_iload hx hb dX5_lay_154 (lv_at hl 1 rfl) ?_
                  refine lv_iconst (v := 1) hx hb dX5_lay_156 (by decide) ?_
                  refine u_iast (cf' := cM cyI cyZ ad n t md (mjd n cd (mj0 n cd jn) (z36 jd) (n - 2)) (upd (upd (mjq n cd (mj0 n cd jn) (n - 2)) (lfV (mjq n cd (mj0 n cd jn) (n - 2))) 0) (lfV (mjq n cd (mj0 n cd jn) (n - 2))) 1) wm od bs ab be hh) C hW (by decide) cM_4 0 rfl (lfV (mjq n cd (mj0 n cd jn) (n - 2))) rfl (by omega) (by decide) cM_s4 dX5_lay_157 (fun H locs hW => ?_)
                  refine lv_aload_n hx hb dX5_lay_158 rfl (lv_at hl 2 rfl) ?_
                  refine lv_iload hx hb dX5_lay_159 (lv_at hl 1 rfl) ?_
                  refine lv_iload hx hb dX5_lay_161 (lv_at hl 0 rfl) ?_
                  refine u_callV (cf' := cM cyI cyZ ad n t md (jdU (mjd n cd (mj0 n cd jn) (z36 jd) (n - 2)) (lfV (mjq n cd (mj0 n cd jn) (n - 2))) (lfV (upd (mjq n cd (mj0 n cd jn) (n - 2)) (lfV (mjq n cd (mj0 n cd jn) (n - 2))) 0))) (jnU (upd (upd (mjq n cd (mj0 n cd jn) (n - 2)) (lfV (mjq n cd (mj0 n cd jn) (n - 2))) 0) (lfV (mjq n cd (mj0 n cd jn) (n - 2))) 1) (lfV (mjq n cd (mj0 n cd jn) (n - 2))) (lfV (upd (mjq n cd (mj0 n cd jn) (n - 2)) (lfV (mjq n cd (mj0 n cd jn) (n - 2))) 0))) wm od bs ab be hh) (As := [.int (nI (lfV (mjq n cd (mj0 n cd jn) (n - 2)))), .int (nI (lfV (upd (mjq n cd (mj0 n cd jn) (n - 2)) (lfV (mjq n cd (mj0 n cd jn) (n - 2))) 0)))]) (rest := []) (st1 := []) C hW (c_X5_join l D cyI cO cyZ ad fa n t md (mjd n cd (mj0 n cd jn) (z36 jd) (n - 2)) (upd (upd (mjq n cd (mj0 n cd jn) (n - 2)) (lfV (mjq n cd (mj0 n cd jn) (n - 2))) 0) (lfV (mjq n cd (mj0 n cd jn) (n - 2))) 1) wm od bs ab be hh (lfV (mjq n cd (mj0 n cd jn) (n - 2))) (lfV (upd (mjq n cd (mj0 n cd jn) (n - 2)) (lfV (mjq n cd (mj0 n cd jn) (n - 2))) 0)) (by omega) (by omega)) mv_yX5_join mw_327 rfl ⟨rfl, rfl, Nat.le_of_ble_eq_true rfl, Nat.le_of_ble_eq_true rfl⟩ (by decide) cM_0 rfl rfl hl (Nat.le_of_ble_eq_true rfl) rfl rfl dX5_lay_163 (fun H locs hW => ?_)
                  exact u_vret C hr hW dX5_lay_166 rfl
                | succ k92 ih92 =>
                  intro s0 hs H locs hW ls hl
                  have hp1 := pow_in (s := s0) h2 hn
                  have hp2 := pow_in (s := s0 + 1) h2 hn
                  have hls := hL.1 s0 (by omega)
                  have hfg := figV_lt cd s0 h2
                  have hcdv : cd / n ^ (n - 2 - (s0 + 1)) ≤ cd := Nat.div_le_self _ _
                  refine lv_iload hx hb dX5_lay_92 (lv_at hl 3 rfl) ?_
                  refine lv_aload_n hx hb dX5_lay_94 rfl (lv_at hl 0 rfl) ?_
                  refine u_get C hW inlX5 (by decide) cM_0 rfl 0 (by decide) mw_71 rfl dX5_lay_95 ?_
                  refine lv_icmp_ge (tgt := 130) hx hb dX5_lay_98 (by decide) (fun c9 => absurd c9 (nI_ge (by omega) (by omega))) (fun _ => ?_)
                  refine lv_iload_n hx hb dX5_lay_101 rfl (lv_at hl 2 rfl) ?_
                  refine lv_aload_n hx hb dX5_lay_102 rfl (lv_at hl 0 rfl) ?_
                  refine u_get C hW inlX5 (by decide) cM_0 rfl 0 (by decide) mw_71 rfl dX5_lay_103 ?_
                  refine lv_idiv hx hb dX5_lay_106 (nI_ne0 (by omega) (by omega)) ?_
                  refine u_top (show (nI (n ^ (n - 2 - s0))) / (nI n) = nI (n ^ (n - 2 - (s0 + 1))) from (pk_div (by omega) (by omega) (by omega)).trans (by rw [pow_dn h2 (by omega)])) ?_
                  refine lv_istore_n (lv' := [(3, .int (nI (n ^ (n - 2 - (s0 + 1))))), (0, .ref (ad 0)), (1, .int (nI cd)), (4, .int (nI (s0 + 2)))]) hx hb dX5_lay_107 rfl hl (by decide) rfl (fun ls hl => ?_)
                  refine lv_aload_n hx hb dX5_lay_108 rfl (lv_at hl 1 rfl) ?_
                  refine lv_aload_n hx hb dX5_lay_109 rfl (lv_at hl 1 rfl) ?_
                  refine u_callV (cf' := cM cyI cyZ ad n t md (mjd n cd (mj0 n cd jn) (z36 jd) s0) (mjq n cd (mj0 n cd jn) s0) wm od bs ab be hh) (As := []) (rest := [.ref (ad 0)]) (st1 := [.int (nI (lfV (mjq n cd (mj0 n cd jn) s0))), .ref (ad 0)]) C hW (c_X5_leaf l D cyI cO cyZ ad fa n t md (mjd n cd (mj0 n cd jn) (z36 jd) s0) (mjq n cd (mj0 n cd jn) s0) wm od bs ab be hh  (by omega)) mv_yX5_leaf mw_323 rfl ⟨rfl, rfl, Nat.le_of_ble_eq_true rfl, Nat.le_of_ble_eq_true rfl⟩ (by decide) cM_0 rfl rfl hl (Nat.le_of_ble_eq_true rfl) rfl rfl dX5_lay_110 (fun H locs hW => ?_)
                  refine lv_iload_n hx hb dX5_lay_113 rfl (lv_at hl 2 rfl) ?_
                  refine lv_iload_n hx hb dX5_lay_114 rfl (lv_at hl 0 rfl) ?_
                  refine lv_idiv hx hb dX5_lay_115 (nI_ne0 (by omega) (by omega)) ?_
                  refine u_top (show (nI cd) / (nI (n ^ (n - 2 - (s0 + 1)))) = nI (cd / n ^ (n - 2 - (s0 + 1))) from pk_div (by omega) (by omega) (by omega)) ?_
                  refine lv_aload_n hx hb dX5_lay_116 rfl (lv_at hl 1 rfl) ?_
                  refine u_get C hW inlX5 (by decide) cM_0 rfl 0 (by decide) mw_71 rfl dX5_lay_117 ?_
                  refine lv_irem hx hb dX5_lay_120 (nI_ne0 (by omega) (by omega)) ?_
                  refine u_top (show (nI (cd / n ^ (n - 2 - (s0 + 1)))) - (nI (cd / n ^ (n - 2 - (s0 + 1)))) / (nI n) * (nI n) = nI (figV n cd s0) from pk_rem (by omega) (by omega) (by omega)) ?_
                  refine u_callV (cf' := cM cyI cyZ ad n t md (jdU (mjd n cd (mj0 n cd jn) (z36 jd) s0) (lfV (mjq n cd (mj0 n cd jn) s0)) (figV n cd s0)) (jnU (mjq n cd (mj0 n cd jn) s0) (lfV (mjq n cd (mj0 n cd jn) s0)) (figV n cd s0)) wm od bs ab be hh) (As := [.int (nI (lfV (mjq n cd (mj0 n cd jn) s0))), .int (nI (figV n cd s0))]) (rest := []) (st1 := []) C hW (c_X5_join l D cyI cO cyZ ad fa n t md (mjd n cd (mj0 n cd jn) (z36 jd) s0) (mjq n cd (mj0 n cd jn) s0) wm od bs ab be hh (lfV (mjq n cd (mj0 n cd jn) s0)) (figV n cd s0) (by omega) (by omega)) mv_yX5_join mw_327 rfl ⟨rfl, rfl, Nat.le_of_ble_eq_true rfl, Nat.le_of_ble_eq_true rfl⟩ (by decide) cM_0 rfl rfl hl (Nat.le_of_ble_eq_true rfl) rfl rfl dX5_lay_121 (fun H locs hW => ?_)
                  refine lv_iinc (v := nI (s0 + 1 + 2)) (lv' := [(4, .int (nI (s0 + 1 + 2))), (3, .int (nI (n ^ (n - 2 - (s0 + 1))))), (0, .ref (ad 0)), (1, .int (nI cd))]) hx hb dX5_lay_124 hl (k := 3) rfl ((nI_1 (s0 + 2)).trans (congrArg nI (by omega))) (by decide) rfl (fun ls hl => ?_)
                  refine lv_goto (tgt := 92) hx hb dX5_lay_127 (by decide) ?_
                  exact ih92  (s0 + 1) (by omega) H locs hW ls (lv_sub hl [2, 3, 1, 0] rfl)
              exact L92 (n - 2) 0 (by omega) H locs hW ls (lv_sub hl [2, 3, 1, 0] rfl)
            | succ k48 ih48 =>
              intro q left g hq r48 hL1 H locs hW ls hl
              have hm : left % n < n := Nat.mod_lt _ (by omega)
              have hdv : left / n ≤ left := Nat.div_le_self _ _
              refine lv_iload_n hx hb dX5_lay_48 rfl (lv_at hl 0 rfl) ?_
              refine lv_aload_n hx hb dX5_lay_49 rfl (lv_at hl 1 rfl) ?_
              refine u_get C hW inlX5 (by decide) cM_0 rfl 0 (by decide) mw_71 rfl dX5_lay_50 ?_
              refine lv_icmp_ge (tgt := 84) hx hb dX5_lay_53 (by decide) (fun c9 => absurd c9 (nI_ge (by omega) (by omega))) (fun _ => ?_)
              refine lv_aload_n hx hb dX5_lay_56 rfl (lv_at hl 1 rfl) ?_
              refine u_get C hW inlX5 (by decide) cM_0 rfl 5 (by decide) mw_76 rfl dX5_lay_57 ?_
              refine lv_iload_n hx hb dX5_lay_60 rfl (lv_at hl 3 rfl) ?_
              refine lv_aload_n hx hb dX5_lay_61 rfl (lv_at hl 1 rfl) ?_
              refine u_get C hW inlX5 (by decide) cM_0 rfl 0 (by decide) mw_71 rfl dX5_lay_62 ?_
              refine lv_irem hx hb dX5_lay_65 (nI_ne0 (by omega) (by omega)) ?_
              refine u_top (show (nI left) - (nI left) / (nI n) * (nI n) = nI (left % n) from pk_rem (by omega) (by omega) (by omega)) ?_
              refine lv_dup2_11 hx hb dX5_lay_66 rfl rfl ?_
              refine u_iald C hW (by decide) cM_4 0 rfl (left % n) rfl (by omega) (by decide) dX5_lay_67 ?_
              refine lv_iconst (v := 1) hx hb dX5_lay_68 (by decide) ?_
              refine lv_iadd hx hb dX5_lay_69 ?_
              refine u_iast (cf' := cM cyI cyZ ad n t md (z36 jd) (upd g (left % n) ((g (left % n)) + 1)) wm od bs ab be hh) C hW (by decide) cM_4 0 rfl (left % n) rfl (by omega) (by decide) cM_s4 dX5_lay_70 (fun H locs hW => ?_)
              refine lv_iload_n hx hb dX5_lay_71 rfl (lv_at hl 3 rfl) ?_
              refine lv_aload_n hx hb dX5_lay_72 rfl (lv_at hl 1 rfl) ?_
              refine u_get C hW inlX5 (by decide) cM_0 rfl 0 (by decide) mw_71 rfl dX5_lay_73 ?_
              refine lv_idiv hx hb dX5_lay_76 (nI_ne0 (by omega) (by omega)) ?_
              refine u_top (show (nI left) / (nI n) = nI (left / n) from pk_div (by omega) (by omega) (by omega)) ?_
              refine lv_istore_n (lv' := [(2, .int (nI (left / n))), (3, .int (nI q)), (0, .ref (ad 0)), (1, .int (nI cd))]) hx hb dX5_lay_77 rfl hl (by decide) rfl (fun ls hl => ?_)
              refine lv_iinc (v := nI (q + 1)) (lv' := [(3, .int (nI (q + 1))), (2, .int (nI (left / n))), (0, .ref (ad 0)), (1, .int (nI cd))]) hx hb dX5_lay_78 hl (k := 1) rfl (nI_1 _) (by decide) rfl (fun ls hl => ?_)
              refine lv_goto (tgt := 48) hx hb dX5_lay_81 (by decide) ?_
              exact ih48  (q + 1) (left / n) (upd g (left % n) ((g (left % n)) + 1)) (by omega) r48 (by omega) H locs hW ls (lv_sub hl [0, 2, 3, 1] rfl)
          exact L48 (n - 2) 2 cd g (by omega) (by have h9 : g = mj1 n jn := r23; rw [h9]; rfl) (by omega) H locs hW ls (lv_sub hl [0, 2, 3, 1] rfl)
        | succ k23 ih23 =>
          intro q g hq r23 H locs hW ls hl
          refine lv_iload_n hx hb dX5_lay_23 rfl (lv_at hl 0 rfl) ?_
          refine lv_aload_n hx hb dX5_lay_24 rfl (lv_at hl 1 rfl) ?_
          refine u_get C hW inlX5 (by decide) cM_0 rfl 0 (by decide) mw_71 rfl dX5_lay_25 ?_
          refine lv_icmp_ge (tgt := 44) hx hb dX5_lay_28 (by decide) (fun c9 => absurd c9 (nI_ge (by omega) (by omega))) (fun _ => ?_)
          refine lv_aload_n hx hb dX5_lay_31 rfl (lv_at hl 1 rfl) ?_
          refine u_get C hW inlX5 (by decide) cM_0 rfl 5 (by decide) mw_76 rfl dX5_lay_32 ?_
          refine lv_iload_n hx hb dX5_lay_35 rfl (lv_at hl 0 rfl) ?_
          refine lv_iconst (v := 1) hx hb dX5_lay_36 (by decide) ?_
          refine u_iast (cf' := cM cyI cyZ ad n t md (z36 jd) (upd g q 1) wm od bs ab be hh) C hW (by decide) cM_4 0 rfl q rfl (by omega) (by decide) cM_s4 dX5_lay_37 (fun H locs hW => ?_)
          refine lv_iinc (v := nI (q + 1)) (lv' := [(2, .int (nI (q + 1))), (0, .ref (ad 0)), (1, .int (nI cd))]) hx hb dX5_lay_38 hl (k := 0) rfl (nI_1 _) (by decide) rfl (fun ls hl => ?_)
          refine lv_goto (tgt := 23) hx hb dX5_lay_41 (by decide) ?_
          exact ih23  (q + 1) (upd g q 1) (by omega) r23 H locs hW ls (lv_sub hl [0, 1, 2] rfl)
      exact L23 n 0 jn (by omega) rfl H locs hW ls (lv_sub hl [0, 1, 2] rfl)
    | succ k2 ih2 =>
      intro q f hq r2 H locs hW ls hl
      refine lv_iload_n hx hb dX5_lay_2 rfl (lv_at hl 0 rfl) ?_
      refine lv_bipush (v := 36) hx hb dX5_lay_3 (by decide) ?_
      refine lv_icmp_ge (tgt := 21) hx hb dX5_lay_5 (by decide) (fun c9 => absurd c9 (show ¬ nI 36 ≤ nI q from nI_ge (by omega) (by omega))) (fun _ => ?_)
      refine lv_aload_n hx hb dX5_lay_8 rfl (lv_at hl 1 rfl) ?_
      refine u_get C hW inlX5 (by decide) cM_0 rfl 4 (by decide) mw_75 rfl dX5_lay_9 ?_
      refine lv_iload_n hx hb dX5_lay_12 rfl (lv_at hl 0 rfl) ?_
      refine lv_iconst (v := 0) hx hb dX5_lay_13 (by decide) ?_
      refine u_zast (cf' := cM cyI cyZ ad n t md (upd f q 0) jn wm od bs ab be hh) C hW (by decide) cM_3 2 rfl q rfl (by omega) (by decide) rfl cM_s3 dX5_lay_14 (fun H locs hW => ?_)
      refine lv_iinc (v := nI (q + 1)) (lv' := [(2, .int (nI (q + 1))), (0, .ref (ad 0)), (1, .int (nI cd))]) hx hb dX5_lay_15 hl (k := 0) rfl (nI_1 _) (by decide) rfl (fun ls hl => ?_)
      refine lv_goto (tgt := 2) hx hb dX5_lay_18 (by decide) ?_
      exact ih2  (q + 1) (upd f q 0) (by omega) r2 H locs hW ls (lv_sub hl [0, 1, 2] rfl)
  exact L2 36 0 jd (by omega) rfl H locs hW ls (lv_sub hl [0, 1, 2] rfl)
set_option maxHeartbeats 4000000 in
set_option maxRecDepth 100000 in
theorem c_X5_go (l : Launch) (D : va_G) (cyI cO cyZ : ClassId) (ad : Nat → Nat) (fa : Nat) (n : Nat) (t md jd jn wm od : Nat → Int32) (bs : Int32) (ab be hh : Int64) (cd : Nat) (hn : n ≤ 6) (h2 : 2 ≤ n) (hcd : cd < cmV n) (hL : LfOK n cd jn) : Ct l yX5_go (Cond.code yX5_go cX5_go 6 none :: wsL_law) ({ frames := 2, cells := 0, slots := 0, locals := 47 } : Room) D (ty3 cyI cO cyZ) 7 ad fa [.ref (ad 0), .int (nI cd)] (cM cyI cyZ ad n t md jd jn wm od bs ab be hh) (cM cyI cyZ ad n t md (mlD n cd jd jn) (mlN n cd jn) (mgo n t jd jn wm cd) od bs ab be hh) (none) := by
  refine Ct.of (by decide) (Nat.le_of_ble_eq_true rfl) ?_
  intro p e s m args below meth c A C hr H locs hW ls hl
  have C : Cx p s m args meth c cX5_go 6 RX5 D (ty3 cyI cO cyZ) fa A := C
  have hx := C.1
  have hb := C.2.1
  have hl : lv_has ls 6 [(0, .ref (ad 0)), (1, .int (nI cd))] := hl
  have hcm := cmV_le hn
  have hcp := cmV_pos h2 hn
  refine lv_aload_n hx hb dX5_go_0 rfl (lv_at hl 0 rfl) ?_
  refine lv_iload_n hx hb dX5_go_1 rfl (lv_at hl 1 rfl) ?_
  refine u_callV (cf' := cM cyI cyZ ad n t md (mlD n cd jd jn) (mlN n cd jn) wm od bs ab be hh) (As := [.int (nI cd)]) (rest := []) (st1 := []) C hW (c_X5_lay l D cyI cO cyZ ad fa n t md jd jn wm od bs ab be hh cd (by omega) (by omega) (by omega) hL) mv_yX5_lay mw_319 rfl ⟨rfl, rfl, Nat.le_of_ble_eq_true rfl, Nat.le_of_ble_eq_true rfl⟩ (by decide) cM_0 rfl rfl hl (Nat.le_of_ble_eq_true rfl) rfl rfl dX5_go_2 (fun H locs hW => ?_)
  refine lv_iconst (v := 0) hx hb dX5_go_5 (by decide) ?_
  refine lv_istore_n (lv' := [(2, .int 0), (0, .ref (ad 0)), (1, .int (nI cd))]) hx hb dX5_go_6 rfl hl (by decide) rfl (fun ls hl => ?_)
  have L7 : ∀ (k7 : Nat) (i : Nat) (f : Nat → Int32), i + k7 = n → lp (gwO n (mlD n cd jd jn) t) i k7 f = gwV n (mlD n cd jd jn) t wm → ∀ (H : Heap) (locs : List Loc), Wd D 7 ad (cM cyI cyZ ad n t md (mlD n cd jd jn) (mlN n cd jn) f od bs ab be hh) A s.heap H locs → ∀ ls : Array Slot, lv_has ls 6 [(2, .int (nI i)), (0, .ref (ad 0))] → W p l e ({ frames := 2, cells := 0, slots := 0, locals := 47 } : Room) s m args below meth c H locs 0 0 (MQ below (uQ D 7 ad (cM cyI cyZ ad n t md (mlD n cd jd jn) (mlN n cd jn) (mgo n t jd jn wm cd) od bs ab be hh) (none) A) args s 0 0 A) (F0 m 7 ls []) := by
    intro k7
    induction k7 with
    | zero =>
      intro i f hi r7 H locs hW ls hl
      refine lv_iload_n hx hb dX5_go_7 rfl (lv_at hl 0 rfl) ?_
      refine lv_aload_n hx hb dX5_go_8 rfl (lv_at hl 1 rfl) ?_
      refine u_get C hW inlX5 (by decide) cM_0 rfl 0 (by decide) mw_71 rfl dX5_go_9 ?_
      refine lv_icmp_ge (tgt := 82) hx hb dX5_go_12 (by decide) (fun _ => ?_) (fun c9 => absurd (nI_le (by omega) (by omega)) c9)
      refine lv_iconst (v := 0) hx hb dX5_go_82 (by decide) ?_
      refine lv_istore_n (lv' := [(2, .int 0), (0, .ref (ad 0))]) hx hb dX5_go_83 rfl hl (by decide) rfl (fun ls hl => ?_)
      have L84 : ∀ (k84 : Nat) (k : Nat) (f : Nat → Int32), k + k84 = n → lp (fwK n) k k84 f = mgo n t jd jn wm cd → ∀ (H : Heap) (locs : List Loc), Wd D 7 ad (cM cyI cyZ ad n t md (mlD n cd jd jn) (mlN n cd jn) f od bs ab be hh) A s.heap H locs → ∀ ls : Array Slot, lv_has ls 6 [(2, .int (nI k)), (0, .ref (ad 0))] → W p l e ({ frames := 2, cells := 0, slots := 0, locals := 47 } : Room) s m args below meth c H locs 0 0 (MQ below (uQ D 7 ad (cM cyI cyZ ad n t md (mlD n cd jd jn) (mlN n cd jn) (mgo n t jd jn wm cd) od bs ab be hh) (none) A) args s 0 0 A) (F0 m 84 ls []) := by
        intro k84
        induction k84 with
        | zero =>
          intro k f hk r84 H locs hW ls hl
          refine lv_iload_n hx hb dX5_go_84 rfl (lv_at hl 0 rfl) ?_
          refine lv_aload_n hx hb dX5_go_85 rfl (lv_at hl 1 rfl) ?_
          refine u_get C hW inlX5 (by decide) cM_0 rfl 0 (by decide) mw_71 rfl dX5_go_86 ?_
          refine lv_icmp_ge (tgt := 204) hx hb dX5_go_89 (by decide) (fun _ => ?_) (fun c9 => absurd (nI_le (by omega) (by omega)) c9)
          exact u_vret C hr hW dX5_go_204 (by rw [← r84]; rfl)
        | succ k84 ih84 =>
          intro k f hk r84 H locs hW ls hl
          refine lv_iload_n hx hb dX5_go_84 rfl (lv_at hl 0 rfl) ?_
          refine lv_aload_n hx hb dX5_go_85 rfl (lv_at hl 1 rfl) ?_
          refine u_get C hW inlX5 (by decide) cM_0 rfl 0 (by decide) mw_71 rfl dX5_go_86 ?_
          refine lv_icmp_ge (tgt := 204) hx hb dX5_go_89 (by decide) (fun c9 => absurd c9 (nI_ge (by omega) (by omega))) (fun _ => ?_)
          refine lv_iconst (v := 0) hx hb dX5_go_92 (by decide) ?_
          refine lv_istore_n (lv' := [(3, .int 0), (2, .int (nI k)), (0, .ref (ad 0))]) hx hb dX5_go_93 rfl hl (by decide) rfl (fun ls hl => ?_)
          have L94 : ∀ (k94 : Nat) (i : Nat) (f : Nat → Int32), i + k94 = n → lp (fwK n) (k + 1) k84 (lp (fwI n k) i k94 f) = mgo n t jd jn wm cd → ∀ (H : Heap) (locs : List Loc), Wd D 7 ad (cM cyI cyZ ad n t md (mlD n cd jd jn) (mlN n cd jn) f od bs ab be hh) A s.heap H locs → ∀ ls : Array Slot, lv_has ls 6 [(3, .int (nI i)), (0, .ref (ad 0)), (2, .int (nI k))] → W p l e ({ frames := 2, cells := 0, slots := 0, locals := 47 } : Room) s m args below meth c H locs 0 0 (MQ below (uQ D 7 ad (cM cyI cyZ ad n t md (mlD n cd jd jn) (mlN n cd jn) (mgo n t jd jn wm cd) od bs ab be hh) (none) A) args s 0 0 A) (F0 m 94 ls []) := by
            intro k94
            induction k94 with
            | zero =>
              intro i f hi r94 H locs hW ls hl
              refine lv_iload_n hx hb dX5_go_94 rfl (lv_at hl 0 rfl) ?_
              refine lv_aload_n hx hb dX5_go_95 rfl (lv_at hl 1 rfl) ?_
              refine u_get C hW inlX5 (by decide) cM_0 rfl 0 (by decide) mw_71 rfl dX5_go_96 ?_
              refine lv_icmp_ge (tgt := 198) hx hb dX5_go_99 (by decide) (fun _ => ?_) (fun c9 => absurd (nI_le (by omega) (by omega)) c9)
              refine lv_iinc (v := nI (k + 1)) (lv' := [(2, .int (nI (k + 1))), (3, .int (nI i)), (0, .ref (ad 0))]) hx hb dX5_go_198 hl (k := 2) rfl (nI_1 _) (by decide) rfl (fun ls hl => ?_)
              refine lv_goto (tgt := 84) hx hb dX5_go_201 (by decide) ?_
              exact ih84  (k + 1) f (by omega) r94 H locs hW ls (lv_sub hl [0, 2] rfl)
            | succ k94 ih94 =>
              intro i f hi r94 H locs hW ls hl
              refine lv_iload_n hx hb dX5_go_94 rfl (lv_at hl 0 rfl) ?_
              refine lv_aload_n hx hb dX5_go_95 rfl (lv_at hl 1 rfl) ?_
              refine u_get C hW inlX5 (by decide) cM_0 rfl 0 (by decide) mw_71 rfl dX5_go_96 ?_
              refine lv_icmp_ge (tgt := 198) hx hb dX5_go_99 (by decide) (fun c9 => absurd c9 (nI_ge (by omega) (by omega))) (fun _ => ?_)
              refine lv_iconst (v := 0) hx hb dX5_go_102 (by decide) ?_
              refine lv_istore (lv' := [(4, .int 0), (3, .int (nI i)), (0, .ref (ad 0)), (2, .int (nI k))]) hx hb dX5_go_103 hl (by decide) rfl (fun ls hl => ?_)
              have L105 : ∀ (k105 : Nat) (j : Nat) (f : Nat → Int32), j + k105 = n → lp (fwK n) (k + 1) k84 (lp (fwI n k) (i + 1) k94 (lp (fwJ k i) j k105 f)) = mgo n t jd jn wm cd → ∀ (H : Heap) (locs : List Loc), Wd D 7 ad (cM cyI cyZ ad n t md (mlD n cd jd jn) (mlN n cd jn) f od bs ab be hh) A s.heap H locs → ∀ ls : Array Slot, lv_has ls 6 [(4, .int (nI j)), (0, .ref (ad 0)), (2, .int (nI k)), (3, .int (nI i))] → W p l e ({ frames := 2, cells := 0, slots := 0, locals := 47 } : Room) s m args below meth c H locs 0 0 (MQ below (uQ D 7 ad (cM cyI cyZ ad n t md (mlD n cd jd jn) (mlN n cd jn) (mgo n t jd jn wm cd) od bs ab be hh) (none) A) args s 0 0 A) (F0 m 105 ls []) := by
                intro k105
                induction k105 with
                | zero =>
                  intro j f hj r105 H locs hW ls hl
                  refine lv_iload hx hb dX5_go_105 (lv_at hl 0 rfl) ?_
                  refine lv_aload_n hx hb dX5_go_107 rfl (lv_at hl 1 rfl) ?_
                  refine u_get C hW inlX5 (by decide) cM_0 rfl 0 (by decide) mw_71 rfl dX5_go_108 ?_
                  refine lv_icmp_ge (tgt := 192) hx hb dX5_go_111 (by decide) (fun _ => ?_) (fun c9 => absurd (nI_le (by omega) (by omega)) c9)
                  refine lv_iinc (v := nI (i + 1)) (lv' := [(3, .int (nI (i + 1))), (4, .int (nI j)), (0, .ref (ad 0)), (2, .int (nI k))]) hx hb dX5_go_192 hl (k := 3) rfl (nI_1 _) (by decide) rfl (fun ls hl => ?_)
                  refine lv_goto (tgt := 94) hx hb dX5_go_195 (by decide) ?_
                  exact ih94  (i + 1) f (by omega) r105 H locs hW ls (lv_sub hl [0, 2, 3] rfl)
                | succ k105 ih105 =>
                  intro j f hj r105 H locs hW ls hl
                  refine lv_iload hx hb dX5_go_105 (lv_at hl 0 rfl) ?_
                  refine lv_aload_n hx hb dX5_go_107 rfl (lv_at hl 1 rfl) ?_
                  refine u_get C hW inlX5 (by decide) cM_0 rfl 0 (by decide) mw_71 rfl dX5_go_108 ?_
                  refine lv_icmp_ge (tgt := 192) hx hb dX5_go_111 (by decide) (fun c9 => absurd c9 (nI_ge (by omega) (by omega))) (fun _ => ?_)
                  refine lv_aload_n hx hb dX5_go_114 rfl (lv_at hl 1 rfl) ?_
                  refine u_get C hW inlX5 (by decide) cM_0 rfl 6 (by decide) mw_77 rfl dX5_go_115 ?_
                  refine lv_bipush (v := 6) hx hb dX5_go_118 (by decide) ?_
                  refine lv_iload_n hx hb dX5_go_120 rfl (lv_at hl 3 rfl) ?_
                  refine lv_imul hx hb dX5_go_121 ?_
                  refine u_top (show 6 * (nI i) = nI (6 * i) from pk_mul 6 i) ?_
                  refine lv_iload_n hx hb dX5_go_122 rfl (lv_at hl 2 rfl) ?_
                  refine lv_iadd hx hb dX5_go_123 ?_
                  refine u_top (show (nI (6 * i)) + (nI k) = nI ((6 * i) + k) from nI_add (6 * i) k) ?_
                  refine u_iald C hW (by decide) cM_5 0 rfl ((6 * i) + k) rfl (by omega) (by decide) dX5_go_124 ?_
                  refine lv_aload_n hx hb dX5_go_125 rfl (lv_at hl 1 rfl) ?_
                  refine u_get C hW inlX5 (by decide) cM_0 rfl 6 (by decide) mw_77 rfl dX5_go_126 ?_
                  refine lv_bipush (v := 6) hx hb dX5_go_129 (by decide) ?_
                  refine lv_iload_n hx hb dX5_go_131 rfl (lv_at hl 2 rfl) ?_
                  refine lv_imul hx hb dX5_go_132 ?_
                  refine u_top (show 6 * (nI k) = nI (6 * k) from pk_mul 6 k) ?_
                  refine lv_iload hx hb dX5_go_133 (lv_at hl 0 rfl) ?_
                  refine lv_iadd hx hb dX5_go_135 ?_
                  refine u_top (show (nI (6 * k)) + (nI j) = nI ((6 * k) + j) from nI_add (6 * k) j) ?_
                  refine u_iald C hW (by decide) cM_5 0 rfl ((6 * k) + j) rfl (by omega) (by decide) dX5_go_136 ?_
                  refine lv_iadd hx hb dX5_go_137 ?_
                  refine lv_istore (lv' := [(5, .int ((f ((6 * i) + k)) + (f ((6 * k) + j)))), (4, .int (nI j)), (0, .ref (ad 0)), (2, .int (nI k)), (3, .int (nI i))]) hx hb dX5_go_138 hl (by decide) rfl (fun ls hl => ?_)
                  refine lv_aload_n hx hb dX5_go_140 rfl (lv_at hl 2 rfl) ?_
                  refine u_get C hW inlX5 (by decide) cM_0 rfl 6 (by decide) mw_77 rfl dX5_go_141 ?_
                  refine lv_bipush (v := 6) hx hb dX5_go_144 (by decide) ?_
                  refine lv_iload_n hx hb dX5_go_146 rfl (lv_at hl 4 rfl) ?_
                  refine lv_imul hx hb dX5_go_147 ?_
                  refine u_top (show 6 * (nI i) = nI (6 * i) from pk_mul 6 i) ?_
                  refine lv_iload hx hb dX5_go_148 (lv_at hl 1 rfl) ?_
                  refine lv_iadd hx hb dX5_go_150 ?_
                  refine u_top (show (nI (6 * i)) + (nI j) = nI ((6 * i) + j) from nI_add (6 * i) j) ?_
                  refine lv_iload hx hb dX5_go_151 (lv_at hl 0 rfl) ?_
                  refine lv_aload_n hx hb dX5_go_153 rfl (lv_at hl 2 rfl) ?_
                  refine u_get C hW inlX5 (by decide) cM_0 rfl 6 (by decide) mw_77 rfl dX5_go_154 ?_
                  refine lv_bipush (v := 6) hx hb dX5_go_157 (by decide) ?_
                  refine lv_iload_n hx hb dX5_go_159 rfl (lv_at hl 4 rfl) ?_
                  refine lv_imul hx hb dX5_go_160 ?_
                  refine u_top (show 6 * (nI i) = nI (6 * i) from pk_mul 6 i) ?_
                  refine lv_iload hx hb dX5_go_161 (lv_at hl 1 rfl) ?_
                  refine lv_iadd hx hb dX5_go_163 ?_
                  refine u_top (show (nI (6 * i)) + (nI j) = nI ((6 * i) + j) from nI_add (6 * i) j) ?_
                  refine u_iald C hW (by decide) cM_5 0 rfl ((6 * i) + j) rfl (by omega) (by decide) dX5_go_164 ?_
                  refine lv_icmp_ge (tgt := 173) hx hb dX5_go_165 (by decide) (fun c165_1 => ?_) (fun c165_1 => ?_)
                  · skip
                    refine lv_aload_n hx hb dX5_go_173 rfl (lv_at hl 2 rfl) ?_
                    refine u_get C hW inlX5 (by decide) cM_0 rfl 6 (by decide) mw_77 rfl dX5_go_174 ?_
                    refine lv_bipush (v := 6) hx hb dX5_go_177 (by decide) ?_
                    refine lv_iload_n hx hb dX5_go_179 rfl (lv_at hl 4 rfl) ?_
                    refine lv_imul hx hb dX5_go_180 ?_
                    refine u_top (show 6 * (nI i) = nI (6 * i) from pk_mul 6 i) ?_
                    refine lv_iload hx hb dX5_go_181 (lv_at hl 1 rfl) ?_
                    refine lv_iadd hx hb dX5_go_183 ?_
                    refine u_top (show (nI (6 * i)) + (nI j) = nI ((6 * i) + j) from nI_add (6 * i) j) ?_
                    refine u_iald C hW (by decide) cM_5 0 rfl ((6 * i) + j) rfl (by omega) (by decide) dX5_go_184 ?_
                    refine u_iast (cf' := cM cyI cyZ ad n t md (mlD n cd jd jn) (mlN n cd jn) (upd f ((6 * i) + j) (f ((6 * i) + j))) od bs ab be hh) C hW (by decide) cM_5 0 rfl ((6 * i) + j) rfl (by omega) (by decide) cM_s5 dX5_go_185 (fun H locs hW => ?_)
                    refine lv_iinc (v := nI (j + 1)) (lv' := [(4, .int (nI (j + 1))), (5, .int ((f ((6 * i) + k)) + (f ((6 * k) + j)))), (0, .ref (ad 0)), (2, .int (nI k)), (3, .int (nI i))]) hx hb dX5_go_186 hl (k := 1) rfl (nI_1 _) (by decide) rfl (fun ls hl => ?_)
                    refine lv_goto (tgt := 105) hx hb dX5_go_189 (by decide) ?_
                    exact ih105  (j + 1) (upd f ((6 * i) + j) (f ((6 * i) + j))) (by omega) (by have h9 := r105; simp only [lp_s, lp_0, fwJ, if_pos c165_1] at h9; exact h9) H locs hW ls (lv_sub hl [0, 2, 3, 4] rfl)
                  · skip
                    refine lv_iload hx hb dX5_go_168 (lv_at hl 0 rfl) ?_
                    refine lv_goto (tgt := 185) hx hb dX5_go_170 (by decide) ?_
                    refine u_iast (cf' := cM cyI cyZ ad n t md (mlD n cd jd jn) (mlN n cd jn) (upd f ((6 * i) + j) ((f ((6 * i) + k)) + (f ((6 * k) + j)))) od bs ab be hh) C hW (by decide) cM_5 0 rfl ((6 * i) + j) rfl (by omega) (by decide) cM_s5 dX5_go_185 (fun H locs hW => ?_)
                    refine lv_iinc (v := nI (j + 1)) (lv' := [(4, .int (nI (j + 1))), (5, .int ((f ((6 * i) + k)) + (f ((6 * k) + j)))), (0, .ref (ad 0)), (2, .int (nI k)), (3, .int (nI i))]) hx hb dX5_go_186 hl (k := 1) rfl (nI_1 _) (by decide) rfl (fun ls hl => ?_)
                    refine lv_goto (tgt := 105) hx hb dX5_go_189 (by decide) ?_
                    exact ih105  (j + 1) (upd f ((6 * i) + j) ((f ((6 * i) + k)) + (f ((6 * k) + j)))) (by omega) (by have h9 := r105; simp only [lp_s, lp_0, fwJ, if_neg c165_1] at h9; exact h9) H locs hW ls (lv_sub hl [0, 2, 3, 4] rfl)
              exact L105 n 0 f (by omega) r94 H locs hW ls (lv_sub hl [0, 2, 3, 1] rfl)
          exact L94 n 0 f (by omega) r84 H locs hW ls (lv_sub hl [0, 2, 1] rfl)
      exact L84 n 0 f (by omega) (by have h9 : f = _ := r7; rw [h9]; rfl) H locs hW ls (lv_sub hl [0, 1] rfl)
    | succ k7 ih7 =>
      intro i f hi r7 H locs hW ls hl
      refine lv_iload_n hx hb dX5_go_7 rfl (lv_at hl 0 rfl) ?_
      refine lv_aload_n hx hb dX5_go_8 rfl (lv_at hl 1 rfl) ?_
      refine u_get C hW inlX5 (by decide) cM_0 rfl 0 (by decide) mw_71 rfl dX5_go_9 ?_
      refine lv_icmp_ge (tgt := 82) hx hb dX5_go_12 (by decide) (fun c9 => absurd c9 (nI_ge (by omega) (by omega))) (fun _ => ?_)
      refine lv_iconst (v := 0) hx hb dX5_go_15 (by decide) ?_
      refine lv_istore_n (lv' := [(3, .int 0), (2, .int (nI i)), (0, .ref (ad 0))]) hx hb dX5_go_16 rfl hl (by decide) rfl (fun ls hl => ?_)
      have L17 : ∀ (k17 : Nat) (j : Nat) (f : Nat → Int32), j + k17 = n → lp (gwO n (mlD n cd jd jn) t) (i + 1) k7 (lp (gwI (mlD n cd jd jn) t i) j k17 f) = gwV n (mlD n cd jd jn) t wm → ∀ (H : Heap) (locs : List Loc), Wd D 7 ad (cM cyI cyZ ad n t md (mlD n cd jd jn) (mlN n cd jn) f od bs ab be hh) A s.heap H locs → ∀ ls : Array Slot, lv_has ls 6 [(3, .int (nI j)), (0, .ref (ad 0)), (2, .int (nI i))] → W p l e ({ frames := 2, cells := 0, slots := 0, locals := 47 } : Room) s m args below meth c H locs 0 0 (MQ below (uQ D 7 ad (cM cyI cyZ ad n t md (mlD n cd jd jn) (mlN n cd jn) (mgo n t jd jn wm cd) od bs ab be hh) (none) A) args s 0 0 A) (F0 m 17 ls []) := by
        intro k17
        induction k17 with
        | zero =>
          intro j f hj r17 H locs hW ls hl
          refine lv_iload_n hx hb dX5_go_17 rfl (lv_at hl 0 rfl) ?_
          refine lv_aload_n hx hb dX5_go_18 rfl (lv_at hl 1 rfl) ?_
          refine u_get C hW inlX5 (by decide) cM_0 rfl 0 (by decide) mw_71 rfl dX5_go_19 ?_
          refine lv_icmp_ge (tgt := 76) hx hb dX5_go_22 (by decide) (fun _ => ?_) (fun c9 => absurd (nI_le (by omega) (by omega)) c9)
          refine lv_iinc (v := nI (i + 1)) (lv' := [(2, .int (nI (i + 1))), (3, .int (nI j)), (0, .ref (ad 0))]) hx hb dX5_go_76 hl (k := 2) rfl (nI_1 _) (by decide) rfl (fun ls hl => ?_)
          refine lv_goto (tgt := 7) hx hb dX5_go_79 (by decide) ?_
          exact ih7  (i + 1) f (by omega) r17 H locs hW ls (lv_sub hl [0, 2] rfl)
        | succ k17 ih17 =>
          intro j f hj r17 H locs hW ls hl
          refine lv_iload_n hx hb dX5_go_17 rfl (lv_at hl 0 rfl) ?_
          refine lv_aload_n hx hb dX5_go_18 rfl (lv_at hl 1 rfl) ?_
          refine u_get C hW inlX5 (by decide) cM_0 rfl 0 (by decide) mw_71 rfl dX5_go_19 ?_
          refine lv_icmp_ge (tgt := 76) hx hb dX5_go_22 (by decide) (fun c9 => absurd c9 (nI_ge (by omega) (by omega))) (fun _ => ?_)
          refine lv_aload_n hx hb dX5_go_25 rfl (lv_at hl 1 rfl) ?_
          refine u_get C hW inlX5 (by decide) cM_0 rfl 6 (by decide) mw_77 rfl dX5_go_26 ?_
          refine lv_bipush (v := 6) hx hb dX5_go_29 (by decide) ?_
          refine lv_iload_n hx hb dX5_go_31 rfl (lv_at hl 2 rfl) ?_
          refine lv_imul hx hb dX5_go_32 ?_
          refine u_top (show 6 * (nI i) = nI (6 * i) from pk_mul 6 i) ?_
          refine lv_iload_n hx hb dX5_go_33 rfl (lv_at hl 0 rfl) ?_
          refine lv_iadd hx hb dX5_go_34 ?_
          refine u_top (show (nI (6 * i)) + (nI j) = nI ((6 * i) + j) from nI_add (6 * i) j) ?_
          refine lv_iload_n hx hb dX5_go_35 rfl (lv_at hl 2 rfl) ?_
          refine lv_iload_n hx hb dX5_go_36 rfl (lv_at hl 0 rfl) ?_
          refine lv_icmp_ne (tgt := 44) hx hb dX5_go_37 (by decide) (fun c37_2 => ?_) (fun c37_2 => ?_)
          · skip
            refine lv_aload_n hx hb dX5_go_44 rfl (lv_at hl 1 rfl) ?_
            refine u_get C hW inlX5 (by decide) cM_0 rfl 4 (by decide) mw_75 rfl dX5_go_45 ?_
            refine lv_bipush (v := 6) hx hb dX5_go_48 (by decide) ?_
            refine lv_iload_n hx hb dX5_go_50 rfl (lv_at hl 2 rfl) ?_
            refine lv_imul hx hb dX5_go_51 ?_
            refine u_top (show 6 * (nI i) = nI (6 * i) from pk_mul 6 i) ?_
            refine lv_iload_n hx hb dX5_go_52 rfl (lv_at hl 0 rfl) ?_
            refine lv_iadd hx hb dX5_go_53 ?_
            refine u_top (show (nI (6 * i)) + (nI j) = nI ((6 * i) + j) from nI_add (6 * i) j) ?_
            refine u_zald C hW (by decide) cM_3 2 rfl ((6 * i) + j) rfl (by omega) (by decide) dX5_go_54 ?_
            refine lv_if_eq (tgt := 67) hx hb dX5_go_55 (by decide) (fun c55_3 => ?_) (fun c55_3 => ?_)
            · skip
              refine lv_ldc (v := 1000000) hx hb C.2.2.2.1 (C.2.2.2.2.1 _ mw_352) dX5_go_67 ?_
              refine u_iast (cf' := cM cyI cyZ ad n t md (mlD n cd jd jn) (mlN n cd jn) (upd f ((6 * i) + j) 1000000) od bs ab be hh) C hW (by decide) cM_5 0 rfl ((6 * i) + j) rfl (by omega) (by decide) cM_s5 dX5_go_69 (fun H locs hW => ?_)
              refine lv_iinc (v := nI (j + 1)) (lv' := [(3, .int (nI (j + 1))), (0, .ref (ad 0)), (2, .int (nI i))]) hx hb dX5_go_70 hl (k := 0) rfl (nI_1 _) (by decide) rfl (fun ls hl => ?_)
              refine lv_goto (tgt := 17) hx hb dX5_go_73 (by decide) ?_
              exact ih17  (j + 1) (upd f ((6 * i) + j) 1000000) (by omega) (by have h9 := r17; simp only [lp_s, lp_0, gwI, if_neg c37_2, if_pos c55_3] at h9; exact h9) H locs hW ls (lv_sub hl [0, 1, 2] rfl)
            · skip
              refine lv_aload_n hx hb dX5_go_58 rfl (lv_at hl 1 rfl) ?_
              refine lv_iload_n hx hb dX5_go_59 rfl (lv_at hl 2 rfl) ?_
              refine lv_iload_n hx hb dX5_go_60 rfl (lv_at hl 0 rfl) ?_
              refine u_callV (cf' := cM cyI cyZ ad n t md (mlD n cd jd jn) (mlN n cd jn) f od bs ab be hh) (As := [.int (nI i), .int (nI j)]) (rest := [.int (nI ((6 * i) + j)), .ref (ad 5)]) (st1 := [.int (t (6 * i + j)), .int (nI ((6 * i) + j)), .ref (ad 5)]) C hW (c_X5_d l D cyI cO cyZ ad fa n t md (mlD n cd jd jn) (mlN n cd jn) f od bs ab be hh i j (by omega) (by omega)) mv_yX5_d mw_126 rfl ⟨rfl, rfl, Nat.le_of_ble_eq_true rfl, Nat.le_of_ble_eq_true rfl⟩ (by decide) cM_0 rfl rfl hl (Nat.le_of_ble_eq_true rfl) rfl rfl dX5_go_61 (fun H locs hW => ?_)
              refine lv_goto (tgt := 69) hx hb dX5_go_64 (by decide) ?_
              refine u_iast (cf' := cM cyI cyZ ad n t md (mlD n cd jd jn) (mlN n cd jn) (upd f ((6 * i) + j) (t (6 * i + j))) od bs ab be hh) C hW (by decide) cM_5 0 rfl ((6 * i) + j) rfl (by omega) (by decide) cM_s5 dX5_go_69 (fun H locs hW => ?_)
              refine lv_iinc (v := nI (j + 1)) (lv' := [(3, .int (nI (j + 1))), (0, .ref (ad 0)), (2, .int (nI i))]) hx hb dX5_go_70 hl (k := 0) rfl (nI_1 _) (by decide) rfl (fun ls hl => ?_)
              refine lv_goto (tgt := 17) hx hb dX5_go_73 (by decide) ?_
              exact ih17  (j + 1) (upd f ((6 * i) + j) (t (6 * i + j))) (by omega) (by have h9 := r17; simp only [lp_s, lp_0, gwI, if_neg c37_2, if_neg c55_3] at h9; exact h9) H locs hW ls (lv_sub hl [0, 1, 2] rfl)
          · skip
            refine lv_iconst (v := 0) hx hb dX5_go_40 (by decide) ?_
            refine lv_goto (tgt := 69) hx hb dX5_go_41 (by decide) ?_
            refine u_iast (cf' := cM cyI cyZ ad n t md (mlD n cd jd jn) (mlN n cd jn) (upd f ((6 * i) + j) 0) od bs ab be hh) C hW (by decide) cM_5 0 rfl ((6 * i) + j) rfl (by omega) (by decide) cM_s5 dX5_go_69 (fun H locs hW => ?_)
            refine lv_iinc (v := nI (j + 1)) (lv' := [(3, .int (nI (j + 1))), (0, .ref (ad 0)), (2, .int (nI i))]) hx hb dX5_go_70 hl (k := 0) rfl (nI_1 _) (by decide) rfl (fun ls hl => ?_)
            refine lv_goto (tgt := 17) hx hb dX5_go_73 (by decide) ?_
            exact ih17  (j + 1) (upd f ((6 * i) + j) 0) (by omega) (by have h9 := r17; simp only [lp_s, lp_0, gwI, if_pos c37_2] at h9; exact h9) H locs hW ls (lv_sub hl [0, 1, 2] rfl)
      exact L17 n 0 f (by omega) r7 H locs hW ls (lv_sub hl [0, 2, 1] rfl)
  exact L7 n 0 wm (by omega) rfl H locs hW ls (lv_sub hl [0, 1] rfl)
set_option maxHeartbeats 4000000 in
set_option maxRecDepth 100000 in
theorem c_X5_joined (l : Launch) (D : va_G) (cyI cO cyZ : ClassId) (ad : Nat → Nat) (fa : Nat) (n : Nat) (t md jd jn wm od : Nat → Int32) (bs : Int32) (ab be hh : Int64) (cd x y : Int32) (hn : n ≤ 6) (h2 : 2 ≤ n) (hL : ∀ (cd : Nat), cd < cmV n → ∀ jn : Nat → Int32, LfOK n cd jn) : Ct l yX5_joined (Cond.code yX5_joined cX5_joined 4 (some .int) :: wsL_law) ({ frames := 2, cells := 0, slots := 0, locals := 47 } : Room) D (ty3 cyI cO cyZ) 7 ad fa [.ref (ad 0), .int cd, .int x, .int y] (cM cyI cyZ ad n t md jd jn wm od bs ab be hh) (cM cyI cyZ ad n t md (m3 n cd x y jd (mlD n (tn cd) jd jn)) (m3 n cd x y jn (mlN n (tn cd) jn)) wm od bs ab be hh) (some (.int (mjR n jd jn cd x y))) := by
  refine Ct.of (by decide) (Nat.le_of_ble_eq_true rfl) ?_
  intro p e s m args below meth c A C hr H locs hW ls hl
  have C : Cx p s m args meth c cX5_joined 4 RX5 D (ty3 cyI cO cyZ) fa A := C
  have hx := C.1
  have hb := C.2.1
  have hl : lv_has ls 4 [(0, .ref (ad 0)), (1, .int cd), (2, .int x), (3, .int y)] := hl
  refine lv_aload_n hx hb dX5_joined_0 rfl (lv_at hl 0 rfl) ?_
  refine lv_iload_n hx hb dX5_joined_1 rfl (lv_at hl 1 rfl) ?_
  refine u_callV (cf' := cM cyI cyZ ad n t md jd jn wm od bs ab be hh) (As := [.int cd]) (rest := []) (st1 := [.int (icM n cd)]) C hW (c_X5_isCode l D cyI cO cyZ ad fa n t md jd jn wm od bs ab be hh cd (by omega) (by omega)) mv_yX5_isCode mw_315 rfl ⟨rfl, rfl, Nat.le_of_ble_eq_true rfl, Nat.le_of_ble_eq_true rfl⟩ (by decide) cM_0 rfl rfl hl (Nat.le_of_ble_eq_true rfl) rfl rfl dX5_joined_2 (fun H locs hW => ?_)
  refine lv_if_ne (tgt := 11) hx hb dX5_joined_5 (by decide) (fun c5_1 => ?_) (fun c5_1 => ?_)
  · skip
    refine lv_aload_n hx hb dX5_joined_11 rfl (lv_at hl 0 rfl) ?_
    refine lv_iload_n hx hb dX5_joined_12 rfl (lv_at hl 2 rfl) ?_
    refine u_callV (cf' := cM cyI cyZ ad n t md jd jn wm od bs ab be hh) (As := [.int x]) (rest := []) (st1 := [.int (knM n x)]) C hW (c_X5_isPoint l D cyI cO cyZ ad fa n t md jd jn wm od bs ab be hh x (by omega) (by omega)) mv_yX5_isPoint mw_114 rfl ⟨rfl, rfl, Nat.le_of_ble_eq_true rfl, Nat.le_of_ble_eq_true rfl⟩ (by decide) cM_0 rfl rfl hl (Nat.le_of_ble_eq_true rfl) rfl rfl dX5_joined_13 (fun H locs hW => ?_)
    refine lv_if_eq (tgt := 27) hx hb dX5_joined_16 (by decide) (fun c16_2 => ?_) (fun c16_2 => ?_)
    · skip
      refine lv_bipush (v := -101) hx hb dX5_joined_27 (by decide) ?_
      exact u_iret C hr hW dX5_joined_29 (by simp only [mjR, if_neg c5_1, if_pos c16_2]) (by simp only [m3, if_neg c5_1, if_pos c16_2])
    · skip
      refine lv_aload_n hx hb dX5_joined_19 rfl (lv_at hl 0 rfl) ?_
      refine lv_iload_n hx hb dX5_joined_20 rfl (lv_at hl 3 rfl) ?_
      refine u_callV (cf' := cM cyI cyZ ad n t md jd jn wm od bs ab be hh) (As := [.int y]) (rest := []) (st1 := [.int (knM n y)]) C hW (c_X5_isPoint l D cyI cO cyZ ad fa n t md jd jn wm od bs ab be hh y (by omega) (by omega)) mv_yX5_isPoint mw_114 rfl ⟨rfl, rfl, Nat.le_of_ble_eq_true rfl, Nat.le_of_ble_eq_true rfl⟩ (by decide) cM_0 rfl rfl hl (Nat.le_of_ble_eq_true rfl) rfl rfl dX5_joined_21 (fun H locs hW => ?_)
      refine lv_if_ne (tgt := 30) hx hb dX5_joined_24 (by decide) (fun c24_3 => ?_) (fun c24_3 => ?_)
      · skip
        have hc1 := (icM_tn hn h2 c5_1).2
        have hk1 := (knM_tn hn h2 c16_2).2
        have hk2 := (knM_tn hn h2 c24_3).2
        refine lv_aload_n hx hb dX5_joined_30 rfl (lv_at hl 0 rfl) ?_
        refine lv_iload_n hx hb dX5_joined_31 rfl (lv_at hl 1 rfl) ?_
        refine u_top (show cd = nI (tn cd) from (icM_tn hn h2 c5_1).1) ?_
        refine u_callV (cf' := cM cyI cyZ ad n t md (mlD n (tn cd) jd jn) (mlN n (tn cd) jn) wm od bs ab be hh) (As := [.int (nI (tn cd))]) (rest := []) (st1 := []) C hW (c_X5_lay l D cyI cO cyZ ad fa n t md jd jn wm od bs ab be hh (tn cd) (by omega) (by omega) (by omega) (hL (tn cd) hc1 jn)) mv_yX5_lay mw_319 rfl ⟨rfl, rfl, Nat.le_of_ble_eq_true rfl, Nat.le_of_ble_eq_true rfl⟩ (by decide) cM_0 rfl rfl hl (Nat.le_of_ble_eq_true rfl) rfl rfl dX5_joined_32 (fun H locs hW => ?_)
        refine lv_aload_n hx hb dX5_joined_35 rfl (lv_at hl 0 rfl) ?_
        refine u_get C hW inlX5 (by decide) cM_0 rfl 4 (by decide) mw_75 rfl dX5_joined_36 ?_
        refine lv_bipush (v := 6) hx hb dX5_joined_39 (by decide) ?_
        refine lv_iload_n hx hb dX5_joined_41 rfl (lv_at hl 2 rfl) ?_
        refine u_top (show x = nI (tn x) from (knM_tn hn h2 c16_2).1) ?_
        refine lv_imul hx hb dX5_joined_42 ?_
        refine u_top (show 6 * (nI (tn x)) = nI (6 * (tn x)) from pk_mul 6 (tn x)) ?_
        refine lv_iload_n hx hb dX5_joined_43 rfl (lv_at hl 3 rfl) ?_
        refine u_top (show y = nI (tn y) from (knM_tn hn h2 c24_3).1) ?_
        refine lv_iadd hx hb dX5_joined_44 ?_
        refine u_top (show (nI (6 * (tn x))) + (nI (tn y)) = nI ((6 * (tn x)) + (tn y)) from nI_add (6 * (tn x)) (tn y)) ?_
        refine u_zald C hW (by decide) cM_3 2 rfl ((6 * (tn x)) + (tn y)) rfl (by omega) (by decide) dX5_joined_45 ?_
        refine lv_if_eq (tgt := 53) hx hb dX5_joined_46 (by decide) (fun c46_4 => ?_) (fun c46_4 => ?_)
        · skip
          refine lv_iconst (v := 0) hx hb dX5_joined_53 (by decide) ?_
          exact u_iret C hr hW dX5_joined_54 (by simp only [mjR, if_neg c5_1, if_neg c16_2, if_neg c24_3, if_pos c46_4]) (by simp only [m3, if_neg c5_1, if_neg c16_2, if_neg c24_3, if_pos c46_4])
        · skip
          refine lv_iconst (v := 1) hx hb dX5_joined_49 (by decide) ?_
          refine lv_goto (tgt := 54) hx hb dX5_joined_50 (by decide) ?_
          exact u_iret C hr hW dX5_joined_54 (by simp only [mjR, if_neg c5_1, if_neg c16_2, if_neg c24_3, if_neg c46_4]) (by simp only [m3, if_neg c5_1, if_neg c16_2, if_neg c24_3, if_neg c46_4])
      · skip
        refine lv_bipush (v := -101) hx hb dX5_joined_27 (by decide) ?_
        exact u_iret C hr hW dX5_joined_29 (by simp only [mjR, if_neg c5_1, if_neg c16_2, if_pos c24_3]) (by simp only [m3, if_neg c5_1, if_neg c16_2, if_pos c24_3])
  · skip
    refine lv_bipush (v := -102) hx hb dX5_joined_8 (by decide) ?_
    exact u_iret C hr hW dX5_joined_10 (by simp only [mjR, if_pos c5_1]) (by simp only [m3, if_pos c5_1])
set_option maxHeartbeats 4000000 in
set_option maxRecDepth 100000 in
theorem c_X5_way (l : Launch) (D : va_G) (cyI cO cyZ : ClassId) (ad : Nat → Nat) (fa : Nat) (n : Nat) (t md jd jn wm od : Nat → Int32) (bs : Int32) (ab be hh : Int64) (cd x y : Int32) (hn : n ≤ 6) (h2 : 2 ≤ n) (hL : ∀ (cd : Nat), cd < cmV n → ∀ jn : Nat → Int32, LfOK n cd jn) : Ct l yX5_way (Cond.code yX5_way cX5_way 4 (some .int) :: wsL_law) ({ frames := 3, cells := 0, slots := 0, locals := 72 } : Room) D (ty3 cyI cO cyZ) 7 ad fa [.ref (ad 0), .int cd, .int x, .int y] (cM cyI cyZ ad n t md jd jn wm od bs ab be hh) (cM cyI cyZ ad n t md (m3 n cd x y jd (mlD n (tn cd) jd jn)) (m3 n cd x y jn (mlN n (tn cd) jn)) (m3 n cd x y wm (mgo n t jd jn wm (tn cd))) od bs ab be hh) (some (.int (mwR n t jd jn wm cd x y))) := by
  refine Ct.of (by decide) (Nat.le_of_ble_eq_true rfl) ?_
  intro p e s m args below meth c A C hr H locs hW ls hl
  have C : Cx p s m args meth c cX5_way 4 RX5 D (ty3 cyI cO cyZ) fa A := C
  have hx := C.1
  have hb := C.2.1
  have hl : lv_has ls 4 [(0, .ref (ad 0)), (1, .int cd), (2, .int x), (3, .int y)] := hl
  refine lv_aload_n hx hb dX5_way_0 rfl (lv_at hl 0 rfl) ?_
  refine lv_iload_n hx hb dX5_way_1 rfl (lv_at hl 1 rfl) ?_
  refine u_callV (cf' := cM cyI cyZ ad n t md jd jn wm od bs ab be hh) (As := [.int cd]) (rest := []) (st1 := [.int (icM n cd)]) C hW (c_X5_isCode l D cyI cO cyZ ad fa n t md jd jn wm od bs ab be hh cd (by omega) (by omega)) mv_yX5_isCode mw_315 rfl ⟨rfl, rfl, Nat.le_of_ble_eq_true rfl, Nat.le_of_ble_eq_true rfl⟩ (by decide) cM_0 rfl rfl hl (Nat.le_of_ble_eq_true rfl) rfl rfl dX5_way_2 (fun H locs hW => ?_)
  refine lv_if_ne (tgt := 11) hx hb dX5_way_5 (by decide) (fun c5_1 => ?_) (fun c5_1 => ?_)
  · skip
    refine lv_aload_n hx hb dX5_way_11 rfl (lv_at hl 0 rfl) ?_
    refine lv_iload_n hx hb dX5_way_12 rfl (lv_at hl 2 rfl) ?_
    refine u_callV (cf' := cM cyI cyZ ad n t md jd jn wm od bs ab be hh) (As := [.int x]) (rest := []) (st1 := [.int (knM n x)]) C hW (c_X5_isPoint l D cyI cO cyZ ad fa n t md jd jn wm od bs ab be hh x (by omega) (by omega)) mv_yX5_isPoint mw_114 rfl ⟨rfl, rfl, Nat.le_of_ble_eq_true rfl, Nat.le_of_ble_eq_true rfl⟩ (by decide) cM_0 rfl rfl hl (Nat.le_of_ble_eq_true rfl) rfl rfl dX5_way_13 (fun H locs hW => ?_)
    refine lv_if_eq (tgt := 27) hx hb dX5_way_16 (by decide) (fun c16_2 => ?_) (fun c16_2 => ?_)
    · skip
      refine lv_bipush (v := -101) hx hb dX5_way_27 (by decide) ?_
      exact u_iret C hr hW dX5_way_29 (by simp only [mwR, if_neg c5_1, if_pos c16_2]) (by simp only [m3, if_neg c5_1, if_pos c16_2])
    · skip
      refine lv_aload_n hx hb dX5_way_19 rfl (lv_at hl 0 rfl) ?_
      refine lv_iload_n hx hb dX5_way_20 rfl (lv_at hl 3 rfl) ?_
      refine u_callV (cf' := cM cyI cyZ ad n t md jd jn wm od bs ab be hh) (As := [.int y]) (rest := []) (st1 := [.int (knM n y)]) C hW (c_X5_isPoint l D cyI cO cyZ ad fa n t md jd jn wm od bs ab be hh y (by omega) (by omega)) mv_yX5_isPoint mw_114 rfl ⟨rfl, rfl, Nat.le_of_ble_eq_true rfl, Nat.le_of_ble_eq_true rfl⟩ (by decide) cM_0 rfl rfl hl (Nat.le_of_ble_eq_true rfl) rfl rfl dX5_way_21 (fun H locs hW => ?_)
      refine lv_if_ne (tgt := 30) hx hb dX5_way_24 (by decide) (fun c24_3 => ?_) (fun c24_3 => ?_)
      · skip
        have hc1 := (icM_tn hn h2 c5_1).2
        have hk1 := (knM_tn hn h2 c16_2).2
        have hk2 := (knM_tn hn h2 c24_3).2
        refine lv_aload_n hx hb dX5_way_30 rfl (lv_at hl 0 rfl) ?_
        refine lv_iload_n hx hb dX5_way_31 rfl (lv_at hl 1 rfl) ?_
        refine u_top (show cd = nI (tn cd) from (icM_tn hn h2 c5_1).1) ?_
        refine u_callV (cf' := cM cyI cyZ ad n t md (mlD n (tn cd) jd jn) (mlN n (tn cd) jn) (mgo n t jd jn wm (tn cd)) od bs ab be hh) (As := [.int (nI (tn cd))]) (rest := []) (st1 := []) C hW (c_X5_go l D cyI cO cyZ ad fa n t md jd jn wm od bs ab be hh (tn cd) (by omega) (by omega) (by omega) (hL (tn cd) hc1 jn)) mv_yX5_go mw_348 rfl ⟨rfl, rfl, Nat.le_of_ble_eq_true rfl, Nat.le_of_ble_eq_true rfl⟩ (by decide) cM_0 rfl rfl hl (Nat.le_of_ble_eq_true rfl) rfl rfl dX5_way_32 (fun H locs hW => ?_)
        refine lv_aload_n hx hb dX5_way_35 rfl (lv_at hl 0 rfl) ?_
        refine u_get C hW inlX5 (by decide) cM_0 rfl 6 (by decide) mw_77 rfl dX5_way_36 ?_
        refine lv_bipush (v := 6) hx hb dX5_way_39 (by decide) ?_
        refine lv_iload_n hx hb dX5_way_41 rfl (lv_at hl 2 rfl) ?_
        refine u_top (show x = nI (tn x) from (knM_tn hn h2 c16_2).1) ?_
        refine lv_imul hx hb dX5_way_42 ?_
        refine u_top (show 6 * (nI (tn x)) = nI (6 * (tn x)) from pk_mul 6 (tn x)) ?_
        refine lv_iload_n hx hb dX5_way_43 rfl (lv_at hl 3 rfl) ?_
        refine u_top (show y = nI (tn y) from (knM_tn hn h2 c24_3).1) ?_
        refine lv_iadd hx hb dX5_way_44 ?_
        refine u_top (show (nI (6 * (tn x))) + (nI (tn y)) = nI ((6 * (tn x)) + (tn y)) from nI_add (6 * (tn x)) (tn y)) ?_
        refine u_iald C hW (by decide) cM_5 0 rfl ((6 * (tn x)) + (tn y)) rfl (by omega) (by decide) dX5_way_45 ?_
        exact u_iret C hr hW dX5_way_46 (by simp only [mwR, if_neg c5_1, if_neg c16_2, if_neg c24_3]) (by simp only [m3, if_neg c5_1, if_neg c16_2, if_neg c24_3])
      · skip
        refine lv_bipush (v := -101) hx hb dX5_way_27 (by decide) ?_
        exact u_iret C hr hW dX5_way_29 (by simp only [mwR, if_neg c5_1, if_neg c16_2, if_pos c24_3]) (by simp only [m3, if_neg c5_1, if_neg c16_2, if_pos c24_3])
  · skip
    refine lv_bipush (v := -102) hx hb dX5_way_8 (by decide) ?_
    exact u_iret C hr hW dX5_way_10 (by simp only [mwR, if_pos c5_1]) (by simp only [m3, if_pos c5_1])
set_option maxHeartbeats 4000000 in
set_option maxRecDepth 100000 in
theorem c_X5_stretchNow (l : Launch) (D : va_G) (cyI cO cyZ : ClassId) (ad : Nat → Nat) (fa : Nat) (n : Nat) (t md jd jn wm od : Nat → Int32) (bs : Int32) (ab be hh : Int64)  (hn : n ≤ 6) : Ct l yX5_stretchNow (Cond.code yX5_stretchNow cX5_stretchNow 3 none :: wsL_law) ({ frames := 1, cells := 0, slots := 0, locals := 22 } : Room) D (ty3 cyI cO cyZ) 7 ad fa [.ref (ad 0)] (cM cyI cyZ ad n t md jd jn wm od bs ab be hh) (cM cyI cyZ ad n t md jd jn wm od bs ((msV n t wm).1) ((msV n t wm).2) hh) (none) := by
  refine Ct.of (by decide) (Nat.le_of_ble_eq_true rfl) ?_
  intro p e s m args below meth c A C hr H locs hW ls hl
  have C : Cx p s m args meth c cX5_stretchNow 3 RX5 D (ty3 cyI cO cyZ) fa A := C
  have hx := C.1
  have hb := C.2.1
  have hl : lv_has ls 3 [(0, .ref (ad 0))] := hl
  refine lv_aload_n hx hb dX5_stretchNow_0 rfl (lv_at hl 0 rfl) ?_
  refine lv_lconst (v := 0) hx hb dX5_stretchNow_1 (by decide) ?_
  refine u_put (cf' := cM cyI cyZ ad n t md jd jn wm od bs 0 be hh) C hW inlX5 tyX5 tyX5_ok nmX5 (by decide) cM_0 rfl 7 (by decide) mw_370 rfl rfl rfl (Nat.le_of_ble_eq_true rfl) cM_s0 dX5_stretchNow_2 (fun H locs hW => ?_)
  refine lv_aload_n hx hb dX5_stretchNow_5 rfl (lv_at hl 0 rfl) ?_
  refine lv_lconst (v := 1) hx hb dX5_stretchNow_6 (by decide) ?_
  refine u_put (cf' := cM cyI cyZ ad n t md jd jn wm od bs 0 1 hh) C hW inlX5 tyX5 tyX5_ok nmX5 (by decide) cM_0 rfl 8 (by decide) mw_371 rfl rfl rfl (Nat.le_of_ble_eq_true rfl) cM_s0 dX5_stretchNow_7 (fun H locs hW => ?_)
  refine lv_iconst (v := 0) hx hb dX5_stretchNow_10 (by decide) ?_
  refine lv_istore_n (lv' := [(1, .int 0), (0, .ref (ad 0))]) hx hb dX5_stretchNow_11 rfl hl (by decide) rfl (fun ls hl => ?_)
  have L12 : ∀ (k12 : Nat) (i : Nat) (x : Int64) (y : Int64), i + k12 = n → lp (msO n t wm) i k12 (x, y) = msV n t wm → ∀ (H : Heap) (locs : List Loc), Wd D 7 ad (cM cyI cyZ ad n t md jd jn wm od bs x y hh) A s.heap H locs → ∀ ls : Array Slot, lv_has ls 3 [(1, .int (nI i)), (0, .ref (ad 0))] → W p l e ({ frames := 1, cells := 0, slots := 0, locals := 22 } : Room) s m args below meth c H locs 0 0 (MQ below (uQ D 7 ad (cM cyI cyZ ad n t md jd jn wm od bs ((msV n t wm).1) ((msV n t wm).2) hh) (none) A) args s 0 0 A) (F0 m 12 ls []) := by
    intro k12
    induction k12 with
    | zero =>
      intro i x y hi r12 H locs hW ls hl
      refine lv_iload_n hx hb dX5_stretchNow_12 rfl (lv_at hl 0 rfl) ?_
      refine lv_aload_n hx hb dX5_stretchNow_13 rfl (lv_at hl 1 rfl) ?_
      refine u_get C hW inlX5 (by decide) cM_0 rfl 0 (by decide) mw_71 rfl dX5_stretchNow_14 ?_
      refine lv_icmp_ge (tgt := 104) hx hb dX5_stretchNow_17 (by decide) (fun _ => ?_) (fun c9 => absurd (nI_le (by omega) (by omega)) c9)
      exact u_vret C hr hW dX5_stretchNow_104 (by rw [← r12]; rfl)
    | succ k12 ih12 =>
      intro i x y hi r12 H locs hW ls hl
      refine lv_iload_n hx hb dX5_stretchNow_12 rfl (lv_at hl 0 rfl) ?_
      refine lv_aload_n hx hb dX5_stretchNow_13 rfl (lv_at hl 1 rfl) ?_
      refine u_get C hW inlX5 (by decide) cM_0 rfl 0 (by decide) mw_71 rfl dX5_stretchNow_14 ?_
      refine lv_icmp_ge (tgt := 104) hx hb dX5_stretchNow_17 (by decide) (fun c9 => absurd c9 (nI_ge (by omega) (by omega))) (fun _ => ?_)
      refine lv_iload_n hx hb dX5_stretchNow_20 rfl (lv_at hl 0 rfl) ?_
      refine lv_iconst (v := 1) hx hb dX5_stretchNow_21 (by decide) ?_
      refine lv_iadd hx hb dX5_stretchNow_22 ?_
      refine u_top (show (nI i) + 1 = nI (i + 1) from nI_add i 1) ?_
      refine lv_istore_n (lv' := [(2, .int (nI (i + 1))), (1, .int (nI i)), (0, .ref (ad 0))]) hx hb dX5_stretchNow_23 rfl hl (by decide) rfl (fun ls hl => ?_)
      have L24 : ∀ (k24 : Nat) (j : Nat) (x : Int64) (y : Int64), j + k24 = n → lp (msO n t wm) (i + 1) k12 (lp (msI t wm i) j k24 (x, y)) = msV n t wm → ∀ (H : Heap) (locs : List Loc), Wd D 7 ad (cM cyI cyZ ad n t md jd jn wm od bs x y hh) A s.heap H locs → ∀ ls : Array Slot, lv_has ls 3 [(2, .int (nI j)), (0, .ref (ad 0)), (1, .int (nI i))] → W p l e ({ frames := 1, cells := 0, slots := 0, locals := 22 } : Room) s m args below meth c H locs 0 0 (MQ below (uQ D 7 ad (cM cyI cyZ ad n t md jd jn wm od bs ((msV n t wm).1) ((msV n t wm).2) hh) (none) A) args s 0 0 A) (F0 m 24 ls []) := by
        intro k24
        induction k24 with
        | zero =>
          intro j x y hj r24 H locs hW ls hl
          refine lv_iload_n hx hb dX5_stretchNow_24 rfl (lv_at hl 0 rfl) ?_
          refine lv_aload_n hx hb dX5_stretchNow_25 rfl (lv_at hl 1 rfl) ?_
          refine u_get C hW inlX5 (by decide) cM_0 rfl 0 (by decide) mw_71 rfl dX5_stretchNow_26 ?_
          refine lv_icmp_ge (tgt := 98) hx hb dX5_stretchNow_29 (by decide) (fun _ => ?_) (fun c9 => absurd (nI_le (by omega) (by omega)) c9)
          refine lv_iinc (v := nI (i + 1)) (lv' := [(1, .int (nI (i + 1))), (2, .int (nI j)), (0, .ref (ad 0))]) hx hb dX5_stretchNow_98 hl (k := 2) rfl (nI_1 _) (by decide) rfl (fun ls hl => ?_)
          refine lv_goto (tgt := 12) hx hb dX5_stretchNow_101 (by decide) ?_
          exact ih12  (i + 1) x y (by omega) r24 H locs hW ls (lv_sub hl [0, 2] rfl)
        | succ k24 ih24 =>
          intro j x y hj r24 H locs hW ls hl
          refine lv_iload_n hx hb dX5_stretchNow_24 rfl (lv_at hl 0 rfl) ?_
          refine lv_aload_n hx hb dX5_stretchNow_25 rfl (lv_at hl 1 rfl) ?_
          refine u_get C hW inlX5 (by decide) cM_0 rfl 0 (by decide) mw_71 rfl dX5_stretchNow_26 ?_
          refine lv_icmp_ge (tgt := 98) hx hb dX5_stretchNow_29 (by decide) (fun c9 => absurd c9 (nI_ge (by omega) (by omega))) (fun _ => ?_)
          refine lv_aload_n hx hb dX5_stretchNow_32 rfl (lv_at hl 1 rfl) ?_
          refine u_get C hW inlX5 (by decide) cM_0 rfl 6 (by decide) mw_77 rfl dX5_stretchNow_33 ?_
          refine lv_bipush (v := 6) hx hb dX5_stretchNow_36 (by decide) ?_
          refine lv_iload_n hx hb dX5_stretchNow_38 rfl (lv_at hl 2 rfl) ?_
          refine lv_imul hx hb dX5_stretchNow_39 ?_
          refine u_top (show 6 * (nI i) = nI (6 * i) from pk_mul 6 i) ?_
          refine lv_iload_n hx hb dX5_stretchNow_40 rfl (lv_at hl 0 rfl) ?_
          refine lv_iadd hx hb dX5_stretchNow_41 ?_
          refine u_top (show (nI (6 * i)) + (nI j) = nI ((6 * i) + j) from nI_add (6 * i) j) ?_
          refine u_iald C hW (by decide) cM_5 0 rfl ((6 * i) + j) rfl (by omega) (by decide) dX5_stretchNow_42 ?_
          refine lv_i2l hx hb dX5_stretchNow_43 rfl ?_
          refine lv_aload_n hx hb dX5_stretchNow_44 rfl (lv_at hl 1 rfl) ?_
          refine u_get C hW inlX5 (by decide) cM_0 rfl 8 (by decide) mw_371 rfl dX5_stretchNow_45 ?_
          refine lv_lmul hx hb dX5_stretchNow_48 ?_
          refine lv_aload_n hx hb dX5_stretchNow_49 rfl (lv_at hl 1 rfl) ?_
          refine u_get C hW inlX5 (by decide) cM_0 rfl 7 (by decide) mw_370 rfl dX5_stretchNow_50 ?_
          refine lv_aload_n hx hb dX5_stretchNow_53 rfl (lv_at hl 1 rfl) ?_
          refine lv_iload_n hx hb dX5_stretchNow_54 rfl (lv_at hl 2 rfl) ?_
          refine lv_iload_n hx hb dX5_stretchNow_55 rfl (lv_at hl 0 rfl) ?_
          refine u_callV (cf' := cM cyI cyZ ad n t md jd jn wm od bs x y hh) (As := [.int (nI i), .int (nI j)]) (rest := [.long x, .long (((wm ((6 * i) + j)).toInt64) * y)]) (st1 := [.int (t (6 * i + j)), .long x, .long (((wm ((6 * i) + j)).toInt64) * y)]) C hW (c_X5_d l D cyI cO cyZ ad fa n t md jd jn wm od bs x y hh i j (by omega) (by omega)) mv_yX5_d mw_126 rfl ⟨rfl, rfl, Nat.le_of_ble_eq_true rfl, Nat.le_of_ble_eq_true rfl⟩ (by decide) cM_0 rfl rfl hl (Nat.le_of_ble_eq_true rfl) rfl rfl dX5_stretchNow_56 (fun H locs hW => ?_)
          refine lv_i2l hx hb dX5_stretchNow_59 rfl ?_
          refine lv_lmul hx hb dX5_stretchNow_60 ?_
          refine W.lcmp hx hb dX5_stretchNow_61 ?_
          refine lv_if_le (tgt := 92) hx hb dX5_stretchNow_62 (by decide) (fun c62_1 => ?_) (fun c62_1 => ?_)
          · skip
            refine lv_iinc (v := nI (j + 1)) (lv' := [(2, .int (nI (j + 1))), (0, .ref (ad 0)), (1, .int (nI i))]) hx hb dX5_stretchNow_92 hl (k := 0) rfl (nI_1 _) (by decide) rfl (fun ls hl => ?_)
            refine lv_goto (tgt := 24) hx hb dX5_stretchNow_95 (by decide) ?_
            exact ih24  (j + 1) x y (by omega) (by have h9 := r24; simp only [lp_s, lp_0, msI, if_pos c62_1] at h9; exact h9) H locs hW ls (lv_sub hl [0, 1, 2] rfl)
          · skip
            refine lv_aload_n hx hb dX5_stretchNow_65 rfl (lv_at hl 1 rfl) ?_
            refine lv_aload_n hx hb dX5_stretchNow_66 rfl (lv_at hl 1 rfl) ?_
            refine u_get C hW inlX5 (by decide) cM_0 rfl 6 (by decide) mw_77 rfl dX5_stretchNow_67 ?_
            refine lv_bipush (v := 6) hx hb dX5_stretchNow_70 (by decide) ?_
            refine lv_iload_n hx hb dX5_stretchNow_72 rfl (lv_at hl 2 rfl) ?_
            refine lv_imul hx hb dX5_stretchNow_73 ?_
            refine u_top (show 6 * (nI i) = nI (6 * i) from pk_mul 6 i) ?_
            refine lv_iload_n hx hb dX5_stretchNow_74 rfl (lv_at hl 0 rfl) ?_
            refine lv_iadd hx hb dX5_stretchNow_75 ?_
            refine u_top (show (nI (6 * i)) + (nI j) = nI ((6 * i) + j) from nI_add (6 * i) j) ?_
            refine u_iald C hW (by decide) cM_5 0 rfl ((6 * i) + j) rfl (by omega) (by decide) dX5_stretchNow_76 ?_
            refine lv_i2l hx hb dX5_stretchNow_77 rfl ?_
            refine u_put (cf' := cM cyI cyZ ad n t md jd jn wm od bs ((wm ((6 * i) + j)).toInt64) y hh) C hW inlX5 tyX5 tyX5_ok nmX5 (by decide) cM_0 rfl 7 (by decide) mw_370 rfl rfl rfl (Nat.le_of_ble_eq_true rfl) cM_s0 dX5_stretchNow_78 (fun H locs hW => ?_)
            refine lv_aload_n hx hb dX5_stretchNow_81 rfl (lv_at hl 1 rfl) ?_
            refine lv_aload_n hx hb dX5_stretchNow_82 rfl (lv_at hl 1 rfl) ?_
            refine lv_iload_n hx hb dX5_stretchNow_83 rfl (lv_at hl 2 rfl) ?_
            refine lv_iload_n hx hb dX5_stretchNow_84 rfl (lv_at hl 0 rfl) ?_
            refine u_callV (cf' := cM cyI cyZ ad n t md jd jn wm od bs ((wm ((6 * i) + j)).toInt64) y hh) (As := [.int (nI i), .int (nI j)]) (rest := [.ref (ad 0)]) (st1 := [.int (t (6 * i + j)), .ref (ad 0)]) C hW (c_X5_d l D cyI cO cyZ ad fa n t md jd jn wm od bs ((wm ((6 * i) + j)).toInt64) y hh i j (by omega) (by omega)) mv_yX5_d mw_126 rfl ⟨rfl, rfl, Nat.le_of_ble_eq_true rfl, Nat.le_of_ble_eq_true rfl⟩ (by decide) cM_0 rfl rfl hl (Nat.le_of_ble_eq_true rfl) rfl rfl dX5_stretchNow_85 (fun H locs hW => ?_)
            refine lv_i2l hx hb dX5_stretchNow_88 rfl ?_
            refine u_put (cf' := cM cyI cyZ ad n t md jd jn wm od bs ((wm ((6 * i) + j)).toInt64) ((t (6 * i + j)).toInt64) hh) C hW inlX5 tyX5 tyX5_ok nmX5 (by decide) cM_0 rfl 8 (by decide) mw_371 rfl rfl rfl (Nat.le_of_ble_eq_true rfl) cM_s0 dX5_stretchNow_89 (fun H locs hW => ?_)
            refine lv_iinc (v := nI (j + 1)) (lv' := [(2, .int (nI (j + 1))), (0, .ref (ad 0)), (1, .int (nI i))]) hx hb dX5_stretchNow_92 hl (k := 0) rfl (nI_1 _) (by decide) rfl (fun ls hl => ?_)
            refine lv_goto (tgt := 24) hx hb dX5_stretchNow_95 (by decide) ?_
            exact ih24  (j + 1) ((wm ((6 * i) + j)).toInt64) ((t (6 * i + j)).toInt64) (by omega) (by have h9 := r24; simp only [lp_s, lp_0, msI, if_neg c62_1] at h9; exact h9) H locs hW ls (lv_sub hl [0, 1, 2] rfl)
      exact L24 (n - (i + 1)) (i + 1) x y (by omega) r12 H locs hW ls (lv_sub hl [0, 2, 1] rfl)
  exact L12 n 0 0 1 (by omega) rfl H locs hW ls (lv_sub hl [0, 1] rfl)
set_option maxHeartbeats 4000000 in
set_option maxRecDepth 100000 in
theorem c_X5_spreadNow (l : Launch) (D : va_G) (cyI cO cyZ : ClassId) (ad : Nat → Nat) (fa : Nat) (n : Nat) (t md jd jn wm od : Nat → Int32) (bs : Int32) (ab be hh : Int64)  (hn : n ≤ 6) : Ct l yX5_spreadNow (Cond.code yX5_spreadNow cX5_spreadNow 4 (some .int) :: wsL_law) ({ frames := 0, cells := 0, slots := 0, locals := 0 } : Room) D (ty3 cyI cO cyZ) 7 ad fa [.ref (ad 0)] (cM cyI cyZ ad n t md jd jn wm od bs ab be hh) (cM cyI cyZ ad n t md jd jn wm od bs ab be hh) (some (.int (mpV n wm))) := by
  refine Ct.of (by decide) (Nat.le_of_ble_eq_true rfl) ?_
  intro p e s m args below meth c A C hr H locs hW ls hl
  have C : Cx p s m args meth c cX5_spreadNow 4 RX5 D (ty3 cyI cO cyZ) fa A := C
  have hx := C.1
  have hb := C.2.1
  have hl : lv_has ls 4 [(0, .ref (ad 0))] := hl
  refine lv_iconst (v := 0) hx hb dX5_spreadNow_0 (by decide) ?_
  refine lv_istore_n (lv' := [(1, .int 0), (0, .ref (ad 0))]) hx hb dX5_spreadNow_1 rfl hl (by decide) rfl (fun ls hl => ?_)
  refine lv_iconst (v := 0) hx hb dX5_spreadNow_2 (by decide) ?_
  refine lv_istore_n (lv' := [(2, .int 0), (1, .int 0), (0, .ref (ad 0))]) hx hb dX5_spreadNow_3 rfl hl (by decide) rfl (fun ls hl => ?_)
  have L4 : ∀ (k4 : Nat) (i : Nat) (a : Int32), i + k4 = n → lp (mpO n wm) i k4 a = mpV n wm → ∀ (H : Heap) (locs : List Loc), Wd D 7 ad (cM cyI cyZ ad n t md jd jn wm od bs ab be hh) A s.heap H locs → ∀ ls : Array Slot, lv_has ls 4 [(2, .int (nI i)), (0, .ref (ad 0)), (1, .int a)] → W p l e ({ frames := 0, cells := 0, slots := 0, locals := 0 } : Room) s m args below meth c H locs 0 0 (MQ below (uQ D 7 ad (cM cyI cyZ ad n t md jd jn wm od bs ab be hh) (some (.int (mpV n wm))) A) args s 0 0 A) (F0 m 4 ls []) := by
    intro k4
    induction k4 with
    | zero =>
      intro i a hi r4 H locs hW ls hl
      refine lv_iload_n hx hb dX5_spreadNow_4 rfl (lv_at hl 0 rfl) ?_
      refine lv_aload_n hx hb dX5_spreadNow_5 rfl (lv_at hl 1 rfl) ?_
      refine u_get C hW inlX5 (by decide) cM_0 rfl 0 (by decide) mw_71 rfl dX5_spreadNow_6 ?_
      refine lv_icmp_ge (tgt := 50) hx hb dX5_spreadNow_9 (by decide) (fun _ => ?_) (fun c9 => absurd (nI_le (by omega) (by omega)) c9)
      refine lv_iload_n hx hb dX5_spreadNow_50 rfl (lv_at hl 2 rfl) ?_
      exact u_iret C hr hW dX5_spreadNow_51 r4 rfl
    | succ k4 ih4 =>
      intro i a hi r4 H locs hW ls hl
      refine lv_iload_n hx hb dX5_spreadNow_4 rfl (lv_at hl 0 rfl) ?_
      refine lv_aload_n hx hb dX5_spreadNow_5 rfl (lv_at hl 1 rfl) ?_
      refine u_get C hW inlX5 (by decide) cM_0 rfl 0 (by decide) mw_71 rfl dX5_spreadNow_6 ?_
      refine lv_icmp_ge (tgt := 50) hx hb dX5_spreadNow_9 (by decide) (fun c9 => absurd c9 (nI_ge (by omega) (by omega))) (fun _ => ?_)
      refine lv_iload_n hx hb dX5_spreadNow_12 rfl (lv_at hl 0 rfl) ?_
      refine lv_iconst (v := 1) hx hb dX5_spreadNow_13 (by decide) ?_
      refine lv_iadd hx hb dX5_spreadNow_14 ?_
      refine u_top (show (nI i) + 1 = nI (i + 1) from nI_add i 1) ?_
      refine lv_istore_n (lv' := [(3, .int (nI (i + 1))), (2, .int (nI i)), (0, .ref (ad 0)), (1, .int a)]) hx hb dX5_spreadNow_15 rfl hl (by decide) rfl (fun ls hl => ?_)
      have L16 : ∀ (k16 : Nat) (j : Nat) (a : Int32), j + k16 = n → lp (mpO n wm) (i + 1) k4 (lp (mpI wm i) j k16 a) = mpV n wm → ∀ (H : Heap) (locs : List Loc), Wd D 7 ad (cM cyI cyZ ad n t md jd jn wm od bs ab be hh) A s.heap H locs → ∀ ls : Array Slot, lv_has ls 4 [(3, .int (nI j)), (0, .ref (ad 0)), (1, .int a), (2, .int (nI i))] → W p l e ({ frames := 0, cells := 0, slots := 0, locals := 0 } : Room) s m args below meth c H locs 0 0 (MQ below (uQ D 7 ad (cM cyI cyZ ad n t md jd jn wm od bs ab be hh) (some (.int (mpV n wm))) A) args s 0 0 A) (F0 m 16 ls []) := by
        intro k16
        induction k16 with
        | zero =>
          intro j a hj r16 H locs hW ls hl
          refine lv_iload_n hx hb dX5_spreadNow_16 rfl (lv_at hl 0 rfl) ?_
          refine lv_aload_n hx hb dX5_spreadNow_17 rfl (lv_at hl 1 rfl) ?_
          refine u_get C hW inlX5 (by decide) cM_0 rfl 0 (by decide) mw_71 rfl dX5_spreadNow_18 ?_
          refine lv_icmp_ge (tgt := 44) hx hb dX5_spreadNow_21 (by decide) (fun _ => ?_) (fun c9 => absurd (nI_le (by omega) (by omega)) c9)
          refine lv_iinc (v := nI (i + 1)) (lv' := [(2, .int (nI (i + 1))), (3, .int (nI j)), (0, .ref (ad 0)), (1, .int a)]) hx hb dX5_spreadNow_44 hl (k := 3) rfl (nI_1 _) (by decide) rfl (fun ls hl => ?_)
          refine lv_goto (tgt := 4) hx hb dX5_spreadNow_47 (by decide) ?_
          exact ih4  (i + 1) a (by omega) r16 H locs hW ls (lv_sub hl [0, 2, 3] rfl)
        | succ k16 ih16 =>
          intro j a hj r16 H locs hW ls hl
          refine lv_iload_n hx hb dX5_spreadNow_16 rfl (lv_at hl 0 rfl) ?_
          refine lv_aload_n hx hb dX5_spreadNow_17 rfl (lv_at hl 1 rfl) ?_
          refine u_get C hW inlX5 (by decide) cM_0 rfl 0 (by decide) mw_71 rfl dX5_spreadNow_18 ?_
          refine lv_icmp_ge (tgt := 44) hx hb dX5_spreadNow_21 (by decide) (fun c9 => absurd c9 (nI_ge (by omega) (by omega))) (fun _ => ?_)
          refine lv_iload_n hx hb dX5_spreadNow_24 rfl (lv_at hl 2 rfl) ?_
          refine lv_aload_n hx hb dX5_spreadNow_25 rfl (lv_at hl 1 rfl) ?_
          refine u_get C hW inlX5 (by decide) cM_0 rfl 6 (by decide) mw_77 rfl dX5_spreadNow_26 ?_
          refine lv_bipush (v := 6) hx hb dX5_spreadNow_29 (by decide) ?_
          refine lv_iload_n hx hb dX5_spreadNow_31 rfl (lv_at hl 3 rfl) ?_
          refine lv_imul hx hb dX5_spreadNow_32 ?_
          refine u_top (show 6 * (nI i) = nI (6 * i) from pk_mul 6 i) ?_
          refine lv_iload_n hx hb dX5_spreadNow_33 rfl (lv_at hl 0 rfl) ?_
          refine lv_iadd hx hb dX5_spreadNow_34 ?_
          refine u_top (show (nI (6 * i)) + (nI j) = nI ((6 * i) + j) from nI_add (6 * i) j) ?_
          refine u_iald C hW (by decide) cM_5 0 rfl ((6 * i) + j) rfl (by omega) (by decide) dX5_spreadNow_35 ?_
          refine lv_iadd hx hb dX5_spreadNow_36 ?_
          refine lv_istore_n (lv' := [(1, .int (a + (wm ((6 * i) + j)))), (3, .int (nI j)), (0, .ref (ad 0)), (2, .int (nI i))]) hx hb dX5_spreadNow_37 rfl hl (by decide) rfl (fun ls hl => ?_)
          refine lv_iinc (v := nI (j + 1)) (lv' := [(3, .int (nI (j + 1))), (1, .int (a + (wm ((6 * i) + j)))), (0, .ref (ad 0)), (2, .int (nI i))]) hx hb dX5_spreadNow_38 hl (k := 1) rfl (nI_1 _) (by decide) rfl (fun ls hl => ?_)
          refine lv_goto (tgt := 16) hx hb dX5_spreadNow_41 (by decide) ?_
          exact ih16  (j + 1) (a + (wm ((6 * i) + j))) (by omega) r16 H locs hW ls (lv_sub hl [0, 2, 1, 3] rfl)
      exact L16 (n - (i + 1)) (i + 1) a (by omega) r4 H locs hW ls (lv_sub hl [0, 2, 3, 1] rfl)
  exact L4 n 0 0 (by omega) rfl H locs hW ls (lv_sub hl [0, 2, 1] rfl)
set_option maxHeartbeats 4000000 in
set_option maxRecDepth 100000 in
theorem c_X5_stretch (l : Launch) (D : va_G) (cyI cO cyZ : ClassId) (ad : Nat → Nat) (fa : Nat) (n : Nat) (t md jd jn wm od : Nat → Int32) (bs : Int32) (ab be hh : Int64) (cd p0 : Int32) (hn : n ≤ 6) (h2 : 2 ≤ n) (hL : ∀ (cd : Nat), cd < cmV n → ∀ jn : Nat → Int32, LfOK n cd jn) (hT : ¬ icM n cd = 0 → gdT K2 (msV n t (mgo n t jd jn wm (tn cd))).1 (msV n t (mgo n t jd jn wm (tn cd))).2 ∧ ¬ gdL K2 (msV n t (mgo n t jd jn wm (tn cd))).1 (msV n t (mgo n t jd jn wm (tn cd))).2 = 0) : Ct l yX5_stretch (Cond.code yX5_stretch cX5_stretch 9 (some .long) :: wsL_law) ({ frames := 3, cells := 0, slots := 0, locals := 72 } : Room) D (ty3 cyI cO cyZ) 7 ad fa [.ref (ad 0), .int cd, .int p0] (cM cyI cyZ ad n t md jd jn wm od bs ab be hh) (cM cyI cyZ ad n t md (m2 n cd p0 jd (mlD n (tn cd) jd jn)) (m2 n cd p0 jn (mlN n (tn cd) jn)) (m2 n cd p0 wm (mgo n t jd jn wm (tn cd))) od bs (m2 n cd p0 ab ((msV n t (mgo n t jd jn wm (tn cd))).1)) (m2 n cd p0 be ((msV n t (mgo n t jd jn wm (tn cd))).2)) hh) (some (.long (mtR n t (mgo n t jd jn wm (tn cd)) cd p0))) := by
  refine Ct.of (by decide) (Nat.le_of_ble_eq_true rfl) ?_
  intro p e s m args below meth c A C hr H locs hW ls hl
  have C : Cx p s m args meth c cX5_stretch 9 RX5 D (ty3 cyI cO cyZ) fa A := C
  have hx := C.1
  have hb := C.2.1
  have hl : lv_has ls 9 [(0, .ref (ad 0)), (1, .int cd), (2, .int p0)] := hl
  refine lv_aload_n hx hb dX5_stretch_0 rfl (lv_at hl 0 rfl) ?_
  refine lv_iload_n hx hb dX5_stretch_1 rfl (lv_at hl 1 rfl) ?_
  refine u_callV (cf' := cM cyI cyZ ad n t md jd jn wm od bs ab be hh) (As := [.int cd]) (rest := []) (st1 := [.int (icM n cd)]) C hW (c_X5_isCode l D cyI cO cyZ ad fa n t md jd jn wm od bs ab be hh cd (by omega) (by omega)) mv_yX5_isCode mw_315 rfl ⟨rfl, rfl, Nat.le_of_ble_eq_true rfl, Nat.le_of_ble_eq_true rfl⟩ (by decide) cM_0 rfl rfl hl (Nat.le_of_ble_eq_true rfl) rfl rfl dX5_stretch_2 (fun H locs hW => ?_)
  refine lv_if_eq (tgt := 17) hx hb dX5_stretch_5 (by decide) (fun c5_1 => ?_) (fun c5_1 => ?_)
  · skip
    refine lv_ldc2 (v := -102) hx hb C.2.2.2.1 (C.2.2.2.2.1 _ mw_369) dX5_stretch_17 ?_
    exact u_lret C hr hW dX5_stretch_20 (by first | (simp only [mtR, if_pos c5_1]; done) | (simp only [mtR, if_neg hs0, if_neg hs1, if_pos c5_1]; rw [← hg9])) (by first | (simp only [m2, if_pos c5_1]; done) | (simp only [m2, if_neg hs0, if_neg hs1]))
  · skip
    refine lv_iload_n hx hb dX5_stretch_8 rfl (lv_at hl 2 rfl) ?_
    refine lv_iconst (v := 0) hx hb dX5_stretch_9 (by decide) ?_
    refine lv_iconst (v := 1) hx hb dX5_stretch_10 (by decide) ?_
    refine u_callS (cf' := cM cyI cyZ ad n t md jd jn wm od bs ab be hh) (As := [.int p0, .int 0, .int 1]) (rest := []) (st1 := [.int (mnV p0 0 1)]) C hW (c_X5_in l D cyI cO cyZ ad fa n t md jd jn wm od bs ab be hh p0 0 1 ) ms_yX5_in mw_91 rfl ⟨rfl, rfl, Nat.le_of_ble_eq_true rfl, Nat.le_of_ble_eq_true rfl⟩ hl (Nat.le_of_ble_eq_true rfl) rfl rfl dX5_stretch_11 (fun H locs hW => ?_)
    refine lv_if_ne (tgt := 21) hx hb dX5_stretch_14 (by decide) (fun c14_2 => ?_) (fun c14_2 => ?_)
    · skip
      have hc1 := (icM_tn hn h2 c5_1).2
      have hs0 := c5_1
      have hs1 := c14_2
      obtain ⟨hgt, hgn⟩ := hT hs0
      refine lv_aload_n hx hb dX5_stretch_21 rfl (lv_at hl 0 rfl) ?_
      refine lv_iload_n hx hb dX5_stretch_22 rfl (lv_at hl 1 rfl) ?_
      refine u_top (show cd = nI (tn cd) from (icM_tn hn h2 c5_1).1) ?_
      refine u_callV (cf' := cM cyI cyZ ad n t md (mlD n (tn cd) jd jn) (mlN n (tn cd) jn) (mgo n t jd jn wm (tn cd)) od bs ab be hh) (As := [.int (nI (tn cd))]) (rest := []) (st1 := []) C hW (c_X5_go l D cyI cO cyZ ad fa n t md jd jn wm od bs ab be hh (tn cd) (by omega) (by omega) (by omega) (hL (tn cd) hc1 jn)) mv_yX5_go mw_348 rfl ⟨rfl, rfl, Nat.le_of_ble_eq_true rfl, Nat.le_of_ble_eq_true rfl⟩ (by decide) cM_0 rfl rfl hl (Nat.le_of_ble_eq_true rfl) rfl rfl dX5_stretch_23 (fun H locs hW => ?_)
      refine lv_aload_n hx hb dX5_stretch_26 rfl (lv_at hl 0 rfl) ?_
      refine u_callV (cf' := cM cyI cyZ ad n t md (mlD n (tn cd) jd jn) (mlN n (tn cd) jn) (mgo n t jd jn wm (tn cd)) od bs ((msV n t (mgo n t jd jn wm (tn cd))).1) ((msV n t (mgo n t jd jn wm (tn cd))).2) hh) (As := []) (rest := []) (st1 := []) C hW (c_X5_stretchNow l D cyI cO cyZ ad fa n t md (mlD n (tn cd) jd jn) (mlN n (tn cd) jn) (mgo n t jd jn wm (tn cd)) od bs ab be hh  (by omega)) mv_yX5_stretchNow mw_372 rfl ⟨rfl, rfl, Nat.le_of_ble_eq_true rfl, Nat.le_of_ble_eq_true rfl⟩ (by decide) cM_0 rfl rfl hl (Nat.le_of_ble_eq_true rfl) rfl rfl dX5_stretch_27 (fun H locs hW => ?_)
      refine lv_aload_n hx hb dX5_stretch_30 rfl (lv_at hl 0 rfl) ?_
      refine u_get C hW inlX5 (by decide) cM_0 rfl 7 (by decide) mw_370 rfl dX5_stretch_31 ?_
      refine lv_lstore_n (lv' := [(3, .long ((msV n t (mgo n t jd jn wm (tn cd))).1)), (0, .ref (ad 0)), (1, .int cd), (2, .int p0)]) hx hb dX5_stretch_34 rfl hl (by decide) rfl (fun ls hl => ?_)
      refine lv_aload_n hx hb dX5_stretch_35 rfl (lv_at hl 1 rfl) ?_
      refine u_get C hW inlX5 (by decide) cM_0 rfl 8 (by decide) mw_371 rfl dX5_stretch_36 ?_
      refine lv_lstore (lv' := [(5, .long ((msV n t (mgo n t jd jn wm (tn cd))).2)), (3, .long ((msV n t (mgo n t jd jn wm (tn cd))).1)), (0, .ref (ad 0)), (1, .int cd), (2, .int p0)]) hx hb dX5_stretch_39 hl (by decide) rfl (fun ls hl => ?_)
      have L41 : ∀ (k41 : Nat) (x : Int64) (y : Int64), gdT k41 x y → gdL k41 x y = gdL K2 (msV n t (mgo n t jd jn wm (tn cd))).1 (msV n t (mgo n t jd jn wm (tn cd))).2 → ∀ (H : Heap) (locs : List Loc), Wd D 7 ad (cM cyI cyZ ad n t md (mlD n (tn cd) jd jn) (mlN n (tn cd) jn) (mgo n t jd jn wm (tn cd)) od bs ((msV n t (mgo n t jd jn wm (tn cd))).1) ((msV n t (mgo n t jd jn wm (tn cd))).2) hh) A s.heap H locs → ∀ ls : Array Slot, lv_has ls 9 [(0, .ref (ad 0)), (2, .int p0), (3, .long x), (5, .long y)] → W p l e ({ frames := 3, cells := 0, slots := 0, locals := 72 } : Room) s m args below meth c H locs 0 0 (MQ below (uQ D 7 ad (cM cyI cyZ ad n t md (m2 n cd p0 jd (mlD n (tn cd) jd jn)) (m2 n cd p0 jn (mlN n (tn cd) jn)) (m2 n cd p0 wm (mgo n t jd jn wm (tn cd))) od bs (m2 n cd p0 ab ((msV n t (mgo n t jd jn wm (tn cd))).1)) (m2 n cd p0 be ((msV n t (mgo n t jd jn wm (tn cd))).2)) hh) (some (.long (mtR n t (mgo n t jd jn wm (tn cd)) cd p0))) A) args s 0 0 A) (F0 m 41 ls []) := by
        intro k41
        induction k41 with
        | zero =>
          intro x y ht r41 H locs hW ls hl
          refine lv_lload hx hb dX5_stretch_41 (lv_at hl 3 rfl) ?_
          refine lv_lconst (v := 0) hx hb dX5_stretch_43 (by decide) ?_
          refine W.lcmp hx hb dX5_stretch_44 ?_
          refine lv_if_eq (tgt := 64) hx hb dX5_stretch_45 (by decide) (fun _ => ?_) (fun c9 => absurd ht c9)
          have hg9 := r41
          simp only [gdL] at hg9
          refine lv_iload_n hx hb dX5_stretch_64 rfl (lv_at hl 1 rfl) ?_
          refine lv_if_ne (tgt := 77) hx hb dX5_stretch_65 (by decide) (fun c65_3 => ?_) (fun c65_3 => ?_)
          · skip
            refine lv_aload_n hx hb dX5_stretch_77 rfl (lv_at hl 0 rfl) ?_
            refine u_get C hW inlX5 (by decide) cM_0 rfl 8 (by decide) mw_371 rfl dX5_stretch_78 ?_
            refine lv_lload_n hx hb dX5_stretch_81 rfl (lv_at hl 2 rfl) ?_
            refine lv_ldiv hx hb dX5_stretch_82 (by rw [hg9]; exact hgn) ?_
            exact u_lret C hr hW dX5_stretch_83 (by first | (simp only [mtR, if_neg c65_3]; done) | (simp only [mtR, if_neg hs0, if_neg hs1, if_neg c65_3]; rw [← hg9])) (by first | (simp only [m2, if_neg c65_3]; done) | (simp only [m2, if_neg hs0, if_neg hs1]))
          · skip
            refine lv_aload_n hx hb dX5_stretch_68 rfl (lv_at hl 0 rfl) ?_
            refine u_get C hW inlX5 (by decide) cM_0 rfl 7 (by decide) mw_370 rfl dX5_stretch_69 ?_
            refine lv_lload_n hx hb dX5_stretch_72 rfl (lv_at hl 2 rfl) ?_
            refine lv_ldiv hx hb dX5_stretch_73 (by rw [hg9]; exact hgn) ?_
            refine lv_goto (tgt := 83) hx hb dX5_stretch_74 (by decide) ?_
            exact u_lret C hr hW dX5_stretch_83 (by first | (simp only [mtR, if_pos c65_3]; done) | (simp only [mtR, if_neg hs0, if_neg hs1, if_pos c65_3]; rw [← hg9])) (by first | (simp only [m2, if_pos c65_3]; done) | (simp only [m2, if_neg hs0, if_neg hs1]))
        | succ k41 ih41 =>
          intro x y ht r41 H locs hW ls hl
          refine lv_lload hx hb dX5_stretch_41 (lv_at hl 3 rfl) ?_
          refine lv_lconst (v := 0) hx hb dX5_stretch_43 (by decide) ?_
          refine W.lcmp hx hb dX5_stretch_44 ?_
          refine lv_if_eq (tgt := 64) hx hb dX5_stretch_45 (by decide) (fun c45_4 => ?_) (fun c45_4 => ?_)
          · skip
            have hg9 := r41
            simp only [gdL, if_pos c45_4] at hg9
            refine lv_iload_n hx hb dX5_stretch_64 rfl (lv_at hl 1 rfl) ?_
            refine lv_if_ne (tgt := 77) hx hb dX5_stretch_65 (by decide) (fun c65_5 => ?_) (fun c65_5 => ?_)
            · skip
              refine lv_aload_n hx hb dX5_stretch_77 rfl (lv_at hl 0 rfl) ?_
              refine u_get C hW inlX5 (by decide) cM_0 rfl 8 (by decide) mw_371 rfl dX5_stretch_78 ?_
              refine lv_lload_n hx hb dX5_stretch_81 rfl (lv_at hl 2 rfl) ?_
              refine lv_ldiv hx hb dX5_stretch_82 (by rw [hg9]; exact hgn) ?_
              exact u_lret C hr hW dX5_stretch_83 (by first | (simp only [mtR, if_pos c45_4, if_neg c65_5]; done) | (simp only [mtR, if_neg hs0, if_neg hs1, if_pos c45_4, if_neg c65_5]; rw [← hg9])) (by first | (simp only [m2, if_pos c45_4, if_neg c65_5]; done) | (simp only [m2, if_neg hs0, if_neg hs1]))
            · skip
              refine lv_aload_n hx hb dX5_stretch_68 rfl (lv_at hl 0 rfl) ?_
              refine u_get C hW inlX5 (by decide) cM_0 rfl 7 (by decide) mw_370 rfl dX5_stretch_69 ?_
              refine lv_lload_n hx hb dX5_stretch_72 rfl (lv_at hl 2 rfl) ?_
              refine lv_ldiv hx hb dX5_stretch_73 (by rw [hg9]; exact hgn) ?_
              refine lv_goto (tgt := 83) hx hb dX5_stretch_74 (by decide) ?_
              exact u_lret C hr hW dX5_stretch_83 (by first | (simp only [mtR, if_pos c45_4, if_pos c65_5]; done) | (simp only [mtR, if_neg hs0, if_neg hs1, if_pos c45_4, if_pos c65_5]; rw [← hg9])) (by first | (simp only [m2, if_pos c45_4, if_pos c65_5]; done) | (simp only [m2, if_neg hs0, if_neg hs1]))
          · skip
            refine lv_lload_n hx hb dX5_stretch_48 rfl (lv_at hl 2 rfl) ?_
            refine lv_lload hx hb dX5_stretch_49 (lv_at hl 3 rfl) ?_
            refine lv_lrem hx hb dX5_stretch_51 (lg_ne c45_4) ?_
            refine lv_lstore (lv' := [(7, .long (x - x / y * y)), (0, .ref (ad 0)), (2, .int p0), (3, .long x), (5, .long y)]) hx hb dX5_stretch_52 hl (by decide) rfl (fun ls hl => ?_)
            refine lv_lload hx hb dX5_stretch_54 (lv_at hl 4 rfl) ?_
            refine lv_lstore_n (lv' := [(3, .long y), (7, .long (x - x / y * y)), (0, .ref (ad 0)), (2, .int p0), (5, .long y)]) hx hb dX5_stretch_56 rfl hl (by decide) rfl (fun ls hl => ?_)
            refine lv_lload hx hb dX5_stretch_57 (lv_at hl 1 rfl) ?_
            refine lv_lstore (lv' := [(5, .long (x - x / y * y)), (3, .long y), (7, .long (x - x / y * y)), (0, .ref (ad 0)), (2, .int p0)]) hx hb dX5_stretch_59 hl (by decide) rfl (fun ls hl => ?_)
            refine lv_goto (tgt := 41) hx hb dX5_stretch_61 (by decide) ?_
            exact ih41  y (x - x / y * y) (ht.resolve_left c45_4) (by have h9 := r41; simp only [gdL, if_neg c45_4] at h9; exact h9) H locs hW ls (lv_sub hl [3, 4, 1, 0] rfl)
      exact L41 K2 ((msV n t (mgo n t jd jn wm (tn cd))).1) ((msV n t (mgo n t jd jn wm (tn cd))).2) hgt rfl H locs hW ls (lv_sub hl [2, 4, 1, 0] rfl)
    · skip
      refine lv_ldc2 (v := -102) hx hb C.2.2.2.1 (C.2.2.2.2.1 _ mw_369) dX5_stretch_17 ?_
      exact u_lret C hr hW dX5_stretch_20 (by first | (simp only [mtR, if_neg c5_1, if_pos c14_2]; done) | (simp only [mtR, if_neg hs0, if_neg hs1, if_neg c5_1, if_pos c14_2]; rw [← hg9])) (by first | (simp only [m2, if_neg c5_1, if_pos c14_2]; done) | (simp only [m2, if_neg hs0, if_neg hs1]))
set_option maxHeartbeats 4000000 in
set_option maxRecDepth 100000 in
theorem c_X5_spread (l : Launch) (D : va_G) (cyI cO cyZ : ClassId) (ad : Nat → Nat) (fa : Nat) (n : Nat) (t md jd jn wm od : Nat → Int32) (bs : Int32) (ab be hh : Int64) (cd : Int32) (hn : n ≤ 6) (h2 : 2 ≤ n) (hL : ∀ (cd : Nat), cd < cmV n → ∀ jn : Nat → Int32, LfOK n cd jn) : Ct l yX5_spread (Cond.code yX5_spread cX5_spread 2 (some .int) :: wsL_law) ({ frames := 3, cells := 0, slots := 0, locals := 72 } : Room) D (ty3 cyI cO cyZ) 7 ad fa [.ref (ad 0), .int cd] (cM cyI cyZ ad n t md jd jn wm od bs ab be hh) (cM cyI cyZ ad n t md (m1 n cd jd (mlD n (tn cd) jd jn)) (m1 n cd jn (mlN n (tn cd) jn)) (m1 n cd wm (mgo n t jd jn wm (tn cd))) od bs ab be hh) (some (.int (mqR n (mgo n t jd jn wm (tn cd)) cd))) := by
  refine Ct.of (by decide) (Nat.le_of_ble_eq_true rfl) ?_
  intro p e s m args below meth c A C hr H locs hW ls hl
  have C : Cx p s m args meth c cX5_spread 2 RX5 D (ty3 cyI cO cyZ) fa A := C
  have hx := C.1
  have hb := C.2.1
  have hl : lv_has ls 2 [(0, .ref (ad 0)), (1, .int cd)] := hl
  refine lv_aload_n hx hb dX5_spread_0 rfl (lv_at hl 0 rfl) ?_
  refine lv_iload_n hx hb dX5_spread_1 rfl (lv_at hl 1 rfl) ?_
  refine u_callV (cf' := cM cyI cyZ ad n t md jd jn wm od bs ab be hh) (As := [.int cd]) (rest := []) (st1 := [.int (icM n cd)]) C hW (c_X5_isCode l D cyI cO cyZ ad fa n t md jd jn wm od bs ab be hh cd (by omega) (by omega)) mv_yX5_isCode mw_315 rfl ⟨rfl, rfl, Nat.le_of_ble_eq_true rfl, Nat.le_of_ble_eq_true rfl⟩ (by decide) cM_0 rfl rfl hl (Nat.le_of_ble_eq_true rfl) rfl rfl dX5_spread_2 (fun H locs hW => ?_)
  refine lv_if_ne (tgt := 11) hx hb dX5_spread_5 (by decide) (fun c5_1 => ?_) (fun c5_1 => ?_)
  · skip
    have hc1 := (icM_tn hn h2 c5_1).2
    refine lv_aload_n hx hb dX5_spread_11 rfl (lv_at hl 0 rfl) ?_
    refine lv_iload_n hx hb dX5_spread_12 rfl (lv_at hl 1 rfl) ?_
    refine u_top (show cd = nI (tn cd) from (icM_tn hn h2 c5_1).1) ?_
    refine u_callV (cf' := cM cyI cyZ ad n t md (mlD n (tn cd) jd jn) (mlN n (tn cd) jn) (mgo n t jd jn wm (tn cd)) od bs ab be hh) (As := [.int (nI (tn cd))]) (rest := []) (st1 := []) C hW (c_X5_go l D cyI cO cyZ ad fa n t md jd jn wm od bs ab be hh (tn cd) (by omega) (by omega) (by omega) (hL (tn cd) hc1 jn)) mv_yX5_go mw_348 rfl ⟨rfl, rfl, Nat.le_of_ble_eq_true rfl, Nat.le_of_ble_eq_true rfl⟩ (by decide) cM_0 rfl rfl hl (Nat.le_of_ble_eq_true rfl) rfl rfl dX5_spread_13 (fun H locs hW => ?_)
    refine lv_aload_n hx hb dX5_spread_16 rfl (lv_at hl 0 rfl) ?_
    refine u_callV (cf' := cM cyI cyZ ad n t md (mlD n (tn cd) jd jn) (mlN n (tn cd) jn) (mgo n t jd jn wm (tn cd)) od bs ab be hh) (As := []) (rest := []) (st1 := [.int (mpV n (mgo n t jd jn wm (tn cd)))]) C hW (c_X5_spreadNow l D cyI cO cyZ ad fa n t md (mlD n (tn cd) jd jn) (mlN n (tn cd) jn) (mgo n t jd jn wm (tn cd)) od bs ab be hh  (by omega)) mv_yX5_spreadNow mw_388 rfl ⟨rfl, rfl, Nat.le_of_ble_eq_true rfl, Nat.le_of_ble_eq_true rfl⟩ (by decide) cM_0 rfl rfl hl (Nat.le_of_ble_eq_true rfl) rfl rfl dX5_spread_17 (fun H locs hW => ?_)
    exact u_iret C hr hW dX5_spread_20 (by simp only [mqR, if_neg c5_1]) (by simp only [m1, if_neg c5_1])
  · skip
    refine lv_bipush (v := -102) hx hb dX5_spread_8 (by decide) ?_
    exact u_iret C hr hW dX5_spread_10 (by simp only [mqR, if_pos c5_1]) (by simp only [m1, if_pos c5_1])
set_option maxHeartbeats 4000000 in
set_option maxRecDepth 100000 in
theorem c_X5_best (l : Launch) (D : va_G) (cyI cO cyZ : ClassId) (ad : Nat → Nat) (fa : Nat) (n : Nat) (t md jd jn wm od : Nat → Int32) (bs : Int32) (ab be hh : Int64) (w : Int32) (hn : n ≤ 6) (h2 : 2 ≤ n) (hL : ∀ (cd : Nat), cd < cmV n → ∀ jn : Nat → Int32, LfOK n cd jn) : Ct l yX5_best (Cond.code yX5_best cX5_best 12 (some .int) :: wsL_law) ({ frames := 3, cells := 0, slots := 0, locals := 72 } : Room) D (ty3 cyI cO cyZ) 7 ad fa [.ref (ad 0), .int w] (cM cyI cyZ ad n t md jd jn wm od bs ab be hh) (cM cyI cyZ ad n t md (mb2 w bs jd ((bmV n t w ab be (jd, jn, wm)).2.2.2.2.2.1)) (mb2 w bs jn ((bmV n t w ab be (jd, jn, wm)).2.2.2.2.2.2.1)) (mb2 w bs wm ((bmV n t w ab be (jd, jn, wm)).2.2.2.2.2.2.2)) od (mb2 w bs bs (bs + 1)) (mb2 w bs ab ((bmV n t w ab be (jd, jn, wm)).2.2.2.1)) (mb2 w bs be ((bmV n t w ab be (jd, jn, wm)).2.2.2.2.1)) hh) (some (.int (mbR w bs (bmV n t w ab be (jd, jn, wm)).1))) := by
  refine Ct.of (by decide) (Nat.le_of_ble_eq_true rfl) ?_
  intro p e s m args below meth c A C hr H locs hW ls hl
  have C : Cx p s m args meth c cX5_best 12 RX5 D (ty3 cyI cO cyZ) fa A := C
  have hx := C.1
  have hb := C.2.1
  have hl : lv_has ls 12 [(0, .ref (ad 0)), (1, .int w)] := hl
  have hcm := cmV_le hn
  have hcp := cmV_pos h2 hn
  refine lv_iload_n hx hb dX5_best_0 rfl (lv_at hl 1 rfl) ?_
  refine lv_iconst (v := 0) hx hb dX5_best_1 (by decide) ?_
  refine lv_iconst (v := 1) hx hb dX5_best_2 (by decide) ?_
  refine u_callS (cf' := cM cyI cyZ ad n t md jd jn wm od bs ab be hh) (As := [.int w, .int 0, .int 1]) (rest := []) (st1 := [.int (mnV w 0 1)]) C hW (c_X5_in l D cyI cO cyZ ad fa n t md jd jn wm od bs ab be hh w 0 1 ) ms_yX5_in mw_91 rfl ⟨rfl, rfl, Nat.le_of_ble_eq_true rfl, Nat.le_of_ble_eq_true rfl⟩ hl (Nat.le_of_ble_eq_true rfl) rfl rfl dX5_best_3 (fun H locs hW => ?_)
  refine lv_if_ne (tgt := 12) hx hb dX5_best_6 (by decide) (fun c6_1 => ?_) (fun c6_1 => ?_)
  · skip
    refine lv_aload_n hx hb dX5_best_12 rfl (lv_at hl 0 rfl) ?_
    refine u_get C hW inlX5 (by decide) cM_0 rfl 2 (by decide) mw_412 rfl dX5_best_13 ?_
    refine lv_bipush (v := 60) hx hb dX5_best_16 (by decide) ?_
    refine lv_icmp_ne (tgt := 24) hx hb dX5_best_18 (by decide) (fun c18_2 => ?_) (fun c18_2 => ?_)
    · skip
      have hs0 := c6_1
      have hs1 := c18_2
      refine lv_aload_n hx hb dX5_best_24 rfl (lv_at hl 0 rfl) ?_
      refine lv_dup hx hb dX5_best_25 rfl ?_
      refine u_get C hW inlX5 (by decide) cM_0 rfl 2 (by decide) mw_412 rfl dX5_best_26 ?_
      refine lv_iconst (v := 1) hx hb dX5_best_29 (by decide) ?_
      refine lv_iadd hx hb dX5_best_30 ?_
      refine u_put (cf' := cM cyI cyZ ad n t md jd jn wm od (bs + 1) ab be hh) C hW inlX5 tyX5 tyX5_ok nmX5 (by decide) cM_0 rfl 2 (by decide) mw_412 rfl rfl rfl (Nat.le_of_ble_eq_true rfl) cM_s0 dX5_best_31 (fun H locs hW => ?_)
      refine lv_iconst (v := -1) hx hb dX5_best_34 (by decide) ?_
      refine lv_istore_n (lv' := [(2, .int (-1)), (0, .ref (ad 0)), (1, .int w)]) hx hb dX5_best_35 rfl hl (by decide) rfl (fun ls hl => ?_)
      refine lv_lconst (v := 0) hx hb dX5_best_36 (by decide) ?_
      refine lv_lstore_n (lv' := [(3, .long 0), (2, .int (-1)), (0, .ref (ad 0)), (1, .int w)]) hx hb dX5_best_37 rfl hl (by decide) rfl (fun ls hl => ?_)
      refine lv_lconst (v := 1) hx hb dX5_best_38 (by decide) ?_
      refine lv_lstore (lv' := [(5, .long 1), (3, .long 0), (2, .int (-1)), (0, .ref (ad 0)), (1, .int w)]) hx hb dX5_best_39 hl (by decide) rfl (fun ls hl => ?_)
      refine lv_iconst (v := 0) hx hb dX5_best_41 (by decide) ?_
      refine lv_istore (lv' := [(7, .int 0), (5, .long 1), (3, .long 0), (2, .int (-1)), (0, .ref (ad 0)), (1, .int w)]) hx hb dX5_best_42 hl (by decide) rfl (fun ls hl => ?_)
      have L44 : ∀ (k44 : Nat) (q : Nat) (bt : Int32) (up : Int64) (dn : Int64) (x : Int64) (y : Int64) (g1 : Nat → Int32) (h1 : Nat → Int32) (w1 : Nat → Int32), q + k44 = cmV n → lp (bmF n t w) q k44 (bt, up, dn, x, y, g1, h1, w1) = bmV n t w ab be (jd, jn, wm) → ∀ (H : Heap) (locs : List Loc), Wd D 7 ad (cM cyI cyZ ad n t md g1 h1 w1 od (bs + 1) x y hh) A s.heap H locs → ∀ ls : Array Slot, lv_has ls 12 [(7, .int (nI q)), (0, .ref (ad 0)), (1, .int w), (2, .int bt), (3, .long up), (5, .long dn)] → W p l e ({ frames := 3, cells := 0, slots := 0, locals := 72 } : Room) s m args below meth c H locs 0 0 (MQ below (uQ D 7 ad (cM cyI cyZ ad n t md (mb2 w bs jd ((bmV n t w ab be (jd, jn, wm)).2.2.2.2.2.1)) (mb2 w bs jn ((bmV n t w ab be (jd, jn, wm)).2.2.2.2.2.2.1)) (mb2 w bs wm ((bmV n t w ab be (jd, jn, wm)).2.2.2.2.2.2.2)) od (mb2 w bs bs (bs + 1)) (mb2 w bs ab ((bmV n t w ab be (jd, jn, wm)).2.2.2.1)) (mb2 w bs be ((bmV n t w ab be (jd, jn, wm)).2.2.2.2.1)) hh) (some (.int (mbR w bs (bmV n t w ab be (jd, jn, wm)).1))) A) args s 0 0 A) (F0 m 44 ls []) := by
        intro k44
        induction k44 with
        | zero =>
          intro q bt up dn x y g1 h1 w1 hq r44 H locs hW ls hl
          refine lv_iload hx hb dX5_best_44 (lv_at hl 0 rfl) ?_
          refine lv_aload_n hx hb dX5_best_46 rfl (lv_at hl 1 rfl) ?_
          refine u_callV (cf' := cM cyI cyZ ad n t md g1 h1 w1 od (bs + 1) x y hh) (As := []) (rest := [.int (nI q)]) (st1 := [.int (nI (cmV n)), .int (nI q)]) C hW (c_X5_codeMany l D cyI cO cyZ ad fa n t md g1 h1 w1 od (bs + 1) x y hh  (by omega) (by omega)) mv_yX5_codeMany mw_282 rfl ⟨rfl, rfl, Nat.le_of_ble_eq_true rfl, Nat.le_of_ble_eq_true rfl⟩ (by decide) cM_0 rfl rfl hl (Nat.le_of_ble_eq_true rfl) rfl rfl dX5_best_47 (fun H locs hW => ?_)
          refine lv_icmp_ge (tgt := 129) hx hb dX5_best_50 (by decide) (fun _ => ?_) (fun c9 => absurd (nI_le (by omega) (by omega)) c9)
          refine lv_iload_n hx hb dX5_best_129 rfl (lv_at hl 3 rfl) ?_
          exact u_iret C hr hW dX5_best_130 (by first | (simp only [mbR]; done) | (simp only [mbR, if_neg hs0, if_neg hs1]; rw [← r44]; rfl)) (by first | (simp only [mb2]; done) | (simp only [mb2, if_neg hs0, if_neg hs1]; rw [← r44]; rfl))
        | succ k44 ih44 =>
          intro q bt up dn x y g1 h1 w1 hq r44 H locs hW ls hl
          refine lv_iload hx hb dX5_best_44 (lv_at hl 0 rfl) ?_
          refine lv_aload_n hx hb dX5_best_46 rfl (lv_at hl 1 rfl) ?_
          refine u_callV (cf' := cM cyI cyZ ad n t md g1 h1 w1 od (bs + 1) x y hh) (As := []) (rest := [.int (nI q)]) (st1 := [.int (nI (cmV n)), .int (nI q)]) C hW (c_X5_codeMany l D cyI cO cyZ ad fa n t md g1 h1 w1 od (bs + 1) x y hh  (by omega) (by omega)) mv_yX5_codeMany mw_282 rfl ⟨rfl, rfl, Nat.le_of_ble_eq_true rfl, Nat.le_of_ble_eq_true rfl⟩ (by decide) cM_0 rfl rfl hl (Nat.le_of_ble_eq_true rfl) rfl rfl dX5_best_47 (fun H locs hW => ?_)
          refine lv_icmp_ge (tgt := 129) hx hb dX5_best_50 (by decide) (fun c9 => absurd c9 (nI_ge (by omega) (by omega))) (fun _ => ?_)
          refine lv_aload_n hx hb dX5_best_53 rfl (lv_at hl 1 rfl) ?_
          refine lv_iload hx hb dX5_best_54 (lv_at hl 0 rfl) ?_
          refine u_callV (cf' := cM cyI cyZ ad n t md (mlD n q g1 h1) (mlN n q h1) (mgo n t g1 h1 w1 q) od (bs + 1) x y hh) (As := [.int (nI q)]) (rest := []) (st1 := []) C hW (c_X5_go l D cyI cO cyZ ad fa n t md g1 h1 w1 od (bs + 1) x y hh q (by omega) (by omega) (by omega) (hL q (by omega) h1)) mv_yX5_go mw_348 rfl ⟨rfl, rfl, Nat.le_of_ble_eq_true rfl, Nat.le_of_ble_eq_true rfl⟩ (by decide) cM_0 rfl rfl hl (Nat.le_of_ble_eq_true rfl) rfl rfl dX5_best_56 (fun H locs hW => ?_)
          refine lv_aload_n hx hb dX5_best_59 rfl (lv_at hl 1 rfl) ?_
          refine u_callV (cf' := cM cyI cyZ ad n t md (mlD n q g1 h1) (mlN n q h1) (mgo n t g1 h1 w1 q) od (bs + 1) ((msV n t (mgo n t g1 h1 w1 q)).1) ((msV n t (mgo n t g1 h1 w1 q)).2) hh) (As := []) (rest := []) (st1 := []) C hW (c_X5_stretchNow l D cyI cO cyZ ad fa n t md (mlD n q g1 h1) (mlN n q h1) (mgo n t g1 h1 w1 q) od (bs + 1) x y hh  (by omega)) mv_yX5_stretchNow mw_372 rfl ⟨rfl, rfl, Nat.le_of_ble_eq_true rfl, Nat.le_of_ble_eq_true rfl⟩ (by decide) cM_0 rfl rfl hl (Nat.le_of_ble_eq_true rfl) rfl rfl dX5_best_60 (fun H locs hW => ?_)
          refine lv_iload_n hx hb dX5_best_63 rfl (lv_at hl 2 rfl) ?_
          refine lv_if_ne (tgt := 74) hx hb dX5_best_64 (by decide) (fun c64_3 => ?_) (fun c64_3 => ?_)
          · skip
            refine lv_aload_n hx hb dX5_best_74 rfl (lv_at hl 1 rfl) ?_
            refine u_callV (cf' := cM cyI cyZ ad n t md (mlD n q g1 h1) (mlN n q h1) (mgo n t g1 h1 w1 q) od (bs + 1) ((msV n t (mgo n t g1 h1 w1 q)).1) ((msV n t (mgo n t g1 h1 w1 q)).2) hh) (As := []) (rest := []) (st1 := [.int (mpV n (mgo n t g1 h1 w1 q))]) C hW (c_X5_spreadNow l D cyI cO cyZ ad fa n t md (mlD n q g1 h1) (mlN n q h1) (mgo n t g1 h1 w1 q) od (bs + 1) ((msV n t (mgo n t g1 h1 w1 q)).1) ((msV n t (mgo n t g1 h1 w1 q)).2) hh  (by omega)) mv_yX5_spreadNow mw_388 rfl ⟨rfl, rfl, Nat.le_of_ble_eq_true rfl, Nat.le_of_ble_eq_true rfl⟩ (by decide) cM_0 rfl rfl hl (Nat.le_of_ble_eq_true rfl) rfl rfl dX5_best_75 (fun H locs hW => ?_)
            refine lv_i2l hx hb dX5_best_78 rfl ?_
            refine lv_lstore (lv' := [(8, .long ((mpV n (mgo n t g1 h1 w1 q)).toInt64)), (7, .int (nI q)), (0, .ref (ad 0)), (1, .int w), (2, .int bt), (3, .long up), (5, .long dn)]) hx hb dX5_best_79 hl (by decide) rfl (fun ls hl => ?_)
            refine lv_iload_n hx hb dX5_best_81 rfl (lv_at hl 3 rfl) ?_
            refine lv_if_ne (tgt := 92) hx hb dX5_best_82 (by decide) (fun _ => ?_) (fun c9 => absurd c9 c64_3)
            refine lv_lconst (v := 1) hx hb dX5_best_92 (by decide) ?_
            refine lv_lstore (lv' := [(10, .long 1), (8, .long ((mpV n (mgo n t g1 h1 w1 q)).toInt64)), (7, .int (nI q)), (0, .ref (ad 0)), (1, .int w), (2, .int bt), (3, .long up), (5, .long dn)]) hx hb dX5_best_93 hl (by decide) rfl (fun ls hl => ?_)
            refine lv_iload_n hx hb dX5_best_95 rfl (lv_at hl 5 rfl) ?_
            refine lv_iconst (v := -1) hx hb dX5_best_96 (by decide) ?_
            refine lv_icmp_eq (tgt := 113) hx hb dX5_best_97 (by decide) (fun c97_4 => ?_) (fun c97_4 => ?_)
            · skip
              refine lv_iload hx hb dX5_best_113 (lv_at hl 2 rfl) ?_
              refine lv_istore_n (lv' := [(2, .int (nI q)), (10, .long 1), (8, .long ((mpV n (mgo n t g1 h1 w1 q)).toInt64)), (7, .int (nI q)), (0, .ref (ad 0)), (1, .int w), (3, .long up), (5, .long dn)]) hx hb dX5_best_115 rfl hl (by decide) rfl (fun ls hl => ?_)
              refine lv_lload hx hb dX5_best_116 (lv_at hl 2 rfl) ?_
              refine lv_lstore_n (lv' := [(3, .long ((mpV n (mgo n t g1 h1 w1 q)).toInt64)), (2, .int (nI q)), (10, .long 1), (8, .long ((mpV n (mgo n t g1 h1 w1 q)).toInt64)), (7, .int (nI q)), (0, .ref (ad 0)), (1, .int w), (5, .long dn)]) hx hb dX5_best_118 rfl hl (by decide) rfl (fun ls hl => ?_)
              refine lv_lload hx hb dX5_best_119 (lv_at hl 2 rfl) ?_
              refine lv_lstore (lv' := [(5, .long 1), (3, .long ((mpV n (mgo n t g1 h1 w1 q)).toInt64)), (2, .int (nI q)), (10, .long 1), (8, .long ((mpV n (mgo n t g1 h1 w1 q)).toInt64)), (7, .int (nI q)), (0, .ref (ad 0)), (1, .int w)]) hx hb dX5_best_121 hl (by decide) rfl (fun ls hl => ?_)
              refine lv_iinc (v := nI (q + 1)) (lv' := [(7, .int (nI (q + 1))), (5, .long 1), (3, .long ((mpV n (mgo n t g1 h1 w1 q)).toInt64)), (2, .int (nI q)), (10, .long 1), (8, .long ((mpV n (mgo n t g1 h1 w1 q)).toInt64)), (0, .ref (ad 0)), (1, .int w)]) hx hb dX5_best_123 hl (k := 5) rfl (nI_1 _) (by decide) rfl (fun ls hl => ?_)
              refine lv_goto (tgt := 44) hx hb dX5_best_126 (by decide) ?_
              exact ih44  (q + 1) (nI q) ((mpV n (mgo n t g1 h1 w1 q)).toInt64) 1 ((msV n t (mgo n t g1 h1 w1 q)).1) ((msV n t (mgo n t g1 h1 w1 q)).2) (mlD n q g1 h1) (mlN n q h1) (mgo n t g1 h1 w1 q) (by omega) (by refine Eq.trans (congrArg (lp (bmF n t w) (q + 1) k44) (Eq.symm ?_)) r44; exact ((if_neg c64_3).trans (if_pos c97_4))) H locs hW ls (lv_sub hl [0, 6, 7, 3, 2, 1] rfl)
            · skip
              refine lv_lload hx hb dX5_best_100 (lv_at hl 1 rfl) ?_
              refine lv_lload hx hb dX5_best_102 (lv_at hl 7 rfl) ?_
              refine lv_lmul hx hb dX5_best_104 ?_
              refine lv_lload_n hx hb dX5_best_105 rfl (lv_at hl 6 rfl) ?_
              refine lv_lload hx hb dX5_best_106 (lv_at hl 0 rfl) ?_
              refine lv_lmul hx hb dX5_best_108 ?_
              refine W.lcmp hx hb dX5_best_109 ?_
              refine lv_if_ge (tgt := 123) hx hb dX5_best_110 (by decide) (fun c110_5 => ?_) (fun c110_5 => ?_)
              · skip
                refine lv_iinc (v := nI (q + 1)) (lv' := [(7, .int (nI (q + 1))), (10, .long 1), (8, .long ((mpV n (mgo n t g1 h1 w1 q)).toInt64)), (0, .ref (ad 0)), (1, .int w), (2, .int bt), (3, .long up), (5, .long dn)]) hx hb dX5_best_123 hl (k := 2) rfl (nI_1 _) (by decide) rfl (fun ls hl => ?_)
                refine lv_goto (tgt := 44) hx hb dX5_best_126 (by decide) ?_
                exact ih44  (q + 1) bt up dn ((msV n t (mgo n t g1 h1 w1 q)).1) ((msV n t (mgo n t g1 h1 w1 q)).2) (mlD n q g1 h1) (mlN n q h1) (mgo n t g1 h1 w1 q) (by omega) (by refine Eq.trans (congrArg (lp (bmF n t w) (q + 1) k44) (Eq.symm ?_)) r44; exact ((if_neg c64_3).trans ((if_neg c97_4).trans (if_pos c110_5)))) H locs hW ls (lv_sub hl [0, 3, 4, 5, 6, 7] rfl)
              · skip
                refine lv_iload hx hb dX5_best_113 (lv_at hl 2 rfl) ?_
                refine lv_istore_n (lv' := [(2, .int (nI q)), (10, .long 1), (8, .long ((mpV n (mgo n t g1 h1 w1 q)).toInt64)), (7, .int (nI q)), (0, .ref (ad 0)), (1, .int w), (3, .long up), (5, .long dn)]) hx hb dX5_best_115 rfl hl (by decide) rfl (fun ls hl => ?_)
                refine lv_lload hx hb dX5_best_116 (lv_at hl 2 rfl) ?_
                refine lv_lstore_n (lv' := [(3, .long ((mpV n (mgo n t g1 h1 w1 q)).toInt64)), (2, .int (nI q)), (10, .long 1), (8, .long ((mpV n (mgo n t g1 h1 w1 q)).toInt64)), (7, .int (nI q)), (0, .ref (ad 0)), (1, .int w), (5, .long dn)]) hx hb dX5_best_118 rfl hl (by decide) rfl (fun ls hl => ?_)
                refine lv_lload hx hb dX5_best_119 (lv_at hl 2 rfl) ?_
                refine lv_lstore (lv' := [(5, .long 1), (3, .long ((mpV n (mgo n t g1 h1 w1 q)).toInt64)), (2, .int (nI q)), (10, .long 1), (8, .long ((mpV n (mgo n t g1 h1 w1 q)).toInt64)), (7, .int (nI q)), (0, .ref (ad 0)), (1, .int w)]) hx hb dX5_best_121 hl (by decide) rfl (fun ls hl => ?_)
                refine lv_iinc (v := nI (q + 1)) (lv' := [(7, .int (nI (q + 1))), (5, .long 1), (3, .long ((mpV n (mgo n t g1 h1 w1 q)).toInt64)), (2, .int (nI q)), (10, .long 1), (8, .long ((mpV n (mgo n t g1 h1 w1 q)).toInt64)), (0, .ref (ad 0)), (1, .int w)]) hx hb dX5_best_123 hl (k := 5) rfl (nI_1 _) (by decide) rfl (fun ls hl => ?_)
                refine lv_goto (tgt := 44) hx hb dX5_best_126 (by decide) ?_
                exact ih44  (q + 1) (nI q) ((mpV n (mgo n t g1 h1 w1 q)).toInt64) 1 ((msV n t (mgo n t g1 h1 w1 q)).1) ((msV n t (mgo n t g1 h1 w1 q)).2) (mlD n q g1 h1) (mlN n q h1) (mgo n t g1 h1 w1 q) (by omega) (by refine Eq.trans (congrArg (lp (bmF n t w) (q + 1) k44) (Eq.symm ?_)) r44; exact ((if_neg c64_3).trans ((if_neg c97_4).trans (if_neg c110_5)))) H locs hW ls (lv_sub hl [0, 6, 7, 3, 2, 1] rfl)
          · skip
            refine lv_aload_n hx hb dX5_best_67 rfl (lv_at hl 1 rfl) ?_
            refine u_get C hW inlX5 (by decide) cM_0 rfl 7 (by decide) mw_370 rfl dX5_best_68 ?_
            refine lv_goto (tgt := 79) hx hb dX5_best_71 (by decide) ?_
            refine lv_lstore (lv' := [(8, .long ((msV n t (mgo n t g1 h1 w1 q)).1)), (7, .int (nI q)), (0, .ref (ad 0)), (1, .int w), (2, .int bt), (3, .long up), (5, .long dn)]) hx hb dX5_best_79 hl (by decide) rfl (fun ls hl => ?_)
            refine lv_iload_n hx hb dX5_best_81 rfl (lv_at hl 3 rfl) ?_
            refine lv_if_ne (tgt := 92) hx hb dX5_best_82 (by decide) (fun c9 => absurd c9 (not_not_intro c64_3)) (fun _ => ?_)
            refine lv_aload_n hx hb dX5_best_85 rfl (lv_at hl 2 rfl) ?_
            refine u_get C hW inlX5 (by decide) cM_0 rfl 8 (by decide) mw_371 rfl dX5_best_86 ?_
            refine lv_goto (tgt := 93) hx hb dX5_best_89 (by decide) ?_
            refine lv_lstore (lv' := [(10, .long ((msV n t (mgo n t g1 h1 w1 q)).2)), (8, .long ((msV n t (mgo n t g1 h1 w1 q)).1)), (7, .int (nI q)), (0, .ref (ad 0)), (1, .int w), (2, .int bt), (3, .long up), (5, .long dn)]) hx hb dX5_best_93 hl (by decide) rfl (fun ls hl => ?_)
            refine lv_iload_n hx hb dX5_best_95 rfl (lv_at hl 5 rfl) ?_
            refine lv_iconst (v := -1) hx hb dX5_best_96 (by decide) ?_
            refine lv_icmp_eq (tgt := 113) hx hb dX5_best_97 (by decide) (fun c97_6 => ?_) (fun c97_6 => ?_)
            · skip
              refine lv_iload hx hb dX5_best_113 (lv_at hl 2 rfl) ?_
              refine lv_istore_n (lv' := [(2, .int (nI q)), (10, .long ((msV n t (mgo n t g1 h1 w1 q)).2)), (8, .long ((msV n t (mgo n t g1 h1 w1 q)).1)), (7, .int (nI q)), (0, .ref (ad 0)), (1, .int w), (3, .long up), (5, .long dn)]) hx hb dX5_best_115 rfl hl (by decide) rfl (fun ls hl => ?_)
              refine lv_lload hx hb dX5_best_116 (lv_at hl 2 rfl) ?_
              refine lv_lstore_n (lv' := [(3, .long ((msV n t (mgo n t g1 h1 w1 q)).1)), (2, .int (nI q)), (10, .long ((msV n t (mgo n t g1 h1 w1 q)).2)), (8, .long ((msV n t (mgo n t g1 h1 w1 q)).1)), (7, .int (nI q)), (0, .ref (ad 0)), (1, .int w), (5, .long dn)]) hx hb dX5_best_118 rfl hl (by decide) rfl (fun ls hl => ?_)
              refine lv_lload hx hb dX5_best_119 (lv_at hl 2 rfl) ?_
              refine lv_lstore (lv' := [(5, .long ((msV n t (mgo n t g1 h1 w1 q)).2)), (3, .long ((msV n t (mgo n t g1 h1 w1 q)).1)), (2, .int (nI q)), (10, .long ((msV n t (mgo n t g1 h1 w1 q)).2)), (8, .long ((msV n t (mgo n t g1 h1 w1 q)).1)), (7, .int (nI q)), (0, .ref (ad 0)), (1, .int w)]) hx hb dX5_best_121 hl (by decide) rfl (fun ls hl => ?_)
              refine lv_iinc (v := nI (q + 1)) (lv' := [(7, .int (nI (q + 1))), (5, .long ((msV n t (mgo n t g1 h1 w1 q)).2)), (3, .long ((msV n t (mgo n t g1 h1 w1 q)).1)), (2, .int (nI q)), (10, .long ((msV n t (mgo n t g1 h1 w1 q)).2)), (8, .long ((msV n t (mgo n t g1 h1 w1 q)).1)), (0, .ref (ad 0)), (1, .int w)]) hx hb dX5_best_123 hl (k := 5) rfl (nI_1 _) (by decide) rfl (fun ls hl => ?_)
              refine lv_goto (tgt := 44) hx hb dX5_best_126 (by decide) ?_
              exact ih44  (q + 1) (nI q) ((msV n t (mgo n t g1 h1 w1 q)).1) ((msV n t (mgo n t g1 h1 w1 q)).2) ((msV n t (mgo n t g1 h1 w1 q)).1) ((msV n t (mgo n t g1 h1 w1 q)).2) (mlD n q g1 h1) (mlN n q h1) (mgo n t g1 h1 w1 q) (by omega) (by refine Eq.trans (congrArg (lp (bmF n t w) (q + 1) k44) (Eq.symm ?_)) r44; exact ((if_pos c64_3).trans (if_pos c97_6))) H locs hW ls (lv_sub hl [0, 6, 7, 3, 2, 1] rfl)
            · skip
              refine lv_lload hx hb dX5_best_100 (lv_at hl 1 rfl) ?_
              refine lv_lload hx hb dX5_best_102 (lv_at hl 7 rfl) ?_
              refine lv_lmul hx hb dX5_best_104 ?_
              refine lv_lload_n hx hb dX5_best_105 rfl (lv_at hl 6 rfl) ?_
              refine lv_lload hx hb dX5_best_106 (lv_at hl 0 rfl) ?_
              refine lv_lmul hx hb dX5_best_108 ?_
              refine W.lcmp hx hb dX5_best_109 ?_
              refine lv_if_ge (tgt := 123) hx hb dX5_best_110 (by decide) (fun c110_7 => ?_) (fun c110_7 => ?_)
              · skip
                refine lv_iinc (v := nI (q + 1)) (lv' := [(7, .int (nI (q + 1))), (10, .long ((msV n t (mgo n t g1 h1 w1 q)).2)), (8, .long ((msV n t (mgo n t g1 h1 w1 q)).1)), (0, .ref (ad 0)), (1, .int w), (2, .int bt), (3, .long up), (5, .long dn)]) hx hb dX5_best_123 hl (k := 2) rfl (nI_1 _) (by decide) rfl (fun ls hl => ?_)
                refine lv_goto (tgt := 44) hx hb dX5_best_126 (by decide) ?_
                exact ih44  (q + 1) bt up dn ((msV n t (mgo n t g1 h1 w1 q)).1) ((msV n t (mgo n t g1 h1 w1 q)).2) (mlD n q g1 h1) (mlN n q h1) (mgo n t g1 h1 w1 q) (by omega) (by refine Eq.trans (congrArg (lp (bmF n t w) (q + 1) k44) (Eq.symm ?_)) r44; exact ((if_pos c64_3).trans ((if_neg c97_6).trans (if_pos c110_7)))) H locs hW ls (lv_sub hl [0, 3, 4, 5, 6, 7] rfl)
              · skip
                refine lv_iload hx hb dX5_best_113 (lv_at hl 2 rfl) ?_
                refine lv_istore_n (lv' := [(2, .int (nI q)), (10, .long ((msV n t (mgo n t g1 h1 w1 q)).2)), (8, .long ((msV n t (mgo n t g1 h1 w1 q)).1)), (7, .int (nI q)), (0, .ref (ad 0)), (1, .int w), (3, .long up), (5, .long dn)]) hx hb dX5_best_115 rfl hl (by decide) rfl (fun ls hl => ?_)
                refine lv_lload hx hb dX5_best_116 (lv_at hl 2 rfl) ?_
                refine lv_lstore_n (lv' := [(3, .long ((msV n t (mgo n t g1 h1 w1 q)).1)), (2, .int (nI q)), (10, .long ((msV n t (mgo n t g1 h1 w1 q)).2)), (8, .long ((msV n t (mgo n t g1 h1 w1 q)).1)), (7, .int (nI q)), (0, .ref (ad 0)), (1, .int w), (5, .long dn)]) hx hb dX5_best_118 rfl hl (by decide) rfl (fun ls hl => ?_)
                refine lv_lload hx hb dX5_best_119 (lv_at hl 2 rfl) ?_
                refine lv_lstore (lv' := [(5, .long ((msV n t (mgo n t g1 h1 w1 q)).2)), (3, .long ((msV n t (mgo n t g1 h1 w1 q)).1)), (2, .int (nI q)), (10, .long ((msV n t (mgo n t g1 h1 w1 q)).2)), (8, .long ((msV n t (mgo n t g1 h1 w1 q)).1)), (7, .int (nI q)), (0, .ref (ad 0)), (1, .int w)]) hx hb dX5_best_121 hl (by decide) rfl (fun ls hl => ?_)
                refine lv_iinc (v := nI (q + 1)) (lv' := [(7, .int (nI (q + 1))), (5, .long ((msV n t (mgo n t g1 h1 w1 q)).2)), (3, .long ((msV n t (mgo n t g1 h1 w1 q)).1)), (2, .int (nI q)), (10, .long ((msV n t (mgo n t g1 h1 w1 q)).2)), (8, .long ((msV n t (mgo n t g1 h1 w1 q)).1)), (0, .ref (ad 0)), (1, .int w)]) hx hb dX5_best_123 hl (k := 5) rfl (nI_1 _) (by decide) rfl (fun ls hl => ?_)
                refine lv_goto (tgt := 44) hx hb dX5_best_126 (by decide) ?_
                exact ih44  (q + 1) (nI q) ((msV n t (mgo n t g1 h1 w1 q)).1) ((msV n t (mgo n t g1 h1 w1 q)).2) ((msV n t (mgo n t g1 h1 w1 q)).1) ((msV n t (mgo n t g1 h1 w1 q)).2) (mlD n q g1 h1) (mlN n q h1) (mgo n t g1 h1 w1 q) (by omega) (by refine Eq.trans (congrArg (lp (bmF n t w) (q + 1) k44) (Eq.symm ?_)) r44; exact ((if_pos c64_3).trans ((if_neg c97_6).trans (if_neg c110_7)))) H locs hW ls (lv_sub hl [0, 6, 7, 3, 2, 1] rfl)
      exact L44 (cmV n) 0 (-1) 0 1 ab be jd jn wm (by omega) rfl H locs hW ls (lv_sub hl [0, 4, 5, 3, 2, 1] rfl)
    · skip
      refine lv_bipush (v := -104) hx hb dX5_best_21 (by decide) ?_
      exact u_iret C hr hW dX5_best_23 (by first | (simp only [mbR, if_neg c6_1, if_pos c18_2]; done) | (simp only [mbR, if_neg hs0, if_neg hs1]; rw [← r44]; rfl)) (by first | (simp only [mb2, if_neg c6_1, if_pos c18_2]; done) | (simp only [mb2, if_neg hs0, if_neg hs1]; rw [← r44]; rfl))
  · skip
    refine lv_bipush (v := -102) hx hb dX5_best_9 (by decide) ?_
    exact u_iret C hr hW dX5_best_11 (by first | (simp only [mbR, if_pos c6_1]; done) | (simp only [mbR, if_neg hs0, if_neg hs1]; rw [← r44]; rfl)) (by first | (simp only [mb2, if_pos c6_1]; done) | (simp only [mb2, if_neg hs0, if_neg hs1]; rw [← r44]; rfl))
set_option maxHeartbeats 4000000 in
set_option maxRecDepth 100000 in
theorem c_X5_grow (l : Launch) (D : va_G) (cyI cO cyZ : ClassId) (ad : Nat → Nat) (fa : Nat) (n : Nat) (t md jd jn wm od : Nat → Int32) (bs : Int32) (ab be hh : Int64) (cd : Int32) (hn : n ≤ 6) (h2 : 2 ≤ n) (hL : ∀ (cd : Nat), cd < cmV n → ∀ jn : Nat → Int32, LfOK n cd jn) : Ct l yX5_grow (Cond.code yX5_grow cX5_grow 5 (some .int) :: wsL_law) ({ frames := 3, cells := 0, slots := 0, locals := 72 } : Room) D (ty3 cyI cO cyZ) 7 ad fa [.ref (ad 0), .int cd] (cM cyI cyZ ad n t md jd jn wm od bs ab be hh) (cM cyI cyZ ad n (mwT n t (mgo n t jd jn wm (tn cd)) md cd) (m1 n cd md ((ggV n (mgo n t jd jn wm (tn cd)) md).2)) (m1 n cd jd (mlD n (tn cd) jd jn)) (m1 n cd jn (mlN n (tn cd) jn)) (m1 n cd wm (mgo n t jd jn wm (tn cd))) od bs ab be hh) (some (.int (mwG n t (mgo n t jd jn wm (tn cd)) md cd))) := by
  refine Ct.of (by decide) (Nat.le_of_ble_eq_true rfl) ?_
  intro p e s m args below meth c A C hr H locs hW ls hl
  have C : Cx p s m args meth c cX5_grow 5 RX5 D (ty3 cyI cO cyZ) fa A := C
  have hx := C.1
  have hb := C.2.1
  have hl : lv_has ls 5 [(0, .ref (ad 0)), (1, .int cd)] := hl
  refine lv_aload_n hx hb dX5_grow_0 rfl (lv_at hl 0 rfl) ?_
  refine lv_iload_n hx hb dX5_grow_1 rfl (lv_at hl 1 rfl) ?_
  refine u_callV (cf' := cM cyI cyZ ad n t md jd jn wm od bs ab be hh) (As := [.int cd]) (rest := []) (st1 := [.int (icM n cd)]) C hW (c_X5_isCode l D cyI cO cyZ ad fa n t md jd jn wm od bs ab be hh cd (by omega) (by omega)) mv_yX5_isCode mw_315 rfl ⟨rfl, rfl, Nat.le_of_ble_eq_true rfl, Nat.le_of_ble_eq_true rfl⟩ (by decide) cM_0 rfl rfl hl (Nat.le_of_ble_eq_true rfl) rfl rfl dX5_grow_2 (fun H locs hW => ?_)
  refine lv_if_ne (tgt := 11) hx hb dX5_grow_5 (by decide) (fun c5_1 => ?_) (fun c5_1 => ?_)
  · skip
    have hc1 := (icM_tn hn h2 c5_1).2
    have hs0 := c5_1
    refine lv_aload_n hx hb dX5_grow_11 rfl (lv_at hl 0 rfl) ?_
    refine lv_iload_n hx hb dX5_grow_12 rfl (lv_at hl 1 rfl) ?_
    refine u_top (show cd = nI (tn cd) from (icM_tn hn h2 c5_1).1) ?_
    refine u_callV (cf' := cM cyI cyZ ad n t md (mlD n (tn cd) jd jn) (mlN n (tn cd) jn) (mgo n t jd jn wm (tn cd)) od bs ab be hh) (As := [.int (nI (tn cd))]) (rest := []) (st1 := []) C hW (c_X5_go l D cyI cO cyZ ad fa n t md jd jn wm od bs ab be hh (tn cd) (by omega) (by omega) (by omega) (hL (tn cd) hc1 jn)) mv_yX5_go mw_348 rfl ⟨rfl, rfl, Nat.le_of_ble_eq_true rfl, Nat.le_of_ble_eq_true rfl⟩ (by decide) cM_0 rfl rfl hl (Nat.le_of_ble_eq_true rfl) rfl rfl dX5_grow_13 (fun H locs hW => ?_)
    refine lv_iconst (v := 1) hx hb dX5_grow_16 (by decide) ?_
    refine lv_istore_n (lv' := [(2, .int 1), (0, .ref (ad 0)), (1, .int cd)]) hx hb dX5_grow_17 rfl hl (by decide) rfl (fun ls hl => ?_)
    refine lv_iconst (v := 0) hx hb dX5_grow_18 (by decide) ?_
    refine lv_istore_n (lv' := [(3, .int 0), (2, .int 1), (0, .ref (ad 0)), (1, .int cd)]) hx hb dX5_grow_19 rfl hl (by decide) rfl (fun ls hl => ?_)
    have L20 : ∀ (k20 : Nat) (i : Nat) (b : Int32) (f : Nat → Int32), i + k20 = n → lp (ggO n (mgo n t jd jn wm (tn cd))) i k20 (b, f) = (ggV n (mgo n t jd jn wm (tn cd)) md) → ∀ (H : Heap) (locs : List Loc), Wd D 7 ad (cM cyI cyZ ad n t f (mlD n (tn cd) jd jn) (mlN n (tn cd) jn) (mgo n t jd jn wm (tn cd)) od bs ab be hh) A s.heap H locs → ∀ ls : Array Slot, lv_has ls 5 [(3, .int (nI i)), (0, .ref (ad 0)), (2, .int b)] → W p l e ({ frames := 3, cells := 0, slots := 0, locals := 72 } : Room) s m args below meth c H locs 0 0 (MQ below (uQ D 7 ad (cM cyI cyZ ad n (mwT n t (mgo n t jd jn wm (tn cd)) md cd) (m1 n cd md ((ggV n (mgo n t jd jn wm (tn cd)) md).2)) (m1 n cd jd (mlD n (tn cd) jd jn)) (m1 n cd jn (mlN n (tn cd) jn)) (m1 n cd wm (mgo n t jd jn wm (tn cd))) od bs ab be hh) (some (.int (mwG n t (mgo n t jd jn wm (tn cd)) md cd))) A) args s 0 0 A) (F0 m 20 ls []) := by
      intro k20
      induction k20 with
      | zero =>
        intro i b f hi r20 H locs hW ls hl
        refine lv_iload_n hx hb dX5_grow_20 rfl (lv_at hl 0 rfl) ?_
        refine lv_aload_n hx hb dX5_grow_21 rfl (lv_at hl 1 rfl) ?_
        refine u_get C hW inlX5 (by decide) cM_0 rfl 0 (by decide) mw_71 rfl dX5_grow_22 ?_
        refine lv_icmp_ge (tgt := 104) hx hb dX5_grow_25 (by decide) (fun _ => ?_) (fun c9 => absurd (nI_le (by omega) (by omega)) c9)
        refine lv_iload_n hx hb dX5_grow_104 rfl (lv_at hl 2 rfl) ?_
        refine lv_if_eq (tgt := 115) hx hb dX5_grow_105 (by decide) (fun c105_2 => ?_) (fun c105_2 => ?_)
        · skip
          refine lv_bipush (v := -103) hx hb dX5_grow_115 (by decide) ?_
          exact u_iret C hr hW dX5_grow_117 (by first | (simp only [mwG, if_pos c105_2]; done) | (have h9 : (b, f) = _ := r20; simp only [mwG, if_neg hs0, ← h9, if_pos c105_2])) (by first | (simp only [m1, mwT, if_pos c105_2]; done) | (have h9 : (b, f) = _ := r20; simp only [m1, mwT, if_neg hs0, ← h9, if_pos c105_2]))
        · skip
          refine lv_aload_n hx hb dX5_grow_108 rfl (lv_at hl 1 rfl) ?_
          refine u_callV (cf' := cM cyI cyZ ad n ((mcV n t f).2) f (mlD n (tn cd) jd jn) (mlN n (tn cd) jn) (mgo n t jd jn wm (tn cd)) od bs ab be hh) (As := []) (rest := []) (st1 := [.int ((mcV n t f).1)]) C hW (c_X5_become l D cyI cO cyZ ad fa n t f (mlD n (tn cd) jd jn) (mlN n (tn cd) jn) (mgo n t jd jn wm (tn cd)) od bs ab be hh  (by omega)) mv_yX5_become mw_222 rfl ⟨rfl, rfl, Nat.le_of_ble_eq_true rfl, Nat.le_of_ble_eq_true rfl⟩ (by decide) cM_0 rfl rfl hl (Nat.le_of_ble_eq_true rfl) rfl rfl dX5_grow_109 (fun H locs hW => ?_)
          refine lv_goto (tgt := 117) hx hb dX5_grow_112 (by decide) ?_
          exact u_iret C hr hW dX5_grow_117 (by first | (simp only [mwG, if_neg c105_2]; done) | (have h9 : (b, f) = _ := r20; simp only [mwG, if_neg hs0, ← h9, if_neg c105_2])) (by first | (simp only [m1, mwT, if_neg c105_2]; done) | (have h9 : (b, f) = _ := r20; simp only [m1, mwT, if_neg hs0, ← h9, if_neg c105_2]))
      | succ k20 ih20 =>
        intro i b f hi r20 H locs hW ls hl
        refine lv_iload_n hx hb dX5_grow_20 rfl (lv_at hl 0 rfl) ?_
        refine lv_aload_n hx hb dX5_grow_21 rfl (lv_at hl 1 rfl) ?_
        refine u_get C hW inlX5 (by decide) cM_0 rfl 0 (by decide) mw_71 rfl dX5_grow_22 ?_
        refine lv_icmp_ge (tgt := 104) hx hb dX5_grow_25 (by decide) (fun c9 => absurd c9 (nI_ge (by omega) (by omega))) (fun _ => ?_)
        refine lv_iconst (v := 0) hx hb dX5_grow_28 (by decide) ?_
        refine lv_istore (lv' := [(4, .int 0), (3, .int (nI i)), (0, .ref (ad 0)), (2, .int b)]) hx hb dX5_grow_29 hl (by decide) rfl (fun ls hl => ?_)
        have L31 : ∀ (k31 : Nat) (j : Nat) (b : Int32) (f : Nat → Int32), j + k31 = n → lp (ggO n (mgo n t jd jn wm (tn cd))) (i + 1) k20 (lp (ggI (mgo n t jd jn wm (tn cd)) i) j k31 (b, f)) = (ggV n (mgo n t jd jn wm (tn cd)) md) → ∀ (H : Heap) (locs : List Loc), Wd D 7 ad (cM cyI cyZ ad n t f (mlD n (tn cd) jd jn) (mlN n (tn cd) jn) (mgo n t jd jn wm (tn cd)) od bs ab be hh) A s.heap H locs → ∀ ls : Array Slot, lv_has ls 5 [(4, .int (nI j)), (0, .ref (ad 0)), (2, .int b), (3, .int (nI i))] → W p l e ({ frames := 3, cells := 0, slots := 0, locals := 72 } : Room) s m args below meth c H locs 0 0 (MQ below (uQ D 7 ad (cM cyI cyZ ad n (mwT n t (mgo n t jd jn wm (tn cd)) md cd) (m1 n cd md ((ggV n (mgo n t jd jn wm (tn cd)) md).2)) (m1 n cd jd (mlD n (tn cd) jd jn)) (m1 n cd jn (mlN n (tn cd) jn)) (m1 n cd wm (mgo n t jd jn wm (tn cd))) od bs ab be hh) (some (.int (mwG n t (mgo n t jd jn wm (tn cd)) md cd))) A) args s 0 0 A) (F0 m 31 ls []) := by
          intro k31
          induction k31 with
          | zero =>
            intro j b f hj r31 H locs hW ls hl
            refine lv_iload hx hb dX5_grow_31 (lv_at hl 0 rfl) ?_
            refine lv_aload_n hx hb dX5_grow_33 rfl (lv_at hl 1 rfl) ?_
            refine u_get C hW inlX5 (by decide) cM_0 rfl 0 (by decide) mw_71 rfl dX5_grow_34 ?_
            refine lv_icmp_ge (tgt := 98) hx hb dX5_grow_37 (by decide) (fun _ => ?_) (fun c9 => absurd (nI_le (by omega) (by omega)) c9)
            refine lv_iinc (v := nI (i + 1)) (lv' := [(3, .int (nI (i + 1))), (4, .int (nI j)), (0, .ref (ad 0)), (2, .int b)]) hx hb dX5_grow_98 hl (k := 3) rfl (nI_1 _) (by decide) rfl (fun ls hl => ?_)
            refine lv_goto (tgt := 20) hx hb dX5_grow_101 (by decide) ?_
            exact ih20  (i + 1) b f (by omega) r31 H locs hW ls (lv_sub hl [0, 2, 3] rfl)
          | succ k31 ih31 =>
            intro j b f hj r31 H locs hW ls hl
            refine lv_iload hx hb dX5_grow_31 (lv_at hl 0 rfl) ?_
            refine lv_aload_n hx hb dX5_grow_33 rfl (lv_at hl 1 rfl) ?_
            refine u_get C hW inlX5 (by decide) cM_0 rfl 0 (by decide) mw_71 rfl dX5_grow_34 ?_
            refine lv_icmp_ge (tgt := 98) hx hb dX5_grow_37 (by decide) (fun c9 => absurd c9 (nI_ge (by omega) (by omega))) (fun _ => ?_)
            refine lv_iload_n hx hb dX5_grow_40 rfl (lv_at hl 2 rfl) ?_
            refine lv_if_eq (tgt := 66) hx hb dX5_grow_41 (by decide) (fun c41_3 => ?_) (fun c41_3 => ?_)
            · skip
              refine lv_iconst (v := 0) hx hb dX5_grow_66 (by decide) ?_
              refine lv_istore_n (lv' := [(2, .int 0), (4, .int (nI j)), (0, .ref (ad 0)), (3, .int (nI i))]) hx hb dX5_grow_67 rfl hl (by decide) rfl (fun ls hl => ?_)
              refine lv_aload_n hx hb dX5_grow_68 rfl (lv_at hl 2 rfl) ?_
              refine u_get C hW inlX5 (by decide) cM_0 rfl 3 (by decide) mw_73 rfl dX5_grow_69 ?_
              refine lv_bipush (v := 6) hx hb dX5_grow_72 (by decide) ?_
              refine lv_iload_n hx hb dX5_grow_74 rfl (lv_at hl 3 rfl) ?_
              refine lv_imul hx hb dX5_grow_75 ?_
              refine u_top (show 6 * (nI i) = nI (6 * i) from pk_mul 6 i) ?_
              refine lv_iload hx hb dX5_grow_76 (lv_at hl 1 rfl) ?_
              refine lv_iadd hx hb dX5_grow_78 ?_
              refine u_top (show (nI (6 * i)) + (nI j) = nI ((6 * i) + j) from nI_add (6 * i) j) ?_
              refine lv_aload_n hx hb dX5_grow_79 rfl (lv_at hl 2 rfl) ?_
              refine u_get C hW inlX5 (by decide) cM_0 rfl 6 (by decide) mw_77 rfl dX5_grow_80 ?_
              refine lv_bipush (v := 6) hx hb dX5_grow_83 (by decide) ?_
              refine lv_iload_n hx hb dX5_grow_85 rfl (lv_at hl 3 rfl) ?_
              refine lv_imul hx hb dX5_grow_86 ?_
              refine u_top (show 6 * (nI i) = nI (6 * i) from pk_mul 6 i) ?_
              refine lv_iload hx hb dX5_grow_87 (lv_at hl 1 rfl) ?_
              refine lv_iadd hx hb dX5_grow_89 ?_
              refine u_top (show (nI (6 * i)) + (nI j) = nI ((6 * i) + j) from nI_add (6 * i) j) ?_
              refine u_iald C hW (by decide) cM_5 0 rfl ((6 * i) + j) rfl (by omega) (by decide) dX5_grow_90 ?_
              refine u_iast (cf' := cM cyI cyZ ad n t (upd f ((6 * i) + j) (mgo n t jd jn wm (tn cd) ((6 * i) + j))) (mlD n (tn cd) jd jn) (mlN n (tn cd) jn) (mgo n t jd jn wm (tn cd)) od bs ab be hh) C hW (by decide) cM_2 0 rfl ((6 * i) + j) rfl (by omega) (by decide) cM_s2 dX5_grow_91 (fun H locs hW => ?_)
              refine lv_iinc (v := nI (j + 1)) (lv' := [(4, .int (nI (j + 1))), (2, .int 0), (0, .ref (ad 0)), (3, .int (nI i))]) hx hb dX5_grow_92 hl (k := 1) rfl (nI_1 _) (by decide) rfl (fun ls hl => ?_)
              refine lv_goto (tgt := 31) hx hb dX5_grow_95 (by decide) ?_
              exact ih31  (j + 1) 0 (upd f ((6 * i) + j) (mgo n t jd jn wm (tn cd) ((6 * i) + j))) (by omega) (by have h9 := r31; simp only [lp_s, lp_0, ggI, if_pos c41_3] at h9; exact h9) H locs hW ls (lv_sub hl [0, 2, 1, 3] rfl)
            · skip
              refine lv_aload_n hx hb dX5_grow_44 rfl (lv_at hl 1 rfl) ?_
              refine u_get C hW inlX5 (by decide) cM_0 rfl 6 (by decide) mw_77 rfl dX5_grow_45 ?_
              refine lv_bipush (v := 6) hx hb dX5_grow_48 (by decide) ?_
              refine lv_iload_n hx hb dX5_grow_50 rfl (lv_at hl 3 rfl) ?_
              refine lv_imul hx hb dX5_grow_51 ?_
              refine u_top (show 6 * (nI i) = nI (6 * i) from pk_mul 6 i) ?_
              refine lv_iload hx hb dX5_grow_52 (lv_at hl 0 rfl) ?_
              refine lv_iadd hx hb dX5_grow_54 ?_
              refine u_top (show (nI (6 * i)) + (nI j) = nI ((6 * i) + j) from nI_add (6 * i) j) ?_
              refine u_iald C hW (by decide) cM_5 0 rfl ((6 * i) + j) rfl (by omega) (by decide) dX5_grow_55 ?_
              refine lv_sipush (v := 1000) hx hb dX5_grow_56 (by decide) ?_
              refine lv_icmp_gt (tgt := 66) hx hb dX5_grow_59 (by decide) (fun c59_4 => ?_) (fun c59_4 => ?_)
              · skip
                refine lv_iconst (v := 0) hx hb dX5_grow_66 (by decide) ?_
                refine lv_istore_n (lv' := [(2, .int 0), (4, .int (nI j)), (0, .ref (ad 0)), (3, .int (nI i))]) hx hb dX5_grow_67 rfl hl (by decide) rfl (fun ls hl => ?_)
                refine lv_aload_n hx hb dX5_grow_68 rfl (lv_at hl 2 rfl) ?_
                refine u_get C hW inlX5 (by decide) cM_0 rfl 3 (by decide) mw_73 rfl dX5_grow_69 ?_
                refine lv_bipush (v := 6) hx hb dX5_grow_72 (by decide) ?_
                refine lv_iload_n hx hb dX5_grow_74 rfl (lv_at hl 3 rfl) ?_
                refine lv_imul hx hb dX5_grow_75 ?_
                refine u_top (show 6 * (nI i) = nI (6 * i) from pk_mul 6 i) ?_
                refine lv_iload hx hb dX5_grow_76 (lv_at hl 1 rfl) ?_
                refine lv_iadd hx hb dX5_grow_78 ?_
                refine u_top (show (nI (6 * i)) + (nI j) = nI ((6 * i) + j) from nI_add (6 * i) j) ?_
                refine lv_aload_n hx hb dX5_grow_79 rfl (lv_at hl 2 rfl) ?_
                refine u_get C hW inlX5 (by decide) cM_0 rfl 6 (by decide) mw_77 rfl dX5_grow_80 ?_
                refine lv_bipush (v := 6) hx hb dX5_grow_83 (by decide) ?_
                refine lv_iload_n hx hb dX5_grow_85 rfl (lv_at hl 3 rfl) ?_
                refine lv_imul hx hb dX5_grow_86 ?_
                refine u_top (show 6 * (nI i) = nI (6 * i) from pk_mul 6 i) ?_
                refine lv_iload hx hb dX5_grow_87 (lv_at hl 1 rfl) ?_
                refine lv_iadd hx hb dX5_grow_89 ?_
                refine u_top (show (nI (6 * i)) + (nI j) = nI ((6 * i) + j) from nI_add (6 * i) j) ?_
                refine u_iald C hW (by decide) cM_5 0 rfl ((6 * i) + j) rfl (by omega) (by decide) dX5_grow_90 ?_
                refine u_iast (cf' := cM cyI cyZ ad n t (upd f ((6 * i) + j) (mgo n t jd jn wm (tn cd) ((6 * i) + j))) (mlD n (tn cd) jd jn) (mlN n (tn cd) jn) (mgo n t jd jn wm (tn cd)) od bs ab be hh) C hW (by decide) cM_2 0 rfl ((6 * i) + j) rfl (by omega) (by decide) cM_s2 dX5_grow_91 (fun H locs hW => ?_)
                refine lv_iinc (v := nI (j + 1)) (lv' := [(4, .int (nI (j + 1))), (2, .int 0), (0, .ref (ad 0)), (3, .int (nI i))]) hx hb dX5_grow_92 hl (k := 1) rfl (nI_1 _) (by decide) rfl (fun ls hl => ?_)
                refine lv_goto (tgt := 31) hx hb dX5_grow_95 (by decide) ?_
                exact ih31  (j + 1) 0 (upd f ((6 * i) + j) (mgo n t jd jn wm (tn cd) ((6 * i) + j))) (by omega) (by have h9 := r31; simp only [lp_s, lp_0, ggI, if_neg c41_3, if_pos c59_4] at h9; exact h9) H locs hW ls (lv_sub hl [0, 2, 1, 3] rfl)
              · skip
                refine lv_iconst (v := 1) hx hb dX5_grow_62 (by decide) ?_
                refine lv_goto (tgt := 67) hx hb dX5_grow_63 (by decide) ?_
                refine lv_istore_n (lv' := [(2, .int 1), (4, .int (nI j)), (0, .ref (ad 0)), (3, .int (nI i))]) hx hb dX5_grow_67 rfl hl (by decide) rfl (fun ls hl => ?_)
                refine lv_aload_n hx hb dX5_grow_68 rfl (lv_at hl 2 rfl) ?_
                refine u_get C hW inlX5 (by decide) cM_0 rfl 3 (by decide) mw_73 rfl dX5_grow_69 ?_
                refine lv_bipush (v := 6) hx hb dX5_grow_72 (by decide) ?_
                refine lv_iload_n hx hb dX5_grow_74 rfl (lv_at hl 3 rfl) ?_
                refine lv_imul hx hb dX5_grow_75 ?_
                refine u_top (show 6 * (nI i) = nI (6 * i) from pk_mul 6 i) ?_
                refine lv_iload hx hb dX5_grow_76 (lv_at hl 1 rfl) ?_
                refine lv_iadd hx hb dX5_grow_78 ?_
                refine u_top (show (nI (6 * i)) + (nI j) = nI ((6 * i) + j) from nI_add (6 * i) j) ?_
                refine lv_aload_n hx hb dX5_grow_79 rfl (lv_at hl 2 rfl) ?_
                refine u_get C hW inlX5 (by decide) cM_0 rfl 6 (by decide) mw_77 rfl dX5_grow_80 ?_
                refine lv_bipush (v := 6) hx hb dX5_grow_83 (by decide) ?_
                refine lv_iload_n hx hb dX5_grow_85 rfl (lv_at hl 3 rfl) ?_
                refine lv_imul hx hb dX5_grow_86 ?_
                refine u_top (show 6 * (nI i) = nI (6 * i) from pk_mul 6 i) ?_
                refine lv_iload hx hb dX5_grow_87 (lv_at hl 1 rfl) ?_
                refine lv_iadd hx hb dX5_grow_89 ?_
                refine u_top (show (nI (6 * i)) + (nI j) = nI ((6 * i) + j) from nI_add (6 * i) j) ?_
                refine u_iald C hW (by decide) cM_5 0 rfl ((6 * i) + j) rfl (by omega) (by decide) dX5_grow_90 ?_
                refine u_iast (cf' := cM cyI cyZ ad n t (upd f ((6 * i) + j) (mgo n t jd jn wm (tn cd) ((6 * i) + j))) (mlD n (tn cd) jd jn) (mlN n (tn cd) jn) (mgo n t jd jn wm (tn cd)) od bs ab be hh) C hW (by decide) cM_2 0 rfl ((6 * i) + j) rfl (by omega) (by decide) cM_s2 dX5_grow_91 (fun H locs hW => ?_)
                refine lv_iinc (v := nI (j + 1)) (lv' := [(4, .int (nI (j + 1))), (2, .int 1), (0, .ref (ad 0)), (3, .int (nI i))]) hx hb dX5_grow_92 hl (k := 1) rfl (nI_1 _) (by decide) rfl (fun ls hl => ?_)
                refine lv_goto (tgt := 31) hx hb dX5_grow_95 (by decide) ?_
                exact ih31  (j + 1) 1 (upd f ((6 * i) + j) (mgo n t jd jn wm (tn cd) ((6 * i) + j))) (by omega) (by have h9 := r31; simp only [lp_s, lp_0, ggI, if_neg c41_3, if_neg c59_4] at h9; exact h9) H locs hW ls (lv_sub hl [0, 2, 1, 3] rfl)
        exact L31 n 0 b f (by omega) r20 H locs hW ls (lv_sub hl [0, 2, 3, 1] rfl)
    exact L20 n 0 1 md (by omega) rfl H locs hW ls (lv_sub hl [0, 2, 1] rfl)
  · skip
    refine lv_bipush (v := -102) hx hb dX5_grow_8 (by decide) ?_
    exact u_iret C hr hW dX5_grow_10 (by first | (simp only [mwG, if_pos c5_1]; done) | (have h9 : (b, f) = _ := r20; simp only [mwG, if_neg hs0, ← h9, if_pos c5_1])) (by first | (simp only [m1, mwT, if_pos c5_1]; done) | (have h9 : (b, f) = _ := r20; simp only [m1, mwT, if_neg hs0, ← h9, if_pos c5_1]))
