set_option maxHeartbeats 4000000 in
set_option maxRecDepth 100000 in
theorem c_X5_begin (l : Launch) (D : va_G) (cyI cO cyZ : ClassId) (ad : Nat → Nat) (fa : Nat) (n : Nat) (t md jd jn wm od : Nat → Int32) (bs : Int32) (ab be hh : Int64)   : Ct l yX5_begin (Cond.code yX5_begin cX5_begin 3 none :: wsL_law) ({ frames := 0, cells := 0, slots := 0, locals := 0 } : Room) D (ty3 cyI cO cyZ) 7 ad fa [.ref (ad 0)] (cM cyI cyZ ad n t md jd jn wm od bs ab be hh) (cM cyI cyZ ad n (mbV t) md jd jn wm od bs ab be hh) (none) := by
  refine Ct.of (by decide) (Nat.le_of_ble_eq_true rfl) ?_
  intro p e s m args below meth c A C hr H locs hW ls hl
  have C : Cx p s m args meth c cX5_begin 3 RX5 D (ty3 cyI cO cyZ) fa A := C
  have hx := C.1
  have hb := C.2.1
  have hl : lv_has ls 3 [(0, .ref (ad 0))] := hl
  refine lv_iconst (v := 0) hx hb dX5_begin_0 (by decide) ?_
  refine lv_istore_n (lv' := [(1, .int 0), (0, .ref (ad 0))]) hx hb dX5_begin_1 rfl hl (by decide) rfl (fun ls hl => ?_)
  have L2 : ∀ (k2 : Nat) (i : Nat) (f : Nat → Int32), i + k2 = 6 → lp mbO i k2 f = mbV t → ∀ (H : Heap) (locs : List Loc), Wd D 7 ad (cM cyI cyZ ad n f md jd jn wm od bs ab be hh) A s.heap H locs → ∀ ls : Array Slot, lv_has ls 3 [(1, .int (nI i)), (0, .ref (ad 0))] → W p l e ({ frames := 0, cells := 0, slots := 0, locals := 0 } : Room) s m args below meth c H locs 0 0 (MQ below (uQ D 7 ad (cM cyI cyZ ad n (mbV t) md jd jn wm od bs ab be hh) (none) A) args s 0 0 A) (F0 m 2 ls []) := by
    intro k2
    induction k2 with
    | zero =>
      intro i f hi r2 H locs hW ls hl
      refine lv_iload_n hx hb dX5_begin_2 rfl (lv_at hl 0 rfl) ?_
      refine lv_bipush (v := 6) hx hb dX5_begin_3 (by decide) ?_
      refine lv_icmp_ge (tgt := 49) hx hb dX5_begin_5 (by decide) (fun _ => ?_) (fun c9 => absurd (show nI 6 ≤ nI i from nI_le (by omega) (by omega)) c9)
      exact u_vret C hr hW dX5_begin_49 (by rw [← r2]; rfl)
    | succ k2 ih2 =>
      intro i f hi r2 H locs hW ls hl
      refine lv_iload_n hx hb dX5_begin_2 rfl (lv_at hl 0 rfl) ?_
      refine lv_bipush (v := 6) hx hb dX5_begin_3 (by decide) ?_
      refine lv_icmp_ge (tgt := 49) hx hb dX5_begin_5 (by decide) (fun c9 => absurd c9 (show ¬ nI 6 ≤ nI i from nI_ge (by omega) (by omega))) (fun _ => ?_)
      refine lv_iconst (v := 0) hx hb dX5_begin_8 (by decide) ?_
      refine lv_istore_n (lv' := [(2, .int 0), (1, .int (nI i)), (0, .ref (ad 0))]) hx hb dX5_begin_9 rfl hl (by decide) rfl (fun ls hl => ?_)
      have L10 : ∀ (k10 : Nat) (j : Nat) (f : Nat → Int32), j + k10 = 6 → lp mbO (i + 1) k2 (lp (mbI i) j k10 f) = mbV t → ∀ (H : Heap) (locs : List Loc), Wd D 7 ad (cM cyI cyZ ad n f md jd jn wm od bs ab be hh) A s.heap H locs → ∀ ls : Array Slot, lv_has ls 3 [(2, .int (nI j)), (0, .ref (ad 0)), (1, .int (nI i))] → W p l e ({ frames := 0, cells := 0, slots := 0, locals := 0 } : Room) s m args below meth c H locs 0 0 (MQ below (uQ D 7 ad (cM cyI cyZ ad n (mbV t) md jd jn wm od bs ab be hh) (none) A) args s 0 0 A) (F0 m 10 ls []) := by
        intro k10
        induction k10 with
        | zero =>
          intro j f hj r10 H locs hW ls hl
          refine lv_iload_n hx hb dX5_begin_10 rfl (lv_at hl 0 rfl) ?_
          refine lv_bipush (v := 6) hx hb dX5_begin_11 (by decide) ?_
          refine lv_icmp_ge (tgt := 43) hx hb dX5_begin_13 (by decide) (fun _ => ?_) (fun c9 => absurd (show nI 6 ≤ nI j from nI_le (by omega) (by omega)) c9)
          refine lv_iinc (v := nI (i + 1)) (lv' := [(1, .int (nI (i + 1))), (2, .int (nI j)), (0, .ref (ad 0))]) hx hb dX5_begin_43 hl (k := 2) rfl (nI_1 _) (by decide) rfl (fun ls hl => ?_)
          refine lv_goto (tgt := 2) hx hb dX5_begin_46 (by decide) ?_
          exact ih2  (i + 1) f (by omega) r10 H locs hW ls (lv_sub hl [0, 2] rfl)
        | succ k10 ih10 =>
          intro j f hj r10 H locs hW ls hl
          refine lv_iload_n hx hb dX5_begin_10 rfl (lv_at hl 0 rfl) ?_
          refine lv_bipush (v := 6) hx hb dX5_begin_11 (by decide) ?_
          refine lv_icmp_ge (tgt := 43) hx hb dX5_begin_13 (by decide) (fun c9 => absurd c9 (show ¬ nI 6 ≤ nI j from nI_ge (by omega) (by omega))) (fun _ => ?_)
          refine lv_aload_n hx hb dX5_begin_16 rfl (lv_at hl 1 rfl) ?_
          refine u_get C hW inlX5 (by decide) cM_0 rfl 1 (by decide) mw_72 rfl dX5_begin_17 ?_
          refine lv_bipush (v := 6) hx hb dX5_begin_20 (by decide) ?_
          refine lv_iload_n hx hb dX5_begin_22 rfl (lv_at hl 2 rfl) ?_
          refine lv_imul hx hb dX5_begin_23 ?_
          refine u_top (show 6 * (nI i) = nI (6 * i) from pk_mul 6 i) ?_
          refine lv_iload_n hx hb dX5_begin_24 rfl (lv_at hl 0 rfl) ?_
          refine lv_iadd hx hb dX5_begin_25 ?_
          refine u_top (show (nI (6 * i)) + (nI j) = nI ((6 * i) + j) from nI_add (6 * i) j) ?_
          refine lv_iload_n hx hb dX5_begin_26 rfl (lv_at hl 2 rfl) ?_
          refine lv_iload_n hx hb dX5_begin_27 rfl (lv_at hl 0 rfl) ?_
          refine lv_icmp_ne (tgt := 35) hx hb dX5_begin_28 (by decide) (fun c28_1 => ?_) (fun c28_1 => ?_)
          · skip
            refine lv_iconst (v := 1) hx hb dX5_begin_35 (by decide) ?_
            refine u_iast (cf' := cM cyI cyZ ad n (upd f ((6 * i) + j) 1) md jd jn wm od bs ab be hh) C hW (by decide) cM_1 0 rfl ((6 * i) + j) rfl (by omega) (by decide) cM_s1 dX5_begin_36 (fun H locs hW => ?_)
            refine lv_iinc (v := nI (j + 1)) (lv' := [(2, .int (nI (j + 1))), (0, .ref (ad 0)), (1, .int (nI i))]) hx hb dX5_begin_37 hl (k := 0) rfl (nI_1 _) (by decide) rfl (fun ls hl => ?_)
            refine lv_goto (tgt := 10) hx hb dX5_begin_40 (by decide) ?_
            exact ih10  (j + 1) (upd f ((6 * i) + j) 1) (by omega) (by have h9 := r10; simp only [lp_s, lp_0, mbI, if_neg c28_1] at h9; exact h9) H locs hW ls (lv_sub hl [0, 1, 2] rfl)
          · skip
            refine lv_iconst (v := 0) hx hb dX5_begin_31 (by decide) ?_
            refine lv_goto (tgt := 36) hx hb dX5_begin_32 (by decide) ?_
            refine u_iast (cf' := cM cyI cyZ ad n (upd f ((6 * i) + j) 0) md jd jn wm od bs ab be hh) C hW (by decide) cM_1 0 rfl ((6 * i) + j) rfl (by omega) (by decide) cM_s1 dX5_begin_36 (fun H locs hW => ?_)
            refine lv_iinc (v := nI (j + 1)) (lv' := [(2, .int (nI (j + 1))), (0, .ref (ad 0)), (1, .int (nI i))]) hx hb dX5_begin_37 hl (k := 0) rfl (nI_1 _) (by decide) rfl (fun ls hl => ?_)
            refine lv_goto (tgt := 10) hx hb dX5_begin_40 (by decide) ?_
            exact ih10  (j + 1) (upd f ((6 * i) + j) 0) (by omega) (by have h9 := r10; simp only [lp_s, lp_0, mbI, if_pos c28_1] at h9; exact h9) H locs hW ls (lv_sub hl [0, 1, 2] rfl)
      exact L10 6 0 f (by omega) r2 H locs hW ls (lv_sub hl [0, 2, 1] rfl)
  exact L2 6 0 t (by omega) rfl H locs hW ls (lv_sub hl [0, 1] rfl)
set_option maxHeartbeats 4000000 in
set_option maxRecDepth 100000 in
theorem c_X5_in (l : Launch) (D : va_G) (cyI cO cyZ : ClassId) (ad : Nat → Nat) (fa : Nat) (n : Nat) (t md jd jn wm od : Nat → Int32) (bs : Int32) (ab be hh : Int64) (v x y : Int32)  : Ct l yX5_in (Cond.code yX5_in cX5_in 3 (some .boolean) :: wsL_law) ({ frames := 0, cells := 0, slots := 0, locals := 0 } : Room) D (ty3 cyI cO cyZ) 7 ad fa [.int v, .int x, .int y] (cM cyI cyZ ad n t md jd jn wm od bs ab be hh) (cM cyI cyZ ad n t md jd jn wm od bs ab be hh) (some (.int (mnV v x y))) := by
  refine Ct.of (by decide) (Nat.le_of_ble_eq_true rfl) ?_
  intro p e s m args below meth c A C hr H locs hW ls hl
  have C : Cx p s m args meth c cX5_in 3 RX5 D (ty3 cyI cO cyZ) fa A := C
  have hx := C.1
  have hb := C.2.1
  have hl : lv_has ls 3 [(0, .int v), (1, .int x), (2, .int y)] := hl
  refine lv_iload_n hx hb dX5_in_0 rfl (lv_at hl 0 rfl) ?_
  refine lv_iload_n hx hb dX5_in_1 rfl (lv_at hl 1 rfl) ?_
  refine lv_icmp_lt (tgt := 14) hx hb dX5_in_2 (by decide) (fun c2_1 => ?_) (fun c2_1 => ?_)
  · skip
    refine lv_iconst (v := 0) hx hb dX5_in_14 (by decide) ?_
    exact u_zret C hr hW dX5_in_15 (by first | exact Or.inl rfl | exact Or.inr rfl) (by simp only [mnV, if_pos c2_1]) rfl
  · skip
    refine lv_iload_n hx hb dX5_in_5 rfl (lv_at hl 0 rfl) ?_
    refine lv_iload_n hx hb dX5_in_6 rfl (lv_at hl 2 rfl) ?_
    refine lv_icmp_gt (tgt := 14) hx hb dX5_in_7 (by decide) (fun c7_2 => ?_) (fun c7_2 => ?_)
    · skip
      refine lv_iconst (v := 0) hx hb dX5_in_14 (by decide) ?_
      exact u_zret C hr hW dX5_in_15 (by first | exact Or.inl rfl | exact Or.inr rfl) (by simp only [mnV, if_neg c2_1, if_pos c7_2]) rfl
    · skip
      refine lv_iconst (v := 1) hx hb dX5_in_10 (by decide) ?_
      refine lv_goto (tgt := 15) hx hb dX5_in_11 (by decide) ?_
      exact u_zret C hr hW dX5_in_15 (by first | exact Or.inl rfl | exact Or.inr rfl) (by simp only [mnV, if_neg c2_1, if_neg c7_2]) rfl
set_option maxHeartbeats 4000000 in
set_option maxRecDepth 100000 in
theorem c_X5_isPoint (l : Launch) (D : va_G) (cyI cO cyZ : ClassId) (ad : Nat → Nat) (fa : Nat) (n : Nat) (t md jd jn wm od : Nat → Int32) (bs : Int32) (ab be hh : Int64) (x : Int32) (hn : n ≤ 6) (h2 : 2 ≤ n) : Ct l yX5_isPoint (Cond.code yX5_isPoint cX5_isPoint 2 (some .boolean) :: wsL_law) ({ frames := 1, cells := 0, slots := 0, locals := 22 } : Room) D (ty3 cyI cO cyZ) 7 ad fa [.ref (ad 0), .int x] (cM cyI cyZ ad n t md jd jn wm od bs ab be hh) (cM cyI cyZ ad n t md jd jn wm od bs ab be hh) (some (.int (knM n x))) := by
  refine Ct.of (by decide) (Nat.le_of_ble_eq_true rfl) ?_
  intro p e s m args below meth c A C hr H locs hW ls hl
  have C : Cx p s m args meth c cX5_isPoint 2 RX5 D (ty3 cyI cO cyZ) fa A := C
  have hx := C.1
  have hb := C.2.1
  have hl : lv_has ls 2 [(0, .ref (ad 0)), (1, .int x)] := hl
  refine lv_iload_n hx hb dX5_isPoint_0 rfl (lv_at hl 1 rfl) ?_
  refine lv_iconst (v := 0) hx hb dX5_isPoint_1 (by decide) ?_
  refine lv_aload_n hx hb dX5_isPoint_2 rfl (lv_at hl 0 rfl) ?_
  refine u_get C hW inlX5 (by decide) cM_0 rfl 0 (by decide) mw_71 rfl dX5_isPoint_3 ?_
  refine lv_iconst (v := 1) hx hb dX5_isPoint_6 (by decide) ?_
  refine lv_isub hx hb dX5_isPoint_7 ?_
  refine u_top (show (nI n) - 1 = nI (n - 1) from pk_sub (a := n) (b := 1) (by omega)) ?_
  refine u_callS (cf' := cM cyI cyZ ad n t md jd jn wm od bs ab be hh) (As := [.int x, .int 0, .int (nI (n - 1))]) (rest := []) (st1 := [.int (mnV x 0 (nI (n - 1)))]) C hW (c_X5_in l D cyI cO cyZ ad fa n t md jd jn wm od bs ab be hh x 0 (nI (n - 1)) ) ms_yX5_in mw_91 rfl ⟨rfl, rfl, Nat.le_of_ble_eq_true rfl, Nat.le_of_ble_eq_true rfl⟩ hl (Nat.le_of_ble_eq_true rfl) rfl rfl dX5_isPoint_8 (fun H locs hW => ?_)
  exact u_zret C hr hW dX5_isPoint_11 (mn_01 _ _ _) rfl rfl
set_option maxHeartbeats 4000000 in
set_option maxRecDepth 100000 in
theorem c_X5_greater (l : Launch) (D : va_G) (cyI cO cyZ : ClassId) (ad : Nat → Nat) (fa : Nat) (n : Nat) (t md jd jn wm od : Nat → Int32) (bs : Int32) (ab be hh : Int64) (x y : Int32)  : Ct l yX5_greater (Cond.code yX5_greater cX5_greater 2 (some .int) :: wsL_law) ({ frames := 0, cells := 0, slots := 0, locals := 0 } : Room) D (ty3 cyI cO cyZ) 7 ad fa [.int x, .int y] (cM cyI cyZ ad n t md jd jn wm od bs ab be hh) (cM cyI cyZ ad n t md jd jn wm od bs ab be hh) (some (.int (grt x y))) := by
  refine Ct.of (by decide) (Nat.le_of_ble_eq_true rfl) ?_
  intro p e s m args below meth c A C hr H locs hW ls hl
  have C : Cx p s m args meth c cX5_greater 2 RX5 D (ty3 cyI cO cyZ) fa A := C
  have hx := C.1
  have hb := C.2.1
  have hl : lv_has ls 2 [(0, .int x), (1, .int y)] := hl
  refine lv_iload_n hx hb dX5_greater_0 rfl (lv_at hl 0 rfl) ?_
  refine lv_iload_n hx hb dX5_greater_1 rfl (lv_at hl 1 rfl) ?_
  refine lv_icmp_le (tgt := 9) hx hb dX5_greater_2 (by decide) (fun c2_1 => ?_) (fun c2_1 => ?_)
  · skip
    refine lv_iload_n hx hb dX5_greater_9 rfl (lv_at hl 1 rfl) ?_
    exact u_iret C hr hW dX5_greater_10 (by simp only [grt, if_pos c2_1]) rfl
  · skip
    refine lv_iload_n hx hb dX5_greater_5 rfl (lv_at hl 0 rfl) ?_
    refine lv_goto (tgt := 10) hx hb dX5_greater_6 (by decide) ?_
    exact u_iret C hr hW dX5_greater_10 (by simp only [grt, if_neg c2_1]) rfl
set_option maxHeartbeats 4000000 in
set_option maxRecDepth 100000 in
theorem c_X5_points (l : Launch) (D : va_G) (cyI cO cyZ : ClassId) (ad : Nat → Nat) (fa : Nat) (n : Nat) (t md jd jn wm od : Nat → Int32) (bs : Int32) (ab be hh : Int64) (x : Int32)  : Ct l yX5_points (Cond.code yX5_points cX5_points 2 (some .int) :: wsL_law) ({ frames := 1, cells := 0, slots := 0, locals := 22 } : Room) D (ty3 cyI cO cyZ) 7 ad fa [.ref (ad 0), .int x] (cM cyI cyZ ad n t md jd jn wm od bs ab be hh) (cM cyI cyZ ad (mpN n x) (mpT t x) md jd jn wm od bs ab be hh) (some (.int (mpR x))) := by
  refine Ct.of (by decide) (Nat.le_of_ble_eq_true rfl) ?_
  intro p e s m args below meth c A C hr H locs hW ls hl
  have C : Cx p s m args meth c cX5_points 2 RX5 D (ty3 cyI cO cyZ) fa A := C
  have hx := C.1
  have hb := C.2.1
  have hl : lv_has ls 2 [(0, .ref (ad 0)), (1, .int x)] := hl
  refine lv_iload_n hx hb dX5_points_0 rfl (lv_at hl 1 rfl) ?_
  refine lv_iconst (v := 2) hx hb dX5_points_1 (by decide) ?_
  refine lv_bipush (v := 6) hx hb dX5_points_2 (by decide) ?_
  refine u_callS (cf' := cM cyI cyZ ad n t md jd jn wm od bs ab be hh) (As := [.int x, .int 2, .int 6]) (rest := []) (st1 := [.int (mnV x 2 6)]) C hW (c_X5_in l D cyI cO cyZ ad fa n t md jd jn wm od bs ab be hh x 2 6 ) ms_yX5_in mw_91 rfl ⟨rfl, rfl, Nat.le_of_ble_eq_true rfl, Nat.le_of_ble_eq_true rfl⟩ hl (Nat.le_of_ble_eq_true rfl) rfl rfl dX5_points_4 (fun H locs hW => ?_)
  refine lv_if_ne (tgt := 13) hx hb dX5_points_7 (by decide) (fun c7_1 => ?_) (fun c7_1 => ?_)
  · skip
    refine lv_aload_n hx hb dX5_points_13 rfl (lv_at hl 0 rfl) ?_
    refine lv_iload_n hx hb dX5_points_14 rfl (lv_at hl 1 rfl) ?_
    refine u_top (show x = nI (tn x) from (mn26 c7_1).1) ?_
    refine u_put (cf' := cM cyI cyZ ad (tn x) t md jd jn wm od bs ab be hh) C hW inlX5 tyX5 tyX5_ok nmX5 (by decide) cM_0 rfl 0 (by decide) mw_71 rfl rfl rfl (Nat.le_of_ble_eq_true rfl) cM_s0 dX5_points_15 (fun H locs hW => ?_)
    refine lv_aload_n hx hb dX5_points_18 rfl (lv_at hl 0 rfl) ?_
    refine u_callV (cf' := cM cyI cyZ ad (tn x) (mbV t) md jd jn wm od bs ab be hh) (As := []) (rest := []) (st1 := []) C hW (c_X5_begin l D cyI cO cyZ ad fa (tn x) t md jd jn wm od bs ab be hh  ) mv_yX5_begin mw_79 rfl ⟨rfl, rfl, Nat.le_of_ble_eq_true rfl, Nat.le_of_ble_eq_true rfl⟩ (by decide) cM_0 rfl rfl hl (Nat.le_of_ble_eq_true rfl) rfl rfl dX5_points_19 (fun H locs hW => ?_)
    refine lv_iload_n hx hb dX5_points_22 rfl (lv_at hl 1 rfl) ?_
    exact u_iret C hr hW dX5_points_23 (by simp only [mpR, if_neg c7_1]) (by simp only [mpN, mpT, if_neg c7_1])
  · skip
    refine lv_bipush (v := -102) hx hb dX5_points_10 (by decide) ?_
    exact u_iret C hr hW dX5_points_12 (by simp only [mpR, if_pos c7_1]) (by simp only [mpN, mpT, if_pos c7_1])
set_option maxHeartbeats 4000000 in
set_option maxRecDepth 100000 in
theorem c_X5_d (l : Launch) (D : va_G) (cyI cO cyZ : ClassId) (ad : Nat → Nat) (fa : Nat) (n : Nat) (t md jd jn wm od : Nat → Int32) (bs : Int32) (ab be hh : Int64) (i j : Nat) (hi : i < 6) (hj : j < 6) : Ct l yX5_d (Cond.code yX5_d cX5_d 3 (some .int) :: wsL_law) ({ frames := 0, cells := 0, slots := 0, locals := 0 } : Room) D (ty3 cyI cO cyZ) 7 ad fa [.ref (ad 0), .int (nI i), .int (nI j)] (cM cyI cyZ ad n t md jd jn wm od bs ab be hh) (cM cyI cyZ ad n t md jd jn wm od bs ab be hh) (some (.int (t (6 * i + j)))) := by
  refine Ct.of (by decide) (Nat.le_of_ble_eq_true rfl) ?_
  intro p e s m args below meth c A C hr H locs hW ls hl
  have C : Cx p s m args meth c cX5_d 3 RX5 D (ty3 cyI cO cyZ) fa A := C
  have hx := C.1
  have hb := C.2.1
  have hl : lv_has ls 3 [(0, .ref (ad 0)), (1, .int (nI i)), (2, .int (nI j))] := hl
  refine lv_aload_n hx hb dX5_d_0 rfl (lv_at hl 0 rfl) ?_
  refine u_get C hW inlX5 (by decide) cM_0 rfl 1 (by decide) mw_72 rfl dX5_d_1 ?_
  refine lv_bipush (v := 6) hx hb dX5_d_4 (by decide) ?_
  refine lv_iload_n hx hb dX5_d_6 rfl (lv_at hl 1 rfl) ?_
  refine lv_imul hx hb dX5_d_7 ?_
  refine u_top (show 6 * (nI i) = nI (6 * i) from pk_mul 6 i) ?_
  refine lv_iload_n hx hb dX5_d_8 rfl (lv_at hl 2 rfl) ?_
  refine lv_iadd hx hb dX5_d_9 ?_
  refine u_top (show (nI (6 * i)) + (nI j) = nI ((6 * i) + j) from nI_add (6 * i) j) ?_
  refine u_iald C hW (by decide) cM_1 0 rfl ((6 * i) + j) rfl (by omega) (by decide) dX5_d_10 ?_
  exact u_iret C hr hW dX5_d_11 rfl rfl
set_option maxHeartbeats 4000000 in
set_option maxRecDepth 100000 in
theorem c_X5_set (l : Launch) (D : va_G) (cyI cO cyZ : ClassId) (ad : Nat → Nat) (fa : Nat) (n : Nat) (t md jd jn wm od : Nat → Int32) (bs : Int32) (ab be hh : Int64) (x y v : Int32) (hn : n ≤ 6) (h2 : 2 ≤ n) : Ct l yX5_set (Cond.code yX5_set cX5_set 5 (some .int) :: wsL_law) ({ frames := 2, cells := 0, slots := 0, locals := 43 } : Room) D (ty3 cyI cO cyZ) 7 ad fa [.ref (ad 0), .int x, .int y, .int v] (cM cyI cyZ ad n t md jd jn wm od bs ab be hh) (cM cyI cyZ ad n (msT n t x y v) md jd jn wm od bs ab be hh) (some (.int (msR n t x y v))) := by
  refine Ct.of (by decide) (Nat.le_of_ble_eq_true rfl) ?_
  intro p e s m args below meth c A C hr H locs hW ls hl
  have C : Cx p s m args meth c cX5_set 5 RX5 D (ty3 cyI cO cyZ) fa A := C
  have hx := C.1
  have hb := C.2.1
  have hl : lv_has ls 5 [(0, .ref (ad 0)), (1, .int x), (2, .int y), (3, .int v)] := hl
  refine lv_aload_n hx hb dX5_set_0 rfl (lv_at hl 0 rfl) ?_
  refine lv_iload_n hx hb dX5_set_1 rfl (lv_at hl 1 rfl) ?_
  refine u_callV (cf' := cM cyI cyZ ad n t md jd jn wm od bs ab be hh) (As := [.int x]) (rest := []) (st1 := [.int (knM n x)]) C hW (c_X5_isPoint l D cyI cO cyZ ad fa n t md jd jn wm od bs ab be hh x (by omega) (by omega)) mv_yX5_isPoint mw_114 rfl ⟨rfl, rfl, Nat.le_of_ble_eq_true rfl, Nat.le_of_ble_eq_true rfl⟩ (by decide) cM_0 rfl rfl hl (Nat.le_of_ble_eq_true rfl) rfl rfl dX5_set_2 (fun H locs hW => ?_)
  refine lv_if_eq (tgt := 21) hx hb dX5_set_5 (by decide) (fun c5_1 => ?_) (fun c5_1 => ?_)
  · skip
    refine lv_bipush (v := -101) hx hb dX5_set_21 (by decide) ?_
    exact u_iret C hr hW dX5_set_23 (by simp only [msR, if_pos c5_1]) (by simp only [msT, if_pos c5_1])
  · skip
    refine lv_aload_n hx hb dX5_set_8 rfl (lv_at hl 0 rfl) ?_
    refine lv_iload_n hx hb dX5_set_9 rfl (lv_at hl 2 rfl) ?_
    refine u_callV (cf' := cM cyI cyZ ad n t md jd jn wm od bs ab be hh) (As := [.int y]) (rest := []) (st1 := [.int (knM n y)]) C hW (c_X5_isPoint l D cyI cO cyZ ad fa n t md jd jn wm od bs ab be hh y (by omega) (by omega)) mv_yX5_isPoint mw_114 rfl ⟨rfl, rfl, Nat.le_of_ble_eq_true rfl, Nat.le_of_ble_eq_true rfl⟩ (by decide) cM_0 rfl rfl hl (Nat.le_of_ble_eq_true rfl) rfl rfl dX5_set_10 (fun H locs hW => ?_)
    refine lv_if_eq (tgt := 21) hx hb dX5_set_13 (by decide) (fun c13_2 => ?_) (fun c13_2 => ?_)
    · skip
      refine lv_bipush (v := -101) hx hb dX5_set_21 (by decide) ?_
      exact u_iret C hr hW dX5_set_23 (by simp only [msR, if_neg c5_1, if_pos c13_2]) (by simp only [msT, if_neg c5_1, if_pos c13_2])
    · skip
      refine lv_iload_n hx hb dX5_set_16 rfl (lv_at hl 1 rfl) ?_
      refine lv_iload_n hx hb dX5_set_17 rfl (lv_at hl 2 rfl) ?_
      refine lv_icmp_ne (tgt := 24) hx hb dX5_set_18 (by decide) (fun c18_3 => ?_) (fun c18_3 => ?_)
      · skip
        refine lv_iload_n hx hb dX5_set_24 rfl (lv_at hl 3 rfl) ?_
        refine lv_iconst (v := 1) hx hb dX5_set_25 (by decide) ?_
        refine lv_sipush (v := 1000) hx hb dX5_set_26 (by decide) ?_
        refine u_callS (cf' := cM cyI cyZ ad n t md jd jn wm od bs ab be hh) (As := [.int v, .int 1, .int 1000]) (rest := []) (st1 := [.int (mnV v 1 1000)]) C hW (c_X5_in l D cyI cO cyZ ad fa n t md jd jn wm od bs ab be hh v 1 1000 ) ms_yX5_in mw_91 rfl ⟨rfl, rfl, Nat.le_of_ble_eq_true rfl, Nat.le_of_ble_eq_true rfl⟩ hl (Nat.le_of_ble_eq_true rfl) rfl rfl dX5_set_29 (fun H locs hW => ?_)
        refine lv_if_ne (tgt := 38) hx hb dX5_set_32 (by decide) (fun c32_4 => ?_) (fun c32_4 => ?_)
        · skip
          have hk1 := (knM_tn hn h2 c5_1).2
          have hk2 := (knM_tn hn h2 c13_2).2
          refine lv_aload_n hx hb dX5_set_38 rfl (lv_at hl 0 rfl) ?_
          refine u_get C hW inlX5 (by decide) cM_0 rfl 1 (by decide) mw_72 rfl dX5_set_39 ?_
          refine lv_bipush (v := 6) hx hb dX5_set_42 (by decide) ?_
          refine lv_iload_n hx hb dX5_set_44 rfl (lv_at hl 1 rfl) ?_
          refine u_top (show x = nI (tn x) from (knM_tn hn h2 c5_1).1) ?_
          refine lv_imul hx hb dX5_set_45 ?_
          refine u_top (show 6 * (nI (tn x)) = nI (6 * (tn x)) from pk_mul 6 (tn x)) ?_
          refine lv_iload_n hx hb dX5_set_46 rfl (lv_at hl 2 rfl) ?_
          refine u_top (show y = nI (tn y) from (knM_tn hn h2 c13_2).1) ?_
          refine lv_iadd hx hb dX5_set_47 ?_
          refine u_top (show (nI (6 * (tn x))) + (nI (tn y)) = nI ((6 * (tn x)) + (tn y)) from nI_add (6 * (tn x)) (tn y)) ?_
          refine u_iald C hW (by decide) cM_1 0 rfl ((6 * (tn x)) + (tn y)) rfl (by omega) (by decide) dX5_set_48 ?_
          refine lv_istore (lv' := [(4, .int (t ((6 * (tn x)) + (tn y)))), (0, .ref (ad 0)), (1, .int x), (2, .int y), (3, .int v)]) hx hb dX5_set_49 hl (by decide) rfl (fun ls hl => ?_)
          refine lv_aload_n hx hb dX5_set_51 rfl (lv_at hl 1 rfl) ?_
          refine u_get C hW inlX5 (by decide) cM_0 rfl 1 (by decide) mw_72 rfl dX5_set_52 ?_
          refine lv_bipush (v := 6) hx hb dX5_set_55 (by decide) ?_
          refine lv_iload_n hx hb dX5_set_57 rfl (lv_at hl 2 rfl) ?_
          refine u_top (show x = nI (tn x) from (knM_tn hn h2 c5_1).1) ?_
          refine lv_imul hx hb dX5_set_58 ?_
          refine u_top (show 6 * (nI (tn x)) = nI (6 * (tn x)) from pk_mul 6 (tn x)) ?_
          refine lv_iload_n hx hb dX5_set_59 rfl (lv_at hl 3 rfl) ?_
          refine u_top (show y = nI (tn y) from (knM_tn hn h2 c13_2).1) ?_
          refine lv_iadd hx hb dX5_set_60 ?_
          refine u_top (show (nI (6 * (tn x))) + (nI (tn y)) = nI ((6 * (tn x)) + (tn y)) from nI_add (6 * (tn x)) (tn y)) ?_
          refine lv_iload_n hx hb dX5_set_61 rfl (lv_at hl 4 rfl) ?_
          refine u_iast (cf' := cM cyI cyZ ad n (upd t ((6 * (tn x)) + (tn y)) v) md jd jn wm od bs ab be hh) C hW (by decide) cM_1 0 rfl ((6 * (tn x)) + (tn y)) rfl (by omega) (by decide) cM_s1 dX5_set_62 (fun H locs hW => ?_)
          refine lv_aload_n hx hb dX5_set_63 rfl (lv_at hl 1 rfl) ?_
          refine u_get C hW inlX5 (by decide) cM_0 rfl 1 (by decide) mw_72 rfl dX5_set_64 ?_
          refine lv_bipush (v := 6) hx hb dX5_set_67 (by decide) ?_
          refine lv_iload_n hx hb dX5_set_69 rfl (lv_at hl 3 rfl) ?_
          refine u_top (show y = nI (tn y) from (knM_tn hn h2 c13_2).1) ?_
          refine lv_imul hx hb dX5_set_70 ?_
          refine u_top (show 6 * (nI (tn y)) = nI (6 * (tn y)) from pk_mul 6 (tn y)) ?_
          refine lv_iload_n hx hb dX5_set_71 rfl (lv_at hl 2 rfl) ?_
          refine u_top (show x = nI (tn x) from (knM_tn hn h2 c5_1).1) ?_
          refine lv_iadd hx hb dX5_set_72 ?_
          refine u_top (show (nI (6 * (tn y))) + (nI (tn x)) = nI ((6 * (tn y)) + (tn x)) from nI_add (6 * (tn y)) (tn x)) ?_
          refine lv_iload_n hx hb dX5_set_73 rfl (lv_at hl 4 rfl) ?_
          refine u_iast (cf' := cM cyI cyZ ad n (upd (upd t ((6 * (tn x)) + (tn y)) v) ((6 * (tn y)) + (tn x)) v) md jd jn wm od bs ab be hh) C hW (by decide) cM_1 0 rfl ((6 * (tn y)) + (tn x)) rfl (by omega) (by decide) cM_s1 dX5_set_74 (fun H locs hW => ?_)
          refine lv_iload hx hb dX5_set_75 (lv_at hl 0 rfl) ?_
          exact u_iret C hr hW dX5_set_77 (by simp only [msR, if_neg c5_1, if_neg c13_2, if_neg c18_3, if_neg c32_4]) (by simp only [msT, if_neg c5_1, if_neg c13_2, if_neg c18_3, if_neg c32_4])
        · skip
          refine lv_bipush (v := -102) hx hb dX5_set_35 (by decide) ?_
          exact u_iret C hr hW dX5_set_37 (by simp only [msR, if_neg c5_1, if_neg c13_2, if_neg c18_3, if_pos c32_4]) (by simp only [msT, if_neg c5_1, if_neg c13_2, if_neg c18_3, if_pos c32_4])
      · skip
        refine lv_bipush (v := -101) hx hb dX5_set_21 (by decide) ?_
        exact u_iret C hr hW dX5_set_23 (by simp only [msR, if_neg c5_1, if_neg c13_2, if_pos c18_3]) (by simp only [msT, if_neg c5_1, if_neg c13_2, if_pos c18_3])
set_option maxHeartbeats 4000000 in
set_option maxRecDepth 100000 in
theorem c_X5_get (l : Launch) (D : va_G) (cyI cO cyZ : ClassId) (ad : Nat → Nat) (fa : Nat) (n : Nat) (t md jd jn wm od : Nat → Int32) (bs : Int32) (ab be hh : Int64) (x y : Int32) (hn : n ≤ 6) (h2 : 2 ≤ n) : Ct l yX5_get (Cond.code yX5_get cX5_get 3 (some .int) :: wsL_law) ({ frames := 2, cells := 0, slots := 0, locals := 43 } : Room) D (ty3 cyI cO cyZ) 7 ad fa [.ref (ad 0), .int x, .int y] (cM cyI cyZ ad n t md jd jn wm od bs ab be hh) (cM cyI cyZ ad n t md jd jn wm od bs ab be hh) (some (.int (mgR n t x y))) := by
  refine Ct.of (by decide) (Nat.le_of_ble_eq_true rfl) ?_
  intro p e s m args below meth c A C hr H locs hW ls hl
  have C : Cx p s m args meth c cX5_get 3 RX5 D (ty3 cyI cO cyZ) fa A := C
  have hx := C.1
  have hb := C.2.1
  have hl : lv_has ls 3 [(0, .ref (ad 0)), (1, .int x), (2, .int y)] := hl
  refine lv_aload_n hx hb dX5_get_0 rfl (lv_at hl 0 rfl) ?_
  refine lv_iload_n hx hb dX5_get_1 rfl (lv_at hl 1 rfl) ?_
  refine u_callV (cf' := cM cyI cyZ ad n t md jd jn wm od bs ab be hh) (As := [.int x]) (rest := []) (st1 := [.int (knM n x)]) C hW (c_X5_isPoint l D cyI cO cyZ ad fa n t md jd jn wm od bs ab be hh x (by omega) (by omega)) mv_yX5_isPoint mw_114 rfl ⟨rfl, rfl, Nat.le_of_ble_eq_true rfl, Nat.le_of_ble_eq_true rfl⟩ (by decide) cM_0 rfl rfl hl (Nat.le_of_ble_eq_true rfl) rfl rfl dX5_get_2 (fun H locs hW => ?_)
  refine lv_if_eq (tgt := 25) hx hb dX5_get_5 (by decide) (fun c5_1 => ?_) (fun c5_1 => ?_)
  · skip
    refine lv_bipush (v := -101) hx hb dX5_get_25 (by decide) ?_
    exact u_iret C hr hW dX5_get_27 (by simp only [mgR, if_pos c5_1]) rfl
  · skip
    refine lv_aload_n hx hb dX5_get_8 rfl (lv_at hl 0 rfl) ?_
    refine lv_iload_n hx hb dX5_get_9 rfl (lv_at hl 2 rfl) ?_
    refine u_callV (cf' := cM cyI cyZ ad n t md jd jn wm od bs ab be hh) (As := [.int y]) (rest := []) (st1 := [.int (knM n y)]) C hW (c_X5_isPoint l D cyI cO cyZ ad fa n t md jd jn wm od bs ab be hh y (by omega) (by omega)) mv_yX5_isPoint mw_114 rfl ⟨rfl, rfl, Nat.le_of_ble_eq_true rfl, Nat.le_of_ble_eq_true rfl⟩ (by decide) cM_0 rfl rfl hl (Nat.le_of_ble_eq_true rfl) rfl rfl dX5_get_10 (fun H locs hW => ?_)
    refine lv_if_eq (tgt := 25) hx hb dX5_get_13 (by decide) (fun c13_2 => ?_) (fun c13_2 => ?_)
    · skip
      refine lv_bipush (v := -101) hx hb dX5_get_25 (by decide) ?_
      exact u_iret C hr hW dX5_get_27 (by simp only [mgR, if_neg c5_1, if_pos c13_2]) rfl
    · skip
      have hk1 := (knM_tn hn h2 c5_1).2
      have hk2 := (knM_tn hn h2 c13_2).2
      refine lv_aload_n hx hb dX5_get_16 rfl (lv_at hl 0 rfl) ?_
      refine lv_iload_n hx hb dX5_get_17 rfl (lv_at hl 1 rfl) ?_
      refine u_top (show x = nI (tn x) from (knM_tn hn h2 c5_1).1) ?_
      refine lv_iload_n hx hb dX5_get_18 rfl (lv_at hl 2 rfl) ?_
      refine u_top (show y = nI (tn y) from (knM_tn hn h2 c13_2).1) ?_
      refine u_callV (cf' := cM cyI cyZ ad n t md jd jn wm od bs ab be hh) (As := [.int (nI (tn x)), .int (nI (tn y))]) (rest := []) (st1 := [.int (t (6 * (tn x) + (tn y)))]) C hW (c_X5_d l D cyI cO cyZ ad fa n t md jd jn wm od bs ab be hh (tn x) (tn y) (by omega) (by omega)) mv_yX5_d mw_126 rfl ⟨rfl, rfl, Nat.le_of_ble_eq_true rfl, Nat.le_of_ble_eq_true rfl⟩ (by decide) cM_0 rfl rfl hl (Nat.le_of_ble_eq_true rfl) rfl rfl dX5_get_19 (fun H locs hW => ?_)
      refine lv_goto (tgt := 27) hx hb dX5_get_22 (by decide) ?_
      exact u_iret C hr hW dX5_get_27 (by simp only [mgR, if_neg c5_1, if_neg c13_2]) rfl
set_option maxHeartbeats 4000000 in
set_option maxRecDepth 100000 in
theorem c_X5_areFour (l : Launch) (D : va_G) (cyI cO cyZ : ClassId) (ad : Nat → Nat) (fa : Nat) (n : Nat) (t md jd jn wm od : Nat → Int32) (bs : Int32) (ab be hh : Int64) (i j k q : Nat) (hi : i < 6) (hj : j < 6) (hk : k < 6) (hq : q < 6) : Ct l yX5_areFour (Cond.code yX5_areFour cX5_areFour 9 (some .boolean) :: wsL_law) ({ frames := 1, cells := 0, slots := 0, locals := 22 } : Room) D (ty3 cyI cO cyZ) 7 ad fa [.ref (ad 0), .int (nI i), .int (nI j), .int (nI k), .int (nI q)] (cM cyI cyZ ad n t md jd jn wm od bs ab be hh) (cM cyI cyZ ad n t md jd jn wm od bs ab be hh) (some (.int (afV t i j k q))) := by
  refine Ct.of (by decide) (Nat.le_of_ble_eq_true rfl) ?_
  intro p e s m args below meth c A C hr H locs hW ls hl
  have C : Cx p s m args meth c cX5_areFour 9 RX5 D (ty3 cyI cO cyZ) fa A := C
  have hx := C.1
  have hb := C.2.1
  have hl : lv_has ls 9 [(0, .ref (ad 0)), (1, .int (nI i)), (2, .int (nI j)), (3, .int (nI k)), (4, .int (nI q))] := hl
  refine lv_aload_n hx hb dX5_areFour_0 rfl (lv_at hl 0 rfl) ?_
  refine lv_iload_n hx hb dX5_areFour_1 rfl (lv_at hl 1 rfl) ?_
  refine lv_iload_n hx hb dX5_areFour_2 rfl (lv_at hl 2 rfl) ?_
  refine u_callV (cf' := cM cyI cyZ ad n t md jd jn wm od bs ab be hh) (As := [.int (nI i), .int (nI j)]) (rest := []) (st1 := [.int (t (6 * i + j))]) C hW (c_X5_d l D cyI cO cyZ ad fa n t md jd jn wm od bs ab be hh i j (by omega) (by omega)) mv_yX5_d mw_126 rfl ⟨rfl, rfl, Nat.le_of_ble_eq_true rfl, Nat.le_of_ble_eq_true rfl⟩ (by decide) cM_0 rfl rfl hl (Nat.le_of_ble_eq_true rfl) rfl rfl dX5_areFour_3 (fun H locs hW => ?_)
  refine lv_aload_n hx hb dX5_areFour_6 rfl (lv_at hl 0 rfl) ?_
  refine lv_iload_n hx hb dX5_areFour_7 rfl (lv_at hl 3 rfl) ?_
  refine lv_iload hx hb dX5_areFour_8 (lv_at hl 4 rfl) ?_
  refine u_callV (cf' := cM cyI cyZ ad n t md jd jn wm od bs ab be hh) (As := [.int (nI k), .int (nI q)]) (rest := [.int (t (6 * i + j))]) (st1 := [.int (t (6 * k + q)), .int (t (6 * i + j))]) C hW (c_X5_d l D cyI cO cyZ ad fa n t md jd jn wm od bs ab be hh k q (by omega) (by omega)) mv_yX5_d mw_126 rfl ⟨rfl, rfl, Nat.le_of_ble_eq_true rfl, Nat.le_of_ble_eq_true rfl⟩ (by decide) cM_0 rfl rfl hl (Nat.le_of_ble_eq_true rfl) rfl rfl dX5_areFour_10 (fun H locs hW => ?_)
  refine lv_iadd hx hb dX5_areFour_13 ?_
  refine lv_istore (lv' := [(5, .int ((t (6 * i + j)) + (t (6 * k + q)))), (0, .ref (ad 0)), (1, .int (nI i)), (2, .int (nI j)), (3, .int (nI k)), (4, .int (nI q))]) hx hb dX5_areFour_14 hl (by decide) rfl (fun ls hl => ?_)
  refine lv_aload_n hx hb dX5_areFour_16 rfl (lv_at hl 1 rfl) ?_
  refine lv_iload_n hx hb dX5_areFour_17 rfl (lv_at hl 2 rfl) ?_
  refine lv_iload_n hx hb dX5_areFour_18 rfl (lv_at hl 4 rfl) ?_
  refine u_callV (cf' := cM cyI cyZ ad n t md jd jn wm od bs ab be hh) (As := [.int (nI i), .int (nI k)]) (rest := []) (st1 := [.int (t (6 * i + k))]) C hW (c_X5_d l D cyI cO cyZ ad fa n t md jd jn wm od bs ab be hh i k (by omega) (by omega)) mv_yX5_d mw_126 rfl ⟨rfl, rfl, Nat.le_of_ble_eq_true rfl, Nat.le_of_ble_eq_true rfl⟩ (by decide) cM_0 rfl rfl hl (Nat.le_of_ble_eq_true rfl) rfl rfl dX5_areFour_19 (fun H locs hW => ?_)
  refine lv_aload_n hx hb dX5_areFour_22 rfl (lv_at hl 1 rfl) ?_
  refine lv_iload_n hx hb dX5_areFour_23 rfl (lv_at hl 3 rfl) ?_
  refine lv_iload hx hb dX5_areFour_24 (lv_at hl 5 rfl) ?_
  refine u_callV (cf' := cM cyI cyZ ad n t md jd jn wm od bs ab be hh) (As := [.int (nI j), .int (nI q)]) (rest := [.int (t (6 * i + k))]) (st1 := [.int (t (6 * j + q)), .int (t (6 * i + k))]) C hW (c_X5_d l D cyI cO cyZ ad fa n t md jd jn wm od bs ab be hh j q (by omega) (by omega)) mv_yX5_d mw_126 rfl ⟨rfl, rfl, Nat.le_of_ble_eq_true rfl, Nat.le_of_ble_eq_true rfl⟩ (by decide) cM_0 rfl rfl hl (Nat.le_of_ble_eq_true rfl) rfl rfl dX5_areFour_26 (fun H locs hW => ?_)
  refine lv_iadd hx hb dX5_areFour_29 ?_
  refine lv_istore (lv' := [(6, .int ((t (6 * i + k)) + (t (6 * j + q)))), (5, .int ((t (6 * i + j)) + (t (6 * k + q)))), (0, .ref (ad 0)), (1, .int (nI i)), (2, .int (nI j)), (3, .int (nI k)), (4, .int (nI q))]) hx hb dX5_areFour_30 hl (by decide) rfl (fun ls hl => ?_)
  refine lv_aload_n hx hb dX5_areFour_32 rfl (lv_at hl 2 rfl) ?_
  refine lv_iload_n hx hb dX5_areFour_33 rfl (lv_at hl 3 rfl) ?_
  refine lv_iload hx hb dX5_areFour_34 (lv_at hl 6 rfl) ?_
  refine u_callV (cf' := cM cyI cyZ ad n t md jd jn wm od bs ab be hh) (As := [.int (nI i), .int (nI q)]) (rest := []) (st1 := [.int (t (6 * i + q))]) C hW (c_X5_d l D cyI cO cyZ ad fa n t md jd jn wm od bs ab be hh i q (by omega) (by omega)) mv_yX5_d mw_126 rfl ⟨rfl, rfl, Nat.le_of_ble_eq_true rfl, Nat.le_of_ble_eq_true rfl⟩ (by decide) cM_0 rfl rfl hl (Nat.le_of_ble_eq_true rfl) rfl rfl dX5_areFour_36 (fun H locs hW => ?_)
  refine lv_aload_n hx hb dX5_areFour_39 rfl (lv_at hl 2 rfl) ?_
  refine lv_iload_n hx hb dX5_areFour_40 rfl (lv_at hl 4 rfl) ?_
  refine lv_iload_n hx hb dX5_areFour_41 rfl (lv_at hl 5 rfl) ?_
  refine u_callV (cf' := cM cyI cyZ ad n t md jd jn wm od bs ab be hh) (As := [.int (nI j), .int (nI k)]) (rest := [.int (t (6 * i + q))]) (st1 := [.int (t (6 * j + k)), .int (t (6 * i + q))]) C hW (c_X5_d l D cyI cO cyZ ad fa n t md jd jn wm od bs ab be hh j k (by omega) (by omega)) mv_yX5_d mw_126 rfl ⟨rfl, rfl, Nat.le_of_ble_eq_true rfl, Nat.le_of_ble_eq_true rfl⟩ (by decide) cM_0 rfl rfl hl (Nat.le_of_ble_eq_true rfl) rfl rfl dX5_areFour_42 (fun H locs hW => ?_)
  refine lv_iadd hx hb dX5_areFour_45 ?_
  refine lv_istore (lv' := [(7, .int ((t (6 * i + q)) + (t (6 * j + k)))), (6, .int ((t (6 * i + k)) + (t (6 * j + q)))), (5, .int ((t (6 * i + j)) + (t (6 * k + q)))), (0, .ref (ad 0)), (1, .int (nI i)), (2, .int (nI j)), (3, .int (nI k)), (4, .int (nI q))]) hx hb dX5_areFour_46 hl (by decide) rfl (fun ls hl => ?_)
  refine lv_iload hx hb dX5_areFour_48 (lv_at hl 2 rfl) ?_
  refine lv_iload hx hb dX5_areFour_50 (lv_at hl 1 rfl) ?_
  refine lv_iload hx hb dX5_areFour_52 (lv_at hl 0 rfl) ?_
  refine u_callS (cf' := cM cyI cyZ ad n t md jd jn wm od bs ab be hh) (As := [.int ((t (6 * i + k)) + (t (6 * j + q))), .int ((t (6 * i + q)) + (t (6 * j + k)))]) (rest := [.int ((t (6 * i + j)) + (t (6 * k + q)))]) (st1 := [.int (grt ((t (6 * i + k)) + (t (6 * j + q))) ((t (6 * i + q)) + (t (6 * j + k)))), .int ((t (6 * i + j)) + (t (6 * k + q)))]) C hW (c_X5_greater l D cyI cO cyZ ad fa n t md jd jn wm od bs ab be hh ((t (6 * i + k)) + (t (6 * j + q))) ((t (6 * i + q)) + (t (6 * j + k))) ) ms_yX5_greater mw_175 rfl ⟨rfl, rfl, Nat.le_of_ble_eq_true rfl, Nat.le_of_ble_eq_true rfl⟩ hl (Nat.le_of_ble_eq_true rfl) rfl rfl dX5_areFour_54 (fun H locs hW => ?_)
  refine u_callS (cf' := cM cyI cyZ ad n t md jd jn wm od bs ab be hh) (As := [.int ((t (6 * i + j)) + (t (6 * k + q))), .int (grt ((t (6 * i + k)) + (t (6 * j + q))) ((t (6 * i + q)) + (t (6 * j + k))))]) (rest := []) (st1 := [.int (grt ((t (6 * i + j)) + (t (6 * k + q))) (grt ((t (6 * i + k)) + (t (6 * j + q))) ((t (6 * i + q)) + (t (6 * j + k)))))]) C hW (c_X5_greater l D cyI cO cyZ ad fa n t md jd jn wm od bs ab be hh ((t (6 * i + j)) + (t (6 * k + q))) (grt ((t (6 * i + k)) + (t (6 * j + q))) ((t (6 * i + q)) + (t (6 * j + k)))) ) ms_yX5_greater mw_175 rfl ⟨rfl, rfl, Nat.le_of_ble_eq_true rfl, Nat.le_of_ble_eq_true rfl⟩ hl (Nat.le_of_ble_eq_true rfl) rfl rfl dX5_areFour_57 (fun H locs hW => ?_)
  refine lv_istore (lv' := [(8, .int (grt ((t (6 * i + j)) + (t (6 * k + q))) (grt ((t (6 * i + k)) + (t (6 * j + q))) ((t (6 * i + q)) + (t (6 * j + k)))))), (7, .int ((t (6 * i + q)) + (t (6 * j + k)))), (6, .int ((t (6 * i + k)) + (t (6 * j + q)))), (5, .int ((t (6 * i + j)) + (t (6 * k + q)))), (0, .ref (ad 0)), (1, .int (nI i)), (2, .int (nI j)), (3, .int (nI k)), (4, .int (nI q))]) hx hb dX5_areFour_60 hl (by decide) rfl (fun ls hl => ?_)
  refine lv_iload hx hb dX5_areFour_62 (lv_at hl 3 rfl) ?_
  refine lv_iload hx hb dX5_areFour_64 (lv_at hl 0 rfl) ?_
  refine lv_icmp_ne (tgt := 73) hx hb dX5_areFour_66 (by decide) (fun c66_1 => ?_) (fun c66_1 => ?_)
  · skip
    refine lv_iconst (v := 0) hx hb dX5_areFour_73 (by decide) ?_
    refine lv_iload hx hb dX5_areFour_74 (lv_at hl 2 rfl) ?_
    refine lv_iload hx hb dX5_areFour_76 (lv_at hl 0 rfl) ?_
    refine lv_icmp_ne (tgt := 85) hx hb dX5_areFour_78 (by decide) (fun c78_2 => ?_) (fun c78_2 => ?_)
    · skip
      refine lv_iconst (v := 0) hx hb dX5_areFour_85 (by decide) ?_
      refine lv_iadd hx hb dX5_areFour_86 ?_
      refine lv_iload hx hb dX5_areFour_87 (lv_at hl 1 rfl) ?_
      refine lv_iload hx hb dX5_areFour_89 (lv_at hl 0 rfl) ?_
      refine lv_icmp_ne (tgt := 98) hx hb dX5_areFour_91 (by decide) (fun c91_3 => ?_) (fun c91_3 => ?_)
      · skip
        refine lv_iconst (v := 0) hx hb dX5_areFour_98 (by decide) ?_
        refine lv_iadd hx hb dX5_areFour_99 ?_
        refine lv_iconst (v := 1) hx hb dX5_areFour_100 (by decide) ?_
        refine lv_icmp_le (tgt := 108) hx hb dX5_areFour_101 (by decide) (fun _ => ?_) (fun c9 => absurd (by decide) c9)
        refine lv_iconst (v := 0) hx hb dX5_areFour_108 (by decide) ?_
        exact u_zret C hr hW dX5_areFour_109 (by first | exact Or.inl rfl | exact Or.inr rfl) (by simp only [afV, if_neg c66_1, if_neg c78_2, if_neg c91_3]; rfl) rfl
      · skip
        refine lv_iconst (v := 1) hx hb dX5_areFour_94 (by decide) ?_
        refine lv_goto (tgt := 99) hx hb dX5_areFour_95 (by decide) ?_
        refine lv_iadd hx hb dX5_areFour_99 ?_
        refine lv_iconst (v := 1) hx hb dX5_areFour_100 (by decide) ?_
        refine lv_icmp_le (tgt := 108) hx hb dX5_areFour_101 (by decide) (fun _ => ?_) (fun c9 => absurd (by decide) c9)
        refine lv_iconst (v := 0) hx hb dX5_areFour_108 (by decide) ?_
        exact u_zret C hr hW dX5_areFour_109 (by first | exact Or.inl rfl | exact Or.inr rfl) (by simp only [afV, if_neg c66_1, if_neg c78_2, if_pos c91_3]; rfl) rfl
    · skip
      refine lv_iconst (v := 1) hx hb dX5_areFour_81 (by decide) ?_
      refine lv_goto (tgt := 86) hx hb dX5_areFour_82 (by decide) ?_
      refine lv_iadd hx hb dX5_areFour_86 ?_
      refine lv_iload hx hb dX5_areFour_87 (lv_at hl 1 rfl) ?_
      refine lv_iload hx hb dX5_areFour_89 (lv_at hl 0 rfl) ?_
      refine lv_icmp_ne (tgt := 98) hx hb dX5_areFour_91 (by decide) (fun c91_4 => ?_) (fun c91_4 => ?_)
      · skip
        refine lv_iconst (v := 0) hx hb dX5_areFour_98 (by decide) ?_
        refine lv_iadd hx hb dX5_areFour_99 ?_
        refine lv_iconst (v := 1) hx hb dX5_areFour_100 (by decide) ?_
        refine lv_icmp_le (tgt := 108) hx hb dX5_areFour_101 (by decide) (fun _ => ?_) (fun c9 => absurd (by decide) c9)
        refine lv_iconst (v := 0) hx hb dX5_areFour_108 (by decide) ?_
        exact u_zret C hr hW dX5_areFour_109 (by first | exact Or.inl rfl | exact Or.inr rfl) (by simp only [afV, if_neg c66_1, if_pos c78_2, if_neg c91_4]; rfl) rfl
      · skip
        refine lv_iconst (v := 1) hx hb dX5_areFour_94 (by decide) ?_
        refine lv_goto (tgt := 99) hx hb dX5_areFour_95 (by decide) ?_
        refine lv_iadd hx hb dX5_areFour_99 ?_
        refine lv_iconst (v := 1) hx hb dX5_areFour_100 (by decide) ?_
        refine lv_icmp_le (tgt := 108) hx hb dX5_areFour_101 (by decide) (fun c9 => absurd c9 (by decide)) (fun _ => ?_)
        refine lv_iconst (v := 1) hx hb dX5_areFour_104 (by decide) ?_
        refine lv_goto (tgt := 109) hx hb dX5_areFour_105 (by decide) ?_
        exact u_zret C hr hW dX5_areFour_109 (by first | exact Or.inl rfl | exact Or.inr rfl) (by simp only [afV, if_neg c66_1, if_pos c78_2, if_pos c91_4]; rfl) rfl
  · skip
    refine lv_iconst (v := 1) hx hb dX5_areFour_69 (by decide) ?_
    refine lv_goto (tgt := 74) hx hb dX5_areFour_70 (by decide) ?_
    refine lv_iload hx hb dX5_areFour_74 (lv_at hl 2 rfl) ?_
    refine lv_iload hx hb dX5_areFour_76 (lv_at hl 0 rfl) ?_
    refine lv_icmp_ne (tgt := 85) hx hb dX5_areFour_78 (by decide) (fun c78_5 => ?_) (fun c78_5 => ?_)
    · skip
      refine lv_iconst (v := 0) hx hb dX5_areFour_85 (by decide) ?_
      refine lv_iadd hx hb dX5_areFour_86 ?_
      refine lv_iload hx hb dX5_areFour_87 (lv_at hl 1 rfl) ?_
      refine lv_iload hx hb dX5_areFour_89 (lv_at hl 0 rfl) ?_
      refine lv_icmp_ne (tgt := 98) hx hb dX5_areFour_91 (by decide) (fun c91_6 => ?_) (fun c91_6 => ?_)
      · skip
        refine lv_iconst (v := 0) hx hb dX5_areFour_98 (by decide) ?_
        refine lv_iadd hx hb dX5_areFour_99 ?_
        refine lv_iconst (v := 1) hx hb dX5_areFour_100 (by decide) ?_
        refine lv_icmp_le (tgt := 108) hx hb dX5_areFour_101 (by decide) (fun _ => ?_) (fun c9 => absurd (by decide) c9)
        refine lv_iconst (v := 0) hx hb dX5_areFour_108 (by decide) ?_
        exact u_zret C hr hW dX5_areFour_109 (by first | exact Or.inl rfl | exact Or.inr rfl) (by simp only [afV, if_pos c66_1, if_neg c78_5, if_neg c91_6]; rfl) rfl
      · skip
        refine lv_iconst (v := 1) hx hb dX5_areFour_94 (by decide) ?_
        refine lv_goto (tgt := 99) hx hb dX5_areFour_95 (by decide) ?_
        refine lv_iadd hx hb dX5_areFour_99 ?_
        refine lv_iconst (v := 1) hx hb dX5_areFour_100 (by decide) ?_
        refine lv_icmp_le (tgt := 108) hx hb dX5_areFour_101 (by decide) (fun c9 => absurd c9 (by decide)) (fun _ => ?_)
        refine lv_iconst (v := 1) hx hb dX5_areFour_104 (by decide) ?_
        refine lv_goto (tgt := 109) hx hb dX5_areFour_105 (by decide) ?_
        exact u_zret C hr hW dX5_areFour_109 (by first | exact Or.inl rfl | exact Or.inr rfl) (by simp only [afV, if_pos c66_1, if_neg c78_5, if_pos c91_6]; rfl) rfl
    · skip
      refine lv_iconst (v := 1) hx hb dX5_areFour_81 (by decide) ?_
      refine lv_goto (tgt := 86) hx hb dX5_areFour_82 (by decide) ?_
      refine lv_iadd hx hb dX5_areFour_86 ?_
      refine lv_iload hx hb dX5_areFour_87 (lv_at hl 1 rfl) ?_
      refine lv_iload hx hb dX5_areFour_89 (lv_at hl 0 rfl) ?_
      refine lv_icmp_ne (tgt := 98) hx hb dX5_areFour_91 (by decide) (fun c91_7 => ?_) (fun c91_7 => ?_)
      · skip
        refine lv_iconst (v := 0) hx hb dX5_areFour_98 (by decide) ?_
        refine lv_iadd hx hb dX5_areFour_99 ?_
        refine lv_iconst (v := 1) hx hb dX5_areFour_100 (by decide) ?_
        refine lv_icmp_le (tgt := 108) hx hb dX5_areFour_101 (by decide) (fun c9 => absurd c9 (by decide)) (fun _ => ?_)
        refine lv_iconst (v := 1) hx hb dX5_areFour_104 (by decide) ?_
        refine lv_goto (tgt := 109) hx hb dX5_areFour_105 (by decide) ?_
        exact u_zret C hr hW dX5_areFour_109 (by first | exact Or.inl rfl | exact Or.inr rfl) (by simp only [afV, if_pos c66_1, if_pos c78_5, if_neg c91_7]; rfl) rfl
      · skip
        refine lv_iconst (v := 1) hx hb dX5_areFour_94 (by decide) ?_
        refine lv_goto (tgt := 99) hx hb dX5_areFour_95 (by decide) ?_
        refine lv_iadd hx hb dX5_areFour_99 ?_
        refine lv_iconst (v := 1) hx hb dX5_areFour_100 (by decide) ?_
        refine lv_icmp_le (tgt := 108) hx hb dX5_areFour_101 (by decide) (fun c9 => absurd c9 (by decide)) (fun _ => ?_)
        refine lv_iconst (v := 1) hx hb dX5_areFour_104 (by decide) ?_
        refine lv_goto (tgt := 109) hx hb dX5_areFour_105 (by decide) ?_
        exact u_zret C hr hW dX5_areFour_109 (by first | exact Or.inl rfl | exact Or.inr rfl) (by simp only [afV, if_pos c66_1, if_pos c78_5, if_pos c91_7]; rfl) rfl
set_option maxHeartbeats 4000000 in
set_option maxRecDepth 100000 in
theorem c_X5_brokenOf (l : Launch) (D : va_G) (cyI cO cyZ : ClassId) (ad : Nat → Nat) (fa : Nat) (n : Nat) (t md jd jn wm od : Nat → Int32) (bs : Int32) (ab be hh : Int64) (w : Int32) (hn : n ≤ 6) : Ct l yX5_brokenOf (Cond.code yX5_brokenOf cX5_brokenOf 7 (some .int) :: wsL_law) ({ frames := 2, cells := 0, slots := 0, locals := 50 } : Room) D (ty3 cyI cO cyZ) 7 ad fa [.ref (ad 0), .int w] (cM cyI cyZ ad n t md jd jn wm od bs ab be hh) (cM cyI cyZ ad n t md jd jn wm od bs ab be hh) (some (.int (boV n t w))) := by
  refine Ct.of (by decide) (Nat.le_of_ble_eq_true rfl) ?_
  intro p e s m args below meth c A C hr H locs hW ls hl
  have C : Cx p s m args meth c cX5_brokenOf 7 RX5 D (ty3 cyI cO cyZ) fa A := C
  have hx := C.1
  have hb := C.2.1
  have hl : lv_has ls 7 [(0, .ref (ad 0)), (1, .int w)] := hl
  refine lv_iconst (v := 0) hx hb dX5_brokenOf_0 (by decide) ?_
  refine lv_istore_n (lv' := [(2, .int 0), (0, .ref (ad 0)), (1, .int w)]) hx hb dX5_brokenOf_1 rfl hl (by decide) rfl (fun ls hl => ?_)
  refine lv_iconst (v := 0) hx hb dX5_brokenOf_2 (by decide) ?_
  refine lv_istore_n (lv' := [(3, .int 0), (2, .int 0), (0, .ref (ad 0)), (1, .int w)]) hx hb dX5_brokenOf_3 rfl hl (by decide) rfl (fun ls hl => ?_)
  have L4 : ∀ (k4 : Nat) (i : Nat) (a : Int32), i + k4 = n → lp (boO n t w) i k4 a = boV n t w → ∀ (H : Heap) (locs : List Loc), Wd D 7 ad (cM cyI cyZ ad n t md jd jn wm od bs ab be hh) A s.heap H locs → ∀ ls : Array Slot, lv_has ls 7 [(3, .int (nI i)), (0, .ref (ad 0)), (1, .int w), (2, .int a)] → W p l e ({ frames := 2, cells := 0, slots := 0, locals := 50 } : Room) s m args below meth c H locs 0 0 (MQ below (uQ D 7 ad (cM cyI cyZ ad n t md jd jn wm od bs ab be hh) (some (.int (boV n t w))) A) args s 0 0 A) (F0 m 4 ls []) := by
    intro k4
    induction k4 with
    | zero =>
      intro i a hi r4 H locs hW ls hl
      refine lv_iload_n hx hb dX5_brokenOf_4 rfl (lv_at hl 0 rfl) ?_
      refine lv_aload_n hx hb dX5_brokenOf_5 rfl (lv_at hl 1 rfl) ?_
      refine u_get C hW inlX5 (by decide) cM_0 rfl 0 (by decide) mw_71 rfl dX5_brokenOf_6 ?_
      refine lv_icmp_ge (tgt := 206) hx hb dX5_brokenOf_9 (by decide) (fun _ => ?_) (fun c9 => absurd (nI_le (by omega) (by omega)) c9)
      refine lv_iload_n hx hb dX5_brokenOf_206 rfl (lv_at hl 3 rfl) ?_
      exact u_iret C hr hW dX5_brokenOf_207 r4 rfl
    | succ k4 ih4 =>
      intro i a hi r4 H locs hW ls hl
      refine lv_iload_n hx hb dX5_brokenOf_4 rfl (lv_at hl 0 rfl) ?_
      refine lv_aload_n hx hb dX5_brokenOf_5 rfl (lv_at hl 1 rfl) ?_
      refine u_get C hW inlX5 (by decide) cM_0 rfl 0 (by decide) mw_71 rfl dX5_brokenOf_6 ?_
      refine lv_icmp_ge (tgt := 206) hx hb dX5_brokenOf_9 (by decide) (fun c9 => absurd c9 (nI_ge (by omega) (by omega))) (fun _ => ?_)
      refine lv_iload_n hx hb dX5_brokenOf_12 rfl (lv_at hl 0 rfl) ?_
      refine lv_iconst (v := 1) hx hb dX5_brokenOf_13 (by decide) ?_
      refine lv_iadd hx hb dX5_brokenOf_14 ?_
      refine u_top (show (nI i) + 1 = nI (i + 1) from nI_add i 1) ?_
      refine lv_istore (lv' := [(4, .int (nI (i + 1))), (3, .int (nI i)), (0, .ref (ad 0)), (1, .int w), (2, .int a)]) hx hb dX5_brokenOf_15 hl (by decide) rfl (fun ls hl => ?_)
      have L17 : ∀ (k17 : Nat) (j : Nat) (a : Int32), j + k17 = n → lp (boO n t w) (i + 1) k4 (lp (boJ n t w i) j k17 a) = boV n t w → ∀ (H : Heap) (locs : List Loc), Wd D 7 ad (cM cyI cyZ ad n t md jd jn wm od bs ab be hh) A s.heap H locs → ∀ ls : Array Slot, lv_has ls 7 [(4, .int (nI j)), (0, .ref (ad 0)), (1, .int w), (2, .int a), (3, .int (nI i))] → W p l e ({ frames := 2, cells := 0, slots := 0, locals := 50 } : Room) s m args below meth c H locs 0 0 (MQ below (uQ D 7 ad (cM cyI cyZ ad n t md jd jn wm od bs ab be hh) (some (.int (boV n t w))) A) args s 0 0 A) (F0 m 17 ls []) := by
        intro k17
        induction k17 with
        | zero =>
          intro j a hj r17 H locs hW ls hl
          refine lv_iload hx hb dX5_brokenOf_17 (lv_at hl 0 rfl) ?_
          refine lv_aload_n hx hb dX5_brokenOf_19 rfl (lv_at hl 1 rfl) ?_
          refine u_get C hW inlX5 (by decide) cM_0 rfl 0 (by decide) mw_71 rfl dX5_brokenOf_20 ?_
          refine lv_icmp_ge (tgt := 200) hx hb dX5_brokenOf_23 (by decide) (fun _ => ?_) (fun c9 => absurd (nI_le (by omega) (by omega)) c9)
          refine lv_iinc (v := nI (i + 1)) (lv' := [(3, .int (nI (i + 1))), (4, .int (nI j)), (0, .ref (ad 0)), (1, .int w), (2, .int a)]) hx hb dX5_brokenOf_200 hl (k := 4) rfl (nI_1 _) (by decide) rfl (fun ls hl => ?_)
          refine lv_goto (tgt := 4) hx hb dX5_brokenOf_203 (by decide) ?_
          exact ih4  (i + 1) a (by omega) r17 H locs hW ls (lv_sub hl [0, 2, 3, 4] rfl)
        | succ k17 ih17 =>
          intro j a hj r17 H locs hW ls hl
          refine lv_iload hx hb dX5_brokenOf_17 (lv_at hl 0 rfl) ?_
          refine lv_aload_n hx hb dX5_brokenOf_19 rfl (lv_at hl 1 rfl) ?_
          refine u_get C hW inlX5 (by decide) cM_0 rfl 0 (by decide) mw_71 rfl dX5_brokenOf_20 ?_
          refine lv_icmp_ge (tgt := 200) hx hb dX5_brokenOf_23 (by decide) (fun c9 => absurd c9 (nI_ge (by omega) (by omega))) (fun _ => ?_)
          refine lv_iconst (v := 0) hx hb dX5_brokenOf_26 (by decide) ?_
          refine lv_istore (lv' := [(5, .int 0), (4, .int (nI j)), (0, .ref (ad 0)), (1, .int w), (2, .int a), (3, .int (nI i))]) hx hb dX5_brokenOf_27 hl (by decide) rfl (fun ls hl => ?_)
          have L29 : ∀ (k29 : Nat) (k : Nat) (a : Int32), k + k29 = n → lp (boO n t w) (i + 1) k4 (lp (boJ n t w i) (j + 1) k17 (bo4 n t w i j (j + 1) (n - (j + 1)) (bo1 t w i j k k29 a))) = boV n t w → ∀ (H : Heap) (locs : List Loc), Wd D 7 ad (cM cyI cyZ ad n t md jd jn wm od bs ab be hh) A s.heap H locs → ∀ ls : Array Slot, lv_has ls 7 [(5, .int (nI k)), (0, .ref (ad 0)), (1, .int w), (2, .int a), (3, .int (nI i)), (4, .int (nI j))] → W p l e ({ frames := 2, cells := 0, slots := 0, locals := 50 } : Room) s m args below meth c H locs 0 0 (MQ below (uQ D 7 ad (cM cyI cyZ ad n t md jd jn wm od bs ab be hh) (some (.int (boV n t w))) A) args s 0 0 A) (F0 m 29 ls []) := by
            intro k29
            induction k29 with
            | zero =>
              intro k a hk r29 H locs hW ls hl
              refine lv_iload hx hb dX5_brokenOf_29 (lv_at hl 0 rfl) ?_
              refine lv_aload_n hx hb dX5_brokenOf_31 rfl (lv_at hl 1 rfl) ?_
              refine u_get C hW inlX5 (by decide) cM_0 rfl 0 (by decide) mw_71 rfl dX5_brokenOf_32 ?_
              refine lv_icmp_ge (tgt := 125) hx hb dX5_brokenOf_35 (by decide) (fun _ => ?_) (fun c9 => absurd (nI_le (by omega) (by omega)) c9)
              refine lv_iload hx hb dX5_brokenOf_125 (lv_at hl 5 rfl) ?_
              refine lv_iconst (v := 1) hx hb dX5_brokenOf_127 (by decide) ?_
              refine lv_iadd hx hb dX5_brokenOf_128 ?_
              refine u_top (show (nI j) + 1 = nI (j + 1) from nI_add j 1) ?_
              refine lv_istore (lv' := [(5, .int (nI (j + 1))), (0, .ref (ad 0)), (1, .int w), (2, .int a), (3, .int (nI i)), (4, .int (nI j))]) hx hb dX5_brokenOf_129 hl (by decide) rfl (fun ls hl => ?_)
              have L131 : ∀ (k131 : Nat) (k : Nat) (a : Int32), k + k131 = n → lp (boO n t w) (i + 1) k4 (lp (boJ n t w i) (j + 1) k17 (bo4 n t w i j k k131 a)) = boV n t w → ∀ (H : Heap) (locs : List Loc), Wd D 7 ad (cM cyI cyZ ad n t md jd jn wm od bs ab be hh) A s.heap H locs → ∀ ls : Array Slot, lv_has ls 7 [(5, .int (nI k)), (0, .ref (ad 0)), (1, .int w), (2, .int a), (3, .int (nI i)), (4, .int (nI j))] → W p l e ({ frames := 2, cells := 0, slots := 0, locals := 50 } : Room) s m args below meth c H locs 0 0 (MQ below (uQ D 7 ad (cM cyI cyZ ad n t md jd jn wm od bs ab be hh) (some (.int (boV n t w))) A) args s 0 0 A) (F0 m 131 ls []) := by
                intro k131
                induction k131 with
                | zero =>
                  intro k a hk r131 H locs hW ls hl
                  refine lv_iload hx hb dX5_brokenOf_131 (lv_at hl 0 rfl) ?_
                  refine lv_aload_n hx hb dX5_brokenOf_133 rfl (lv_at hl 1 rfl) ?_
                  refine u_get C hW inlX5 (by decide) cM_0 rfl 0 (by decide) mw_71 rfl dX5_brokenOf_134 ?_
                  refine lv_icmp_ge (tgt := 194) hx hb dX5_brokenOf_137 (by decide) (fun _ => ?_) (fun c9 => absurd (nI_le (by omega) (by omega)) c9)
                  refine lv_iinc (v := nI (j + 1)) (lv' := [(4, .int (nI (j + 1))), (5, .int (nI k)), (0, .ref (ad 0)), (1, .int w), (2, .int a), (3, .int (nI i))]) hx hb dX5_brokenOf_194 hl (k := 5) rfl (nI_1 _) (by decide) rfl (fun ls hl => ?_)
                  refine lv_goto (tgt := 17) hx hb dX5_brokenOf_197 (by decide) ?_
                  exact ih17  (j + 1) a (by omega) (by have h9 := r131; simp only [bo4, lp_0, ite_self] at h9; exact h9) H locs hW ls (lv_sub hl [0, 2, 3, 4, 5] rfl)
                | succ k131 ih131 =>
                  intro k a hk r131 H locs hW ls hl
                  refine lv_iload hx hb dX5_brokenOf_131 (lv_at hl 0 rfl) ?_
                  refine lv_aload_n hx hb dX5_brokenOf_133 rfl (lv_at hl 1 rfl) ?_
                  refine u_get C hW inlX5 (by decide) cM_0 rfl 0 (by decide) mw_71 rfl dX5_brokenOf_134 ?_
                  refine lv_icmp_ge (tgt := 194) hx hb dX5_brokenOf_137 (by decide) (fun c9 => absurd c9 (nI_ge (by omega) (by omega))) (fun _ => ?_)
                  refine lv_iload_n hx hb dX5_brokenOf_140 rfl (lv_at hl 2 rfl) ?_
                  refine lv_iconst (v := 2) hx hb dX5_brokenOf_141 (by decide) ?_
                  refine lv_icmp_ne (tgt := 194) hx hb dX5_brokenOf_142 (by decide) (fun c142_1 => ?_) (fun c142_1 => ?_)
                  · skip
                    refine lv_iinc (v := nI (j + 1)) (lv' := [(4, .int (nI (j + 1))), (5, .int (nI k)), (0, .ref (ad 0)), (1, .int w), (2, .int a), (3, .int (nI i))]) hx hb dX5_brokenOf_194 hl (k := 5) rfl (nI_1 _) (by decide) rfl (fun ls hl => ?_)
                    refine lv_goto (tgt := 17) hx hb dX5_brokenOf_197 (by decide) ?_
                    exact ih17  (j + 1) a (by omega) (by have h9 := r131; simp only [bo4, lp_0, ite_self, if_neg c142_1] at h9; exact h9) H locs hW ls (lv_sub hl [0, 2, 3, 4, 5] rfl)
                  · skip
                    refine lv_iload hx hb dX5_brokenOf_145 (lv_at hl 0 rfl) ?_
                    refine lv_iconst (v := 1) hx hb dX5_brokenOf_147 (by decide) ?_
                    refine lv_iadd hx hb dX5_brokenOf_148 ?_
                    refine u_top (show (nI k) + 1 = nI (k + 1) from nI_add k 1) ?_
                    refine lv_istore (lv' := [(6, .int (nI (k + 1))), (5, .int (nI k)), (0, .ref (ad 0)), (1, .int w), (2, .int a), (3, .int (nI i)), (4, .int (nI j))]) hx hb dX5_brokenOf_149 hl (by decide) rfl (fun ls hl => ?_)
                    have L151 : ∀ (k151 : Nat) (q : Nat) (a : Int32), q + k151 = n → lp (boO n t w) (i + 1) k4 (lp (boJ n t w i) (j + 1) k17 (bo4 n t w i j (k + 1) k131 (lp (bo3 t i j k) q k151 a))) = boV n t w → ∀ (H : Heap) (locs : List Loc), Wd D 7 ad (cM cyI cyZ ad n t md jd jn wm od bs ab be hh) A s.heap H locs → ∀ ls : Array Slot, lv_has ls 7 [(6, .int (nI q)), (0, .ref (ad 0)), (1, .int w), (2, .int a), (3, .int (nI i)), (4, .int (nI j)), (5, .int (nI k))] → W p l e ({ frames := 2, cells := 0, slots := 0, locals := 50 } : Room) s m args below meth c H locs 0 0 (MQ below (uQ D 7 ad (cM cyI cyZ ad n t md jd jn wm od bs ab be hh) (some (.int (boV n t w))) A) args s 0 0 A) (F0 m 151 ls []) := by
                      intro k151
                      induction k151 with
                      | zero =>
                        intro q a hq r151 H locs hW ls hl
                        refine lv_iload hx hb dX5_brokenOf_151 (lv_at hl 0 rfl) ?_
                        refine lv_aload_n hx hb dX5_brokenOf_153 rfl (lv_at hl 1 rfl) ?_
                        refine u_get C hW inlX5 (by decide) cM_0 rfl 0 (by decide) mw_71 rfl dX5_brokenOf_154 ?_
                        refine lv_icmp_ge (tgt := 188) hx hb dX5_brokenOf_157 (by decide) (fun _ => ?_) (fun c9 => absurd (nI_le (by omega) (by omega)) c9)
                        refine lv_iinc (v := nI (k + 1)) (lv' := [(5, .int (nI (k + 1))), (6, .int (nI q)), (0, .ref (ad 0)), (1, .int w), (2, .int a), (3, .int (nI i)), (4, .int (nI j))]) hx hb dX5_brokenOf_188 hl (k := 6) rfl (nI_1 _) (by decide) rfl (fun ls hl => ?_)
                        refine lv_goto (tgt := 131) hx hb dX5_brokenOf_191 (by decide) ?_
                        exact ih131  (k + 1) a (by omega) r151 H locs hW ls (lv_sub hl [0, 2, 3, 4, 5, 6] rfl)
                      | succ k151 ih151 =>
                        intro q a hq r151 H locs hW ls hl
                        refine lv_iload hx hb dX5_brokenOf_151 (lv_at hl 0 rfl) ?_
                        refine lv_aload_n hx hb dX5_brokenOf_153 rfl (lv_at hl 1 rfl) ?_
                        refine u_get C hW inlX5 (by decide) cM_0 rfl 0 (by decide) mw_71 rfl dX5_brokenOf_154 ?_
                        refine lv_icmp_ge (tgt := 188) hx hb dX5_brokenOf_157 (by decide) (fun c9 => absurd c9 (nI_ge (by omega) (by omega))) (fun _ => ?_)
                        refine lv_iload_n hx hb dX5_brokenOf_160 rfl (lv_at hl 3 rfl) ?_
                        refine lv_aload_n hx hb dX5_brokenOf_161 rfl (lv_at hl 1 rfl) ?_
                        refine lv_iload_n hx hb dX5_brokenOf_162 rfl (lv_at hl 4 rfl) ?_
                        refine lv_iload hx hb dX5_brokenOf_163 (lv_at hl 5 rfl) ?_
                        refine lv_iload hx hb dX5_brokenOf_165 (lv_at hl 6 rfl) ?_
                        refine lv_iload hx hb dX5_brokenOf_167 (lv_at hl 0 rfl) ?_
                        refine u_callV (cf' := cM cyI cyZ ad n t md jd jn wm od bs ab be hh) (As := [.int (nI i), .int (nI j), .int (nI k), .int (nI q)]) (rest := [.int a]) (st1 := [.int (afV t i j k q), .int a]) C hW (c_X5_areFour l D cyI cO cyZ ad fa n t md jd jn wm od bs ab be hh i j k q (by omega) (by omega) (by omega) (by omega)) mv_yX5_areFour mw_178 rfl ⟨rfl, rfl, Nat.le_of_ble_eq_true rfl, Nat.le_of_ble_eq_true rfl⟩ (by decide) cM_0 rfl rfl hl (Nat.le_of_ble_eq_true rfl) rfl rfl dX5_brokenOf_169 (fun H locs hW => ?_)
                        refine lv_if_eq (tgt := 179) hx hb dX5_brokenOf_172 (by decide) (fun c172_2 => ?_) (fun c172_2 => ?_)
                        · skip
                          refine lv_iconst (v := 1) hx hb dX5_brokenOf_179 (by decide) ?_
                          refine lv_iadd hx hb dX5_brokenOf_180 ?_
                          refine lv_istore_n (lv' := [(2, .int (a + 1)), (6, .int (nI q)), (0, .ref (ad 0)), (1, .int w), (3, .int (nI i)), (4, .int (nI j)), (5, .int (nI k))]) hx hb dX5_brokenOf_181 rfl hl (by decide) rfl (fun ls hl => ?_)
                          refine lv_iinc (v := nI (q + 1)) (lv' := [(6, .int (nI (q + 1))), (2, .int (a + 1)), (0, .ref (ad 0)), (1, .int w), (3, .int (nI i)), (4, .int (nI j)), (5, .int (nI k))]) hx hb dX5_brokenOf_182 hl (k := 1) rfl (nI_1 _) (by decide) rfl (fun ls hl => ?_)
                          refine lv_goto (tgt := 151) hx hb dX5_brokenOf_185 (by decide) ?_
                          exact ih151  (q + 1) (a + 1) (by omega) (by have h9 := r151; simp only [lp_s, lp_0, bo3, if_pos c172_2] at h9; exact h9) H locs hW ls (lv_sub hl [0, 2, 3, 1, 4, 5, 6] rfl)
                        · skip
                          refine lv_iconst (v := 0) hx hb dX5_brokenOf_175 (by decide) ?_
                          refine lv_goto (tgt := 180) hx hb dX5_brokenOf_176 (by decide) ?_
                          refine lv_iadd hx hb dX5_brokenOf_180 ?_
                          refine lv_istore_n (lv' := [(2, .int (a + 0)), (6, .int (nI q)), (0, .ref (ad 0)), (1, .int w), (3, .int (nI i)), (4, .int (nI j)), (5, .int (nI k))]) hx hb dX5_brokenOf_181 rfl hl (by decide) rfl (fun ls hl => ?_)
                          refine lv_iinc (v := nI (q + 1)) (lv' := [(6, .int (nI (q + 1))), (2, .int (a + 0)), (0, .ref (ad 0)), (1, .int w), (3, .int (nI i)), (4, .int (nI j)), (5, .int (nI k))]) hx hb dX5_brokenOf_182 hl (k := 1) rfl (nI_1 _) (by decide) rfl (fun ls hl => ?_)
                          refine lv_goto (tgt := 151) hx hb dX5_brokenOf_185 (by decide) ?_
                          exact ih151  (q + 1) (a + 0) (by omega) (by have h9 := r151; simp only [lp_s, lp_0, bo3, if_neg c172_2] at h9; exact h9) H locs hW ls (lv_sub hl [0, 2, 3, 1, 4, 5, 6] rfl)
                    exact L151 (n - (k + 1)) (k + 1) a (by omega) (by have h9 := r131; simp only [bo4, lp_s, if_pos c142_1] at h9 ⊢; exact h9) H locs hW ls (lv_sub hl [0, 2, 3, 4, 5, 6, 1] rfl)
              exact L131 (n - (j + 1)) (j + 1) a (by omega) (by have h9 := r29; simp only [bo1, lp_0, ite_self] at h9; exact h9) H locs hW ls (lv_sub hl [0, 1, 2, 3, 4, 5] rfl)
            | succ k29 ih29 =>
              intro k a hk r29 H locs hW ls hl
              refine lv_iload hx hb dX5_brokenOf_29 (lv_at hl 0 rfl) ?_
              refine lv_aload_n hx hb dX5_brokenOf_31 rfl (lv_at hl 1 rfl) ?_
              refine u_get C hW inlX5 (by decide) cM_0 rfl 0 (by decide) mw_71 rfl dX5_brokenOf_32 ?_
              refine lv_icmp_ge (tgt := 125) hx hb dX5_brokenOf_35 (by decide) (fun c9 => absurd c9 (nI_ge (by omega) (by omega))) (fun _ => ?_)
              refine lv_iload_n hx hb dX5_brokenOf_38 rfl (lv_at hl 2 rfl) ?_
              refine lv_iconst (v := 2) hx hb dX5_brokenOf_39 (by decide) ?_
              refine lv_icmp_ge (tgt := 125) hx hb dX5_brokenOf_40 (by decide) (fun c40_3 => ?_) (fun c40_3 => ?_)
              · skip
                refine lv_iload hx hb dX5_brokenOf_125 (lv_at hl 5 rfl) ?_
                refine lv_iconst (v := 1) hx hb dX5_brokenOf_127 (by decide) ?_
                refine lv_iadd hx hb dX5_brokenOf_128 ?_
                refine u_top (show (nI j) + 1 = nI (j + 1) from nI_add j 1) ?_
                refine lv_istore (lv' := [(5, .int (nI (j + 1))), (0, .ref (ad 0)), (1, .int w), (2, .int a), (3, .int (nI i)), (4, .int (nI j))]) hx hb dX5_brokenOf_129 hl (by decide) rfl (fun ls hl => ?_)
                have L131 : ∀ (k131 : Nat) (k : Nat) (a : Int32), k + k131 = n → lp (boO n t w) (i + 1) k4 (lp (boJ n t w i) (j + 1) k17 (bo4 n t w i j k k131 a)) = boV n t w → ∀ (H : Heap) (locs : List Loc), Wd D 7 ad (cM cyI cyZ ad n t md jd jn wm od bs ab be hh) A s.heap H locs → ∀ ls : Array Slot, lv_has ls 7 [(5, .int (nI k)), (0, .ref (ad 0)), (1, .int w), (2, .int a), (3, .int (nI i)), (4, .int (nI j))] → W p l e ({ frames := 2, cells := 0, slots := 0, locals := 50 } : Room) s m args below meth c H locs 0 0 (MQ below (uQ D 7 ad (cM cyI cyZ ad n t md jd jn wm od bs ab be hh) (some (.int (boV n t w))) A) args s 0 0 A) (F0 m 131 ls []) := by
                  intro k131
                  induction k131 with
                  | zero =>
                    intro k a hk r131 H locs hW ls hl
                    refine lv_iload hx hb dX5_brokenOf_131 (lv_at hl 0 rfl) ?_
                    refine lv_aload_n hx hb dX5_brokenOf_133 rfl (lv_at hl 1 rfl) ?_
                    refine u_get C hW inlX5 (by decide) cM_0 rfl 0 (by decide) mw_71 rfl dX5_brokenOf_134 ?_
                    refine lv_icmp_ge (tgt := 194) hx hb dX5_brokenOf_137 (by decide) (fun _ => ?_) (fun c9 => absurd (nI_le (by omega) (by omega)) c9)
                    refine lv_iinc (v := nI (j + 1)) (lv' := [(4, .int (nI (j + 1))), (5, .int (nI k)), (0, .ref (ad 0)), (1, .int w), (2, .int a), (3, .int (nI i))]) hx hb dX5_brokenOf_194 hl (k := 5) rfl (nI_1 _) (by decide) rfl (fun ls hl => ?_)
                    refine lv_goto (tgt := 17) hx hb dX5_brokenOf_197 (by decide) ?_
                    exact ih17  (j + 1) a (by omega) (by have h9 := r131; simp only [bo4, lp_0, ite_self] at h9; exact h9) H locs hW ls (lv_sub hl [0, 2, 3, 4, 5] rfl)
                  | succ k131 ih131 =>
                    intro k a hk r131 H locs hW ls hl
                    refine lv_iload hx hb dX5_brokenOf_131 (lv_at hl 0 rfl) ?_
                    refine lv_aload_n hx hb dX5_brokenOf_133 rfl (lv_at hl 1 rfl) ?_
                    refine u_get C hW inlX5 (by decide) cM_0 rfl 0 (by decide) mw_71 rfl dX5_brokenOf_134 ?_
                    refine lv_icmp_ge (tgt := 194) hx hb dX5_brokenOf_137 (by decide) (fun c9 => absurd c9 (nI_ge (by omega) (by omega))) (fun _ => ?_)
                    refine lv_iload_n hx hb dX5_brokenOf_140 rfl (lv_at hl 2 rfl) ?_
                    refine lv_iconst (v := 2) hx hb dX5_brokenOf_141 (by decide) ?_
                    refine lv_icmp_ne (tgt := 194) hx hb dX5_brokenOf_142 (by decide) (fun c142_4 => ?_) (fun c142_4 => ?_)
                    · skip
                      refine lv_iinc (v := nI (j + 1)) (lv' := [(4, .int (nI (j + 1))), (5, .int (nI k)), (0, .ref (ad 0)), (1, .int w), (2, .int a), (3, .int (nI i))]) hx hb dX5_brokenOf_194 hl (k := 5) rfl (nI_1 _) (by decide) rfl (fun ls hl => ?_)
                      refine lv_goto (tgt := 17) hx hb dX5_brokenOf_197 (by decide) ?_
                      exact ih17  (j + 1) a (by omega) (by have h9 := r131; simp only [bo4, lp_0, ite_self, if_neg c142_4] at h9; exact h9) H locs hW ls (lv_sub hl [0, 2, 3, 4, 5] rfl)
                    · skip
                      refine lv_iload hx hb dX5_brokenOf_145 (lv_at hl 0 rfl) ?_
                      refine lv_iconst (v := 1) hx hb dX5_brokenOf_147 (by decide) ?_
                      refine lv_iadd hx hb dX5_brokenOf_148 ?_
                      refine u_top (show (nI k) + 1 = nI (k + 1) from nI_add k 1) ?_
                      refine lv_istore (lv' := [(6, .int (nI (k + 1))), (5, .int (nI k)), (0, .ref (ad 0)), (1, .int w), (2, .int a), (3, .int (nI i)), (4, .int (nI j))]) hx hb dX5_brokenOf_149 hl (by decide) rfl (fun ls hl => ?_)
                      have L151 : ∀ (k151 : Nat) (q : Nat) (a : Int32), q + k151 = n → lp (boO n t w) (i + 1) k4 (lp (boJ n t w i) (j + 1) k17 (bo4 n t w i j (k + 1) k131 (lp (bo3 t i j k) q k151 a))) = boV n t w → ∀ (H : Heap) (locs : List Loc), Wd D 7 ad (cM cyI cyZ ad n t md jd jn wm od bs ab be hh) A s.heap H locs → ∀ ls : Array Slot, lv_has ls 7 [(6, .int (nI q)), (0, .ref (ad 0)), (1, .int w), (2, .int a), (3, .int (nI i)), (4, .int (nI j)), (5, .int (nI k))] → W p l e ({ frames := 2, cells := 0, slots := 0, locals := 50 } : Room) s m args below meth c H locs 0 0 (MQ below (uQ D 7 ad (cM cyI cyZ ad n t md jd jn wm od bs ab be hh) (some (.int (boV n t w))) A) args s 0 0 A) (F0 m 151 ls []) := by
                        intro k151
                        induction k151 with
                        | zero =>
                          intro q a hq r151 H locs hW ls hl
                          refine lv_iload hx hb dX5_brokenOf_151 (lv_at hl 0 rfl) ?_
                          refine lv_aload_n hx hb dX5_brokenOf_153 rfl (lv_at hl 1 rfl) ?_
                          refine u_get C hW inlX5 (by decide) cM_0 rfl 0 (by decide) mw_71 rfl dX5_brokenOf_154 ?_
                          refine lv_icmp_ge (tgt := 188) hx hb dX5_brokenOf_157 (by decide) (fun _ => ?_) (fun c9 => absurd (nI_le (by omega) (by omega)) c9)
                          refine lv_iinc (v := nI (k + 1)) (lv' := [(5, .int (nI (k + 1))), (6, .int (nI q)), (0, .ref (ad 0)), (1, .int w), (2, .int a), (3, .int (nI i)), (4, .int (nI j))]) hx hb dX5_brokenOf_188 hl (k := 6) rfl (nI_1 _) (by decide) rfl (fun ls hl => ?_)
                          refine lv_goto (tgt := 131) hx hb dX5_brokenOf_191 (by decide) ?_
                          exact ih131  (k + 1) a (by omega) r151 H locs hW ls (lv_sub hl [0, 2, 3, 4, 5, 6] rfl)
                        | succ k151 ih151 =>
                          intro q a hq r151 H locs hW ls hl
                          refine lv_iload hx hb dX5_brokenOf_151 (lv_at hl 0 rfl) ?_
                          refine lv_aload_n hx hb dX5_brokenOf_153 rfl (lv_at hl 1 rfl) ?_
                          refine u_get C hW inlX5 (by decide) cM_0 rfl 0 (by decide) mw_71 rfl dX5_brokenOf_154 ?_
                          refine lv_icmp_ge (tgt := 188) hx hb dX5_brokenOf_157 (by decide) (fun c9 => absurd c9 (nI_ge (by omega) (by omega))) (fun _ => ?_)
                          refine lv_iload_n hx hb dX5_brokenOf_160 rfl (lv_at hl 3 rfl) ?_
                          refine lv_aload_n hx hb dX5_brokenOf_161 rfl (lv_at hl 1 rfl) ?_
                          refine lv_iload_n hx hb dX5_brokenOf_162 rfl (lv_at hl 4 rfl) ?_
                          refine lv_iload hx hb dX5_brokenOf_163 (lv_at hl 5 rfl) ?_
                          refine lv_iload hx hb dX5_brokenOf_165 (lv_at hl 6 rfl) ?_
                          refine lv_iload hx hb dX5_brokenOf_167 (lv_at hl 0 rfl) ?_
                          refine u_callV (cf' := cM cyI cyZ ad n t md jd jn wm od bs ab be hh) (As := [.int (nI i), .int (nI j), .int (nI k), .int (nI q)]) (rest := [.int a]) (st1 := [.int (afV t i j k q), .int a]) C hW (c_X5_areFour l D cyI cO cyZ ad fa n t md jd jn wm od bs ab be hh i j k q (by omega) (by omega) (by omega) (by omega)) mv_yX5_areFour mw_178 rfl ⟨rfl, rfl, Nat.le_of_ble_eq_true rfl, Nat.le_of_ble_eq_true rfl⟩ (by decide) cM_0 rfl rfl hl (Nat.le_of_ble_eq_true rfl) rfl rfl dX5_brokenOf_169 (fun H locs hW => ?_)
                          refine lv_if_eq (tgt := 179) hx hb dX5_brokenOf_172 (by decide) (fun c172_5 => ?_) (fun c172_5 => ?_)
                          · skip
                            refine lv_iconst (v := 1) hx hb dX5_brokenOf_179 (by decide) ?_
                            refine lv_iadd hx hb dX5_brokenOf_180 ?_
                            refine lv_istore_n (lv' := [(2, .int (a + 1)), (6, .int (nI q)), (0, .ref (ad 0)), (1, .int w), (3, .int (nI i)), (4, .int (nI j)), (5, .int (nI k))]) hx hb dX5_brokenOf_181 rfl hl (by decide) rfl (fun ls hl => ?_)
                            refine lv_iinc (v := nI (q + 1)) (lv' := [(6, .int (nI (q + 1))), (2, .int (a + 1)), (0, .ref (ad 0)), (1, .int w), (3, .int (nI i)), (4, .int (nI j)), (5, .int (nI k))]) hx hb dX5_brokenOf_182 hl (k := 1) rfl (nI_1 _) (by decide) rfl (fun ls hl => ?_)
                            refine lv_goto (tgt := 151) hx hb dX5_brokenOf_185 (by decide) ?_
                            exact ih151  (q + 1) (a + 1) (by omega) (by have h9 := r151; simp only [lp_s, lp_0, bo3, if_pos c172_5] at h9; exact h9) H locs hW ls (lv_sub hl [0, 2, 3, 1, 4, 5, 6] rfl)
                          · skip
                            refine lv_iconst (v := 0) hx hb dX5_brokenOf_175 (by decide) ?_
                            refine lv_goto (tgt := 180) hx hb dX5_brokenOf_176 (by decide) ?_
                            refine lv_iadd hx hb dX5_brokenOf_180 ?_
                            refine lv_istore_n (lv' := [(2, .int (a + 0)), (6, .int (nI q)), (0, .ref (ad 0)), (1, .int w), (3, .int (nI i)), (4, .int (nI j)), (5, .int (nI k))]) hx hb dX5_brokenOf_181 rfl hl (by decide) rfl (fun ls hl => ?_)
                            refine lv_iinc (v := nI (q + 1)) (lv' := [(6, .int (nI (q + 1))), (2, .int (a + 0)), (0, .ref (ad 0)), (1, .int w), (3, .int (nI i)), (4, .int (nI j)), (5, .int (nI k))]) hx hb dX5_brokenOf_182 hl (k := 1) rfl (nI_1 _) (by decide) rfl (fun ls hl => ?_)
                            refine lv_goto (tgt := 151) hx hb dX5_brokenOf_185 (by decide) ?_
                            exact ih151  (q + 1) (a + 0) (by omega) (by have h9 := r151; simp only [lp_s, lp_0, bo3, if_neg c172_5] at h9; exact h9) H locs hW ls (lv_sub hl [0, 2, 3, 1, 4, 5, 6] rfl)
                      exact L151 (n - (k + 1)) (k + 1) a (by omega) (by have h9 := r131; simp only [bo4, lp_s, if_pos c142_4] at h9 ⊢; exact h9) H locs hW ls (lv_sub hl [0, 2, 3, 4, 5, 6, 1] rfl)
                exact L131 (n - (j + 1)) (j + 1) a (by omega) (by have h9 := r29; simp only [bo1, lp_0, ite_self, if_pos c40_3] at h9; exact h9) H locs hW ls (lv_sub hl [0, 1, 2, 3, 4, 5] rfl)
              · skip
                refine lv_iload_n hx hb dX5_brokenOf_43 rfl (lv_at hl 2 rfl) ?_
                refine lv_if_ne (tgt := 66) hx hb dX5_brokenOf_44 (by decide) (fun c44_6 => ?_) (fun c44_6 => ?_)
                · skip
                  refine lv_aload_n hx hb dX5_brokenOf_66 rfl (lv_at hl 1 rfl) ?_
                  refine lv_iload_n hx hb dX5_brokenOf_67 rfl (lv_at hl 4 rfl) ?_
                  refine lv_iload hx hb dX5_brokenOf_68 (lv_at hl 0 rfl) ?_
                  refine u_callV (cf' := cM cyI cyZ ad n t md jd jn wm od bs ab be hh) (As := [.int (nI i), .int (nI k)]) (rest := []) (st1 := [.int (t (6 * i + k))]) C hW (c_X5_d l D cyI cO cyZ ad fa n t md jd jn wm od bs ab be hh i k (by omega) (by omega)) mv_yX5_d mw_126 rfl ⟨rfl, rfl, Nat.le_of_ble_eq_true rfl, Nat.le_of_ble_eq_true rfl⟩ (by decide) cM_0 rfl rfl hl (Nat.le_of_ble_eq_true rfl) rfl rfl dX5_brokenOf_70 (fun H locs hW => ?_)
                  refine lv_aload_n hx hb dX5_brokenOf_73 rfl (lv_at hl 1 rfl) ?_
                  refine lv_iload hx hb dX5_brokenOf_74 (lv_at hl 0 rfl) ?_
                  refine lv_iload hx hb dX5_brokenOf_76 (lv_at hl 5 rfl) ?_
                  refine u_callV (cf' := cM cyI cyZ ad n t md jd jn wm od bs ab be hh) (As := [.int (nI k), .int (nI j)]) (rest := [.int (t (6 * i + k))]) (st1 := [.int (t (6 * k + j)), .int (t (6 * i + k))]) C hW (c_X5_d l D cyI cO cyZ ad fa n t md jd jn wm od bs ab be hh k j (by omega) (by omega)) mv_yX5_d mw_126 rfl ⟨rfl, rfl, Nat.le_of_ble_eq_true rfl, Nat.le_of_ble_eq_true rfl⟩ (by decide) cM_0 rfl rfl hl (Nat.le_of_ble_eq_true rfl) rfl rfl dX5_brokenOf_78 (fun H locs hW => ?_)
                  refine u_callS (cf' := cM cyI cyZ ad n t md jd jn wm od bs ab be hh) (As := [.int (t (6 * i + k)), .int (t (6 * k + j))]) (rest := []) (st1 := [.int (grt (t (6 * i + k)) (t (6 * k + j)))]) C hW (c_X5_greater l D cyI cO cyZ ad fa n t md jd jn wm od bs ab be hh (t (6 * i + k)) (t (6 * k + j)) ) ms_yX5_greater mw_175 rfl ⟨rfl, rfl, Nat.le_of_ble_eq_true rfl, Nat.le_of_ble_eq_true rfl⟩ hl (Nat.le_of_ble_eq_true rfl) rfl rfl dX5_brokenOf_81 (fun H locs hW => ?_)
                  refine lv_istore (lv' := [(6, .int (grt (t (6 * i + k)) (t (6 * k + j)))), (5, .int (nI k)), (0, .ref (ad 0)), (1, .int w), (2, .int a), (3, .int (nI i)), (4, .int (nI j))]) hx hb dX5_brokenOf_84 hl (by decide) rfl (fun ls hl => ?_)
                  refine lv_iload_n hx hb dX5_brokenOf_86 rfl (lv_at hl 4 rfl) ?_
                  refine lv_iload hx hb dX5_brokenOf_87 (lv_at hl 1 rfl) ?_
                  refine lv_iload_n hx hb dX5_brokenOf_89 rfl (lv_at hl 5 rfl) ?_
                  refine lv_icmp_eq (tgt := 116) hx hb dX5_brokenOf_90 (by decide) (fun c90_7 => ?_) (fun c90_7 => ?_)
                  · skip
                    refine lv_iconst (v := 0) hx hb dX5_brokenOf_116 (by decide) ?_
                    refine lv_iadd hx hb dX5_brokenOf_117 ?_
                    refine lv_istore_n (lv' := [(2, .int (a + 0)), (6, .int (grt (t (6 * i + k)) (t (6 * k + j)))), (5, .int (nI k)), (0, .ref (ad 0)), (1, .int w), (3, .int (nI i)), (4, .int (nI j))]) hx hb dX5_brokenOf_118 rfl hl (by decide) rfl (fun ls hl => ?_)
                    refine lv_iinc (v := nI (k + 1)) (lv' := [(5, .int (nI (k + 1))), (2, .int (a + 0)), (6, .int (grt (t (6 * i + k)) (t (6 * k + j)))), (0, .ref (ad 0)), (1, .int w), (3, .int (nI i)), (4, .int (nI j))]) hx hb dX5_brokenOf_119 hl (k := 2) rfl (nI_1 _) (by decide) rfl (fun ls hl => ?_)
                    refine lv_goto (tgt := 29) hx hb dX5_brokenOf_122 (by decide) ?_
                    exact ih29  (k + 1) (a + 0) (by omega) (by have h9 := r29; simp only [bo1, lp_s, boB, if_neg c40_3, if_neg c44_6, if_pos c90_7] at h9 ⊢; exact h9) H locs hW ls (lv_sub hl [0, 3, 4, 1, 5, 6] rfl)
                  · skip
                    refine lv_iload hx hb dX5_brokenOf_93 (lv_at hl 1 rfl) ?_
                    refine lv_iload hx hb dX5_brokenOf_95 (lv_at hl 6 rfl) ?_
                    refine lv_icmp_eq (tgt := 116) hx hb dX5_brokenOf_97 (by decide) (fun c97_8 => ?_) (fun c97_8 => ?_)
                    · skip
                      refine lv_iconst (v := 0) hx hb dX5_brokenOf_116 (by decide) ?_
                      refine lv_iadd hx hb dX5_brokenOf_117 ?_
                      refine lv_istore_n (lv' := [(2, .int (a + 0)), (6, .int (grt (t (6 * i + k)) (t (6 * k + j)))), (5, .int (nI k)), (0, .ref (ad 0)), (1, .int w), (3, .int (nI i)), (4, .int (nI j))]) hx hb dX5_brokenOf_118 rfl hl (by decide) rfl (fun ls hl => ?_)
                      refine lv_iinc (v := nI (k + 1)) (lv' := [(5, .int (nI (k + 1))), (2, .int (a + 0)), (6, .int (grt (t (6 * i + k)) (t (6 * k + j)))), (0, .ref (ad 0)), (1, .int w), (3, .int (nI i)), (4, .int (nI j))]) hx hb dX5_brokenOf_119 hl (k := 2) rfl (nI_1 _) (by decide) rfl (fun ls hl => ?_)
                      refine lv_goto (tgt := 29) hx hb dX5_brokenOf_122 (by decide) ?_
                      exact ih29  (k + 1) (a + 0) (by omega) (by have h9 := r29; simp only [bo1, lp_s, boB, if_neg c40_3, if_neg c44_6, if_neg c90_7, if_pos c97_8] at h9 ⊢; exact h9) H locs hW ls (lv_sub hl [0, 3, 4, 1, 5, 6] rfl)
                    · skip
                      refine lv_aload_n hx hb dX5_brokenOf_100 rfl (lv_at hl 2 rfl) ?_
                      refine lv_iload_n hx hb dX5_brokenOf_101 rfl (lv_at hl 5 rfl) ?_
                      refine lv_iload hx hb dX5_brokenOf_102 (lv_at hl 6 rfl) ?_
                      refine u_callV (cf' := cM cyI cyZ ad n t md jd jn wm od bs ab be hh) (As := [.int (nI i), .int (nI j)]) (rest := [.int a]) (st1 := [.int (t (6 * i + j)), .int a]) C hW (c_X5_d l D cyI cO cyZ ad fa n t md jd jn wm od bs ab be hh i j (by omega) (by omega)) mv_yX5_d mw_126 rfl ⟨rfl, rfl, Nat.le_of_ble_eq_true rfl, Nat.le_of_ble_eq_true rfl⟩ (by decide) cM_0 rfl rfl hl (Nat.le_of_ble_eq_true rfl) rfl rfl dX5_brokenOf_104 (fun H locs hW => ?_)
                      refine lv_iload hx hb dX5_brokenOf_107 (lv_at hl 0 rfl) ?_
                      refine lv_icmp_le (tgt := 116) hx hb dX5_brokenOf_109 (by decide) (fun c109_9 => ?_) (fun c109_9 => ?_)
                      · skip
                        refine lv_iconst (v := 0) hx hb dX5_brokenOf_116 (by decide) ?_
                        refine lv_iadd hx hb dX5_brokenOf_117 ?_
                        refine lv_istore_n (lv' := [(2, .int (a + 0)), (6, .int (grt (t (6 * i + k)) (t (6 * k + j)))), (5, .int (nI k)), (0, .ref (ad 0)), (1, .int w), (3, .int (nI i)), (4, .int (nI j))]) hx hb dX5_brokenOf_118 rfl hl (by decide) rfl (fun ls hl => ?_)
                        refine lv_iinc (v := nI (k + 1)) (lv' := [(5, .int (nI (k + 1))), (2, .int (a + 0)), (6, .int (grt (t (6 * i + k)) (t (6 * k + j)))), (0, .ref (ad 0)), (1, .int w), (3, .int (nI i)), (4, .int (nI j))]) hx hb dX5_brokenOf_119 hl (k := 2) rfl (nI_1 _) (by decide) rfl (fun ls hl => ?_)
                        refine lv_goto (tgt := 29) hx hb dX5_brokenOf_122 (by decide) ?_
                        exact ih29  (k + 1) (a + 0) (by omega) (by have h9 := r29; simp only [bo1, lp_s, boB, if_neg c40_3, if_neg c44_6, if_neg c90_7, if_neg c97_8, if_pos c109_9] at h9 ⊢; exact h9) H locs hW ls (lv_sub hl [0, 3, 4, 1, 5, 6] rfl)
                      · skip
                        refine lv_iconst (v := 1) hx hb dX5_brokenOf_112 (by decide) ?_
                        refine lv_goto (tgt := 117) hx hb dX5_brokenOf_113 (by decide) ?_
                        refine lv_iadd hx hb dX5_brokenOf_117 ?_
                        refine lv_istore_n (lv' := [(2, .int (a + 1)), (6, .int (grt (t (6 * i + k)) (t (6 * k + j)))), (5, .int (nI k)), (0, .ref (ad 0)), (1, .int w), (3, .int (nI i)), (4, .int (nI j))]) hx hb dX5_brokenOf_118 rfl hl (by decide) rfl (fun ls hl => ?_)
                        refine lv_iinc (v := nI (k + 1)) (lv' := [(5, .int (nI (k + 1))), (2, .int (a + 1)), (6, .int (grt (t (6 * i + k)) (t (6 * k + j)))), (0, .ref (ad 0)), (1, .int w), (3, .int (nI i)), (4, .int (nI j))]) hx hb dX5_brokenOf_119 hl (k := 2) rfl (nI_1 _) (by decide) rfl (fun ls hl => ?_)
                        refine lv_goto (tgt := 29) hx hb dX5_brokenOf_122 (by decide) ?_
                        exact ih29  (k + 1) (a + 1) (by omega) (by have h9 := r29; simp only [bo1, lp_s, boB, if_neg c40_3, if_neg c44_6, if_neg c90_7, if_neg c97_8, if_neg c109_9] at h9 ⊢; exact h9) H locs hW ls (lv_sub hl [0, 3, 4, 1, 5, 6] rfl)
                · skip
                  refine lv_aload_n hx hb dX5_brokenOf_47 rfl (lv_at hl 1 rfl) ?_
                  refine lv_iload_n hx hb dX5_brokenOf_48 rfl (lv_at hl 4 rfl) ?_
                  refine lv_iload hx hb dX5_brokenOf_49 (lv_at hl 0 rfl) ?_
                  refine u_callV (cf' := cM cyI cyZ ad n t md jd jn wm od bs ab be hh) (As := [.int (nI i), .int (nI k)]) (rest := []) (st1 := [.int (t (6 * i + k))]) C hW (c_X5_d l D cyI cO cyZ ad fa n t md jd jn wm od bs ab be hh i k (by omega) (by omega)) mv_yX5_d mw_126 rfl ⟨rfl, rfl, Nat.le_of_ble_eq_true rfl, Nat.le_of_ble_eq_true rfl⟩ (by decide) cM_0 rfl rfl hl (Nat.le_of_ble_eq_true rfl) rfl rfl dX5_brokenOf_51 (fun H locs hW => ?_)
                  refine lv_aload_n hx hb dX5_brokenOf_54 rfl (lv_at hl 1 rfl) ?_
                  refine lv_iload hx hb dX5_brokenOf_55 (lv_at hl 0 rfl) ?_
                  refine lv_iload hx hb dX5_brokenOf_57 (lv_at hl 5 rfl) ?_
                  refine u_callV (cf' := cM cyI cyZ ad n t md jd jn wm od bs ab be hh) (As := [.int (nI k), .int (nI j)]) (rest := [.int (t (6 * i + k))]) (st1 := [.int (t (6 * k + j)), .int (t (6 * i + k))]) C hW (c_X5_d l D cyI cO cyZ ad fa n t md jd jn wm od bs ab be hh k j (by omega) (by omega)) mv_yX5_d mw_126 rfl ⟨rfl, rfl, Nat.le_of_ble_eq_true rfl, Nat.le_of_ble_eq_true rfl⟩ (by decide) cM_0 rfl rfl hl (Nat.le_of_ble_eq_true rfl) rfl rfl dX5_brokenOf_59 (fun H locs hW => ?_)
                  refine lv_iadd hx hb dX5_brokenOf_62 ?_
                  refine lv_goto (tgt := 84) hx hb dX5_brokenOf_63 (by decide) ?_
                  refine lv_istore (lv' := [(6, .int ((t (6 * i + k)) + (t (6 * k + j)))), (5, .int (nI k)), (0, .ref (ad 0)), (1, .int w), (2, .int a), (3, .int (nI i)), (4, .int (nI j))]) hx hb dX5_brokenOf_84 hl (by decide) rfl (fun ls hl => ?_)
                  refine lv_iload_n hx hb dX5_brokenOf_86 rfl (lv_at hl 4 rfl) ?_
                  refine lv_iload hx hb dX5_brokenOf_87 (lv_at hl 1 rfl) ?_
                  refine lv_iload_n hx hb dX5_brokenOf_89 rfl (lv_at hl 5 rfl) ?_
                  refine lv_icmp_eq (tgt := 116) hx hb dX5_brokenOf_90 (by decide) (fun c90_10 => ?_) (fun c90_10 => ?_)
                  · skip
                    refine lv_iconst (v := 0) hx hb dX5_brokenOf_116 (by decide) ?_
                    refine lv_iadd hx hb dX5_brokenOf_117 ?_
                    refine lv_istore_n (lv' := [(2, .int (a + 0)), (6, .int ((t (6 * i + k)) + (t (6 * k + j)))), (5, .int (nI k)), (0, .ref (ad 0)), (1, .int w), (3, .int (nI i)), (4, .int (nI j))]) hx hb dX5_brokenOf_118 rfl hl (by decide) rfl (fun ls hl => ?_)
                    refine lv_iinc (v := nI (k + 1)) (lv' := [(5, .int (nI (k + 1))), (2, .int (a + 0)), (6, .int ((t (6 * i + k)) + (t (6 * k + j)))), (0, .ref (ad 0)), (1, .int w), (3, .int (nI i)), (4, .int (nI j))]) hx hb dX5_brokenOf_119 hl (k := 2) rfl (nI_1 _) (by decide) rfl (fun ls hl => ?_)
                    refine lv_goto (tgt := 29) hx hb dX5_brokenOf_122 (by decide) ?_
                    exact ih29  (k + 1) (a + 0) (by omega) (by have h9 := r29; simp only [bo1, lp_s, boB, if_neg c40_3, if_pos c44_6, if_pos c90_10] at h9 ⊢; exact h9) H locs hW ls (lv_sub hl [0, 3, 4, 1, 5, 6] rfl)
                  · skip
                    refine lv_iload hx hb dX5_brokenOf_93 (lv_at hl 1 rfl) ?_
                    refine lv_iload hx hb dX5_brokenOf_95 (lv_at hl 6 rfl) ?_
                    refine lv_icmp_eq (tgt := 116) hx hb dX5_brokenOf_97 (by decide) (fun c97_11 => ?_) (fun c97_11 => ?_)
                    · skip
                      refine lv_iconst (v := 0) hx hb dX5_brokenOf_116 (by decide) ?_
                      refine lv_iadd hx hb dX5_brokenOf_117 ?_
                      refine lv_istore_n (lv' := [(2, .int (a + 0)), (6, .int ((t (6 * i + k)) + (t (6 * k + j)))), (5, .int (nI k)), (0, .ref (ad 0)), (1, .int w), (3, .int (nI i)), (4, .int (nI j))]) hx hb dX5_brokenOf_118 rfl hl (by decide) rfl (fun ls hl => ?_)
                      refine lv_iinc (v := nI (k + 1)) (lv' := [(5, .int (nI (k + 1))), (2, .int (a + 0)), (6, .int ((t (6 * i + k)) + (t (6 * k + j)))), (0, .ref (ad 0)), (1, .int w), (3, .int (nI i)), (4, .int (nI j))]) hx hb dX5_brokenOf_119 hl (k := 2) rfl (nI_1 _) (by decide) rfl (fun ls hl => ?_)
                      refine lv_goto (tgt := 29) hx hb dX5_brokenOf_122 (by decide) ?_
                      exact ih29  (k + 1) (a + 0) (by omega) (by have h9 := r29; simp only [bo1, lp_s, boB, if_neg c40_3, if_pos c44_6, if_neg c90_10, if_pos c97_11] at h9 ⊢; exact h9) H locs hW ls (lv_sub hl [0, 3, 4, 1, 5, 6] rfl)
                    · skip
                      refine lv_aload_n hx hb dX5_brokenOf_100 rfl (lv_at hl 2 rfl) ?_
                      refine lv_iload_n hx hb dX5_brokenOf_101 rfl (lv_at hl 5 rfl) ?_
                      refine lv_iload hx hb dX5_brokenOf_102 (lv_at hl 6 rfl) ?_
                      refine u_callV (cf' := cM cyI cyZ ad n t md jd jn wm od bs ab be hh) (As := [.int (nI i), .int (nI j)]) (rest := [.int a]) (st1 := [.int (t (6 * i + j)), .int a]) C hW (c_X5_d l D cyI cO cyZ ad fa n t md jd jn wm od bs ab be hh i j (by omega) (by omega)) mv_yX5_d mw_126 rfl ⟨rfl, rfl, Nat.le_of_ble_eq_true rfl, Nat.le_of_ble_eq_true rfl⟩ (by decide) cM_0 rfl rfl hl (Nat.le_of_ble_eq_true rfl) rfl rfl dX5_brokenOf_104 (fun H locs hW => ?_)
                      refine lv_iload hx hb dX5_brokenOf_107 (lv_at hl 0 rfl) ?_
                      refine lv_icmp_le (tgt := 116) hx hb dX5_brokenOf_109 (by decide) (fun c109_12 => ?_) (fun c109_12 => ?_)
                      · skip
                        refine lv_iconst (v := 0) hx hb dX5_brokenOf_116 (by decide) ?_
                        refine lv_iadd hx hb dX5_brokenOf_117 ?_
                        refine lv_istore_n (lv' := [(2, .int (a + 0)), (6, .int ((t (6 * i + k)) + (t (6 * k + j)))), (5, .int (nI k)), (0, .ref (ad 0)), (1, .int w), (3, .int (nI i)), (4, .int (nI j))]) hx hb dX5_brokenOf_118 rfl hl (by decide) rfl (fun ls hl => ?_)
                        refine lv_iinc (v := nI (k + 1)) (lv' := [(5, .int (nI (k + 1))), (2, .int (a + 0)), (6, .int ((t (6 * i + k)) + (t (6 * k + j)))), (0, .ref (ad 0)), (1, .int w), (3, .int (nI i)), (4, .int (nI j))]) hx hb dX5_brokenOf_119 hl (k := 2) rfl (nI_1 _) (by decide) rfl (fun ls hl => ?_)
                        refine lv_goto (tgt := 29) hx hb dX5_brokenOf_122 (by decide) ?_
                        exact ih29  (k + 1) (a + 0) (by omega) (by have h9 := r29; simp only [bo1, lp_s, boB, if_neg c40_3, if_pos c44_6, if_neg c90_10, if_neg c97_11, if_pos c109_12] at h9 ⊢; exact h9) H locs hW ls (lv_sub hl [0, 3, 4, 1, 5, 6] rfl)
                      · skip
                        refine lv_iconst (v := 1) hx hb dX5_brokenOf_112 (by decide) ?_
                        refine lv_goto (tgt := 117) hx hb dX5_brokenOf_113 (by decide) ?_
                        refine lv_iadd hx hb dX5_brokenOf_117 ?_
                        refine lv_istore_n (lv' := [(2, .int (a + 1)), (6, .int ((t (6 * i + k)) + (t (6 * k + j)))), (5, .int (nI k)), (0, .ref (ad 0)), (1, .int w), (3, .int (nI i)), (4, .int (nI j))]) hx hb dX5_brokenOf_118 rfl hl (by decide) rfl (fun ls hl => ?_)
                        refine lv_iinc (v := nI (k + 1)) (lv' := [(5, .int (nI (k + 1))), (2, .int (a + 1)), (6, .int ((t (6 * i + k)) + (t (6 * k + j)))), (0, .ref (ad 0)), (1, .int w), (3, .int (nI i)), (4, .int (nI j))]) hx hb dX5_brokenOf_119 hl (k := 2) rfl (nI_1 _) (by decide) rfl (fun ls hl => ?_)
                        refine lv_goto (tgt := 29) hx hb dX5_brokenOf_122 (by decide) ?_
                        exact ih29  (k + 1) (a + 1) (by omega) (by have h9 := r29; simp only [bo1, lp_s, boB, if_neg c40_3, if_pos c44_6, if_neg c90_10, if_neg c97_11, if_neg c109_12] at h9 ⊢; exact h9) H locs hW ls (lv_sub hl [0, 3, 4, 1, 5, 6] rfl)
          exact L29 n 0 a (by omega) r17 H locs hW ls (lv_sub hl [0, 2, 3, 4, 5, 1] rfl)
      exact L17 (n - (i + 1)) (i + 1) a (by omega) r4 H locs hW ls (lv_sub hl [0, 2, 3, 4, 1] rfl)
  exact L4 n 0 0 (by omega) rfl H locs hW ls (lv_sub hl [0, 2, 3, 1] rfl)
set_option maxHeartbeats 4000000 in
set_option maxRecDepth 100000 in
theorem c_X5_is (l : Launch) (D : va_G) (cyI cO cyZ : ClassId) (ad : Nat → Nat) (fa : Nat) (n : Nat) (t md jd jn wm od : Nat → Int32) (bs : Int32) (ab be hh : Int64) (w : Int32) (hn : n ≤ 6) : Ct l yX5_is (Cond.code yX5_is cX5_is 2 (some .int) :: wsL_law) ({ frames := 3, cells := 0, slots := 0, locals := 76 } : Room) D (ty3 cyI cO cyZ) 7 ad fa [.ref (ad 0), .int w] (cM cyI cyZ ad n t md jd jn wm od bs ab be hh) (cM cyI cyZ ad n t md jd jn wm od bs ab be hh) (some (.int (miR n t w))) := by
  refine Ct.of (by decide) (Nat.le_of_ble_eq_true rfl) ?_
  intro p e s m args below meth c A C hr H locs hW ls hl
  have C : Cx p s m args meth c cX5_is 2 RX5 D (ty3 cyI cO cyZ) fa A := C
  have hx := C.1
  have hb := C.2.1
  have hl : lv_has ls 2 [(0, .ref (ad 0)), (1, .int w)] := hl
  refine lv_iload_n hx hb dX5_is_0 rfl (lv_at hl 1 rfl) ?_
  refine lv_iconst (v := 0) hx hb dX5_is_1 (by decide) ?_
  refine lv_iconst (v := 2) hx hb dX5_is_2 (by decide) ?_
  refine u_callS (cf' := cM cyI cyZ ad n t md jd jn wm od bs ab be hh) (As := [.int w, .int 0, .int 2]) (rest := []) (st1 := [.int (mnV w 0 2)]) C hW (c_X5_in l D cyI cO cyZ ad fa n t md jd jn wm od bs ab be hh w 0 2 ) ms_yX5_in mw_91 rfl ⟨rfl, rfl, Nat.le_of_ble_eq_true rfl, Nat.le_of_ble_eq_true rfl⟩ hl (Nat.le_of_ble_eq_true rfl) rfl rfl dX5_is_3 (fun H locs hW => ?_)
  refine lv_if_ne (tgt := 12) hx hb dX5_is_6 (by decide) (fun c6_1 => ?_) (fun c6_1 => ?_)
  · skip
    refine lv_aload_n hx hb dX5_is_12 rfl (lv_at hl 0 rfl) ?_
    refine lv_iload_n hx hb dX5_is_13 rfl (lv_at hl 1 rfl) ?_
    refine u_callV (cf' := cM cyI cyZ ad n t md jd jn wm od bs ab be hh) (As := [.int w]) (rest := []) (st1 := [.int (boV n t w)]) C hW (c_X5_brokenOf l D cyI cO cyZ ad fa n t md jd jn wm od bs ab be hh w (by omega)) mv_yX5_brokenOf mw_171 rfl ⟨rfl, rfl, Nat.le_of_ble_eq_true rfl, Nat.le_of_ble_eq_true rfl⟩ (by decide) cM_0 rfl rfl hl (Nat.le_of_ble_eq_true rfl) rfl rfl dX5_is_14 (fun H locs hW => ?_)
    refine lv_if_ne (tgt := 37) hx hb dX5_is_17 (by decide) (fun c17_2 => ?_) (fun c17_2 => ?_)
    · skip
      refine lv_iconst (v := 0) hx hb dX5_is_37 (by decide) ?_
      exact u_iret C hr hW dX5_is_38 (by simp only [miR, if_neg c6_1, if_neg c17_2]) rfl
    · skip
      refine lv_iload_n hx hb dX5_is_20 rfl (lv_at hl 1 rfl) ?_
      refine lv_iconst (v := 2) hx hb dX5_is_21 (by decide) ?_
      refine lv_icmp_lt (tgt := 33) hx hb dX5_is_22 (by decide) (fun c22_3 => ?_) (fun c22_3 => ?_)
      · skip
        refine lv_iconst (v := 1) hx hb dX5_is_33 (by decide) ?_
        refine lv_goto (tgt := 38) hx hb dX5_is_34 (by decide) ?_
        exact u_iret C hr hW dX5_is_38 (by simp only [miR, if_neg c6_1, if_pos c17_2, if_pos c22_3]) rfl
      · skip
        refine lv_aload_n hx hb dX5_is_25 rfl (lv_at hl 0 rfl) ?_
        refine lv_iconst (v := 0) hx hb dX5_is_26 (by decide) ?_
        refine u_callV (cf' := cM cyI cyZ ad n t md jd jn wm od bs ab be hh) (As := [.int 0]) (rest := []) (st1 := [.int (boV n t 0)]) C hW (c_X5_brokenOf l D cyI cO cyZ ad fa n t md jd jn wm od bs ab be hh 0 (by omega)) mv_yX5_brokenOf mw_171 rfl ⟨rfl, rfl, Nat.le_of_ble_eq_true rfl, Nat.le_of_ble_eq_true rfl⟩ (by decide) cM_0 rfl rfl hl (Nat.le_of_ble_eq_true rfl) rfl rfl dX5_is_27 (fun H locs hW => ?_)
        refine lv_if_ne (tgt := 37) hx hb dX5_is_30 (by decide) (fun c30_4 => ?_) (fun c30_4 => ?_)
        · skip
          refine lv_iconst (v := 0) hx hb dX5_is_37 (by decide) ?_
          exact u_iret C hr hW dX5_is_38 (by simp only [miR, if_neg c6_1, if_pos c17_2, if_neg c22_3, if_neg c30_4]) rfl
        · skip
          refine lv_iconst (v := 1) hx hb dX5_is_33 (by decide) ?_
          refine lv_goto (tgt := 38) hx hb dX5_is_34 (by decide) ?_
          exact u_iret C hr hW dX5_is_38 (by simp only [miR, if_neg c6_1, if_pos c17_2, if_neg c22_3, if_pos c30_4]) rfl
  · skip
    refine lv_bipush (v := -102) hx hb dX5_is_9 (by decide) ?_
    exact u_iret C hr hW dX5_is_11 (by simp only [miR, if_pos c6_1]) rfl
set_option maxHeartbeats 4000000 in
set_option maxRecDepth 100000 in
theorem c_X5_broken (l : Launch) (D : va_G) (cyI cO cyZ : ClassId) (ad : Nat → Nat) (fa : Nat) (n : Nat) (t md jd jn wm od : Nat → Int32) (bs : Int32) (ab be hh : Int64) (w : Int32) (hn : n ≤ 6) : Ct l yX5_broken (Cond.code yX5_broken cX5_broken 2 (some .int) :: wsL_law) ({ frames := 3, cells := 0, slots := 0, locals := 76 } : Room) D (ty3 cyI cO cyZ) 7 ad fa [.ref (ad 0), .int w] (cM cyI cyZ ad n t md jd jn wm od bs ab be hh) (cM cyI cyZ ad n t md jd jn wm od bs ab be hh) (some (.int (mkR n t w))) := by
  refine Ct.of (by decide) (Nat.le_of_ble_eq_true rfl) ?_
  intro p e s m args below meth c A C hr H locs hW ls hl
  have C : Cx p s m args meth c cX5_broken 2 RX5 D (ty3 cyI cO cyZ) fa A := C
  have hx := C.1
  have hb := C.2.1
  have hl : lv_has ls 2 [(0, .ref (ad 0)), (1, .int w)] := hl
  refine lv_iload_n hx hb dX5_broken_0 rfl (lv_at hl 1 rfl) ?_
  refine lv_iconst (v := 0) hx hb dX5_broken_1 (by decide) ?_
  refine lv_iconst (v := 2) hx hb dX5_broken_2 (by decide) ?_
  refine u_callS (cf' := cM cyI cyZ ad n t md jd jn wm od bs ab be hh) (As := [.int w, .int 0, .int 2]) (rest := []) (st1 := [.int (mnV w 0 2)]) C hW (c_X5_in l D cyI cO cyZ ad fa n t md jd jn wm od bs ab be hh w 0 2 ) ms_yX5_in mw_91 rfl ⟨rfl, rfl, Nat.le_of_ble_eq_true rfl, Nat.le_of_ble_eq_true rfl⟩ hl (Nat.le_of_ble_eq_true rfl) rfl rfl dX5_broken_3 (fun H locs hW => ?_)
  refine lv_if_eq (tgt := 17) hx hb dX5_broken_6 (by decide) (fun c6_1 => ?_) (fun c6_1 => ?_)
  · skip
    refine lv_bipush (v := -102) hx hb dX5_broken_17 (by decide) ?_
    exact u_iret C hr hW dX5_broken_19 (by simp only [mkR, if_pos c6_1]) rfl
  · skip
    refine lv_aload_n hx hb dX5_broken_9 rfl (lv_at hl 0 rfl) ?_
    refine lv_iload_n hx hb dX5_broken_10 rfl (lv_at hl 1 rfl) ?_
    refine u_callV (cf' := cM cyI cyZ ad n t md jd jn wm od bs ab be hh) (As := [.int w]) (rest := []) (st1 := [.int (boV n t w)]) C hW (c_X5_brokenOf l D cyI cO cyZ ad fa n t md jd jn wm od bs ab be hh w (by omega)) mv_yX5_brokenOf mw_171 rfl ⟨rfl, rfl, Nat.le_of_ble_eq_true rfl, Nat.le_of_ble_eq_true rfl⟩ (by decide) cM_0 rfl rfl hl (Nat.le_of_ble_eq_true rfl) rfl rfl dX5_broken_11 (fun H locs hW => ?_)
    refine lv_goto (tgt := 19) hx hb dX5_broken_14 (by decide) ?_
    exact u_iret C hr hW dX5_broken_19 (by simp only [mkR, if_neg c6_1]) rfl
set_option maxHeartbeats 4000000 in
set_option maxRecDepth 100000 in
theorem c_X5_become (l : Launch) (D : va_G) (cyI cO cyZ : ClassId) (ad : Nat → Nat) (fa : Nat) (n : Nat) (t md jd jn wm od : Nat → Int32) (bs : Int32) (ab be hh : Int64)  (hn : n ≤ 6) : Ct l yX5_become (Cond.code yX5_become cX5_become 4 (some .int) :: wsL_law) ({ frames := 1, cells := 0, slots := 0, locals := 22 } : Room) D (ty3 cyI cO cyZ) 7 ad fa [.ref (ad 0)] (cM cyI cyZ ad n t md jd jn wm od bs ab be hh) (cM cyI cyZ ad n ((mcV n t md).2) md jd jn wm od bs ab be hh) (some (.int ((mcV n t md).1))) := by
  refine Ct.of (by decide) (Nat.le_of_ble_eq_true rfl) ?_
  intro p e s m args below meth c A C hr H locs hW ls hl
  have C : Cx p s m args meth c cX5_become 4 RX5 D (ty3 cyI cO cyZ) fa A := C
  have hx := C.1
  have hb := C.2.1
  have hl : lv_has ls 4 [(0, .ref (ad 0))] := hl
  refine lv_iconst (v := 0) hx hb dX5_become_0 (by decide) ?_
  refine lv_istore_n (lv' := [(1, .int 0), (0, .ref (ad 0))]) hx hb dX5_become_1 rfl hl (by decide) rfl (fun ls hl => ?_)
  refine lv_iconst (v := 0) hx hb dX5_become_2 (by decide) ?_
  refine lv_istore_n (lv' := [(2, .int 0), (1, .int 0), (0, .ref (ad 0))]) hx hb dX5_become_3 rfl hl (by decide) rfl (fun ls hl => ?_)
  have L4 : ∀ (k4 : Nat) (i : Nat) (a : Int32) (f : Nat → Int32), i + k4 = n → lp (mcO n md) i k4 (a, f) = mcV n t md → ∀ (H : Heap) (locs : List Loc), Wd D 7 ad (cM cyI cyZ ad n f md jd jn wm od bs ab be hh) A s.heap H locs → ∀ ls : Array Slot, lv_has ls 4 [(2, .int (nI i)), (0, .ref (ad 0)), (1, .int a)] → W p l e ({ frames := 1, cells := 0, slots := 0, locals := 22 } : Room) s m args below meth c H locs 0 0 (MQ below (uQ D 7 ad (cM cyI cyZ ad n ((mcV n t md).2) md jd jn wm od bs ab be hh) (some (.int ((mcV n t md).1))) A) args s 0 0 A) (F0 m 4 ls []) := by
    intro k4
    induction k4 with
    | zero =>
      intro i a f hi r4 H locs hW ls hl
      refine lv_iload_n hx hb dX5_become_4 rfl (lv_at hl 0 rfl) ?_
      refine lv_aload_n hx hb dX5_become_5 rfl (lv_at hl 1 rfl) ?_
      refine u_get C hW inlX5 (by decide) cM_0 rfl 0 (by decide) mw_71 rfl dX5_become_6 ?_
      refine lv_icmp_ge (tgt := 108) hx hb dX5_become_9 (by decide) (fun _ => ?_) (fun c9 => absurd (nI_le (by omega) (by omega)) c9)
      refine lv_iload_n hx hb dX5_become_108 rfl (lv_at hl 2 rfl) ?_
      exact u_iret C hr hW dX5_become_109 (by rw [← r4]; rfl) (by rw [← r4]; rfl)
    | succ k4 ih4 =>
      intro i a f hi r4 H locs hW ls hl
      refine lv_iload_n hx hb dX5_become_4 rfl (lv_at hl 0 rfl) ?_
      refine lv_aload_n hx hb dX5_become_5 rfl (lv_at hl 1 rfl) ?_
      refine u_get C hW inlX5 (by decide) cM_0 rfl 0 (by decide) mw_71 rfl dX5_become_6 ?_
      refine lv_icmp_ge (tgt := 108) hx hb dX5_become_9 (by decide) (fun c9 => absurd c9 (nI_ge (by omega) (by omega))) (fun _ => ?_)
      refine lv_iload_n hx hb dX5_become_12 rfl (lv_at hl 0 rfl) ?_
      refine lv_iconst (v := 1) hx hb dX5_become_13 (by decide) ?_
      refine lv_iadd hx hb dX5_become_14 ?_
      refine u_top (show (nI i) + 1 = nI (i + 1) from nI_add i 1) ?_
      refine lv_istore_n (lv' := [(3, .int (nI (i + 1))), (2, .int (nI i)), (0, .ref (ad 0)), (1, .int a)]) hx hb dX5_become_15 rfl hl (by decide) rfl (fun ls hl => ?_)
      have L16 : ∀ (k16 : Nat) (j : Nat) (a : Int32) (f : Nat → Int32), j + k16 = n → lp (mcO n md) (i + 1) k4 (lp (mcI md i) j k16 (a, f)) = mcV n t md → ∀ (H : Heap) (locs : List Loc), Wd D 7 ad (cM cyI cyZ ad n f md jd jn wm od bs ab be hh) A s.heap H locs → ∀ ls : Array Slot, lv_has ls 4 [(3, .int (nI j)), (0, .ref (ad 0)), (1, .int a), (2, .int (nI i))] → W p l e ({ frames := 1, cells := 0, slots := 0, locals := 22 } : Room) s m args below meth c H locs 0 0 (MQ below (uQ D 7 ad (cM cyI cyZ ad n ((mcV n t md).2) md jd jn wm od bs ab be hh) (some (.int ((mcV n t md).1))) A) args s 0 0 A) (F0 m 16 ls []) := by
        intro k16
        induction k16 with
        | zero =>
          intro j a f hj r16 H locs hW ls hl
          refine lv_iload_n hx hb dX5_become_16 rfl (lv_at hl 0 rfl) ?_
          refine lv_aload_n hx hb dX5_become_17 rfl (lv_at hl 1 rfl) ?_
          refine u_get C hW inlX5 (by decide) cM_0 rfl 0 (by decide) mw_71 rfl dX5_become_18 ?_
          refine lv_icmp_ge (tgt := 102) hx hb dX5_become_21 (by decide) (fun _ => ?_) (fun c9 => absurd (nI_le (by omega) (by omega)) c9)
          refine lv_iinc (v := nI (i + 1)) (lv' := [(2, .int (nI (i + 1))), (3, .int (nI j)), (0, .ref (ad 0)), (1, .int a)]) hx hb dX5_become_102 hl (k := 3) rfl (nI_1 _) (by decide) rfl (fun ls hl => ?_)
          refine lv_goto (tgt := 4) hx hb dX5_become_105 (by decide) ?_
          exact ih4  (i + 1) a f (by omega) r16 H locs hW ls (lv_sub hl [0, 2, 3] rfl)
        | succ k16 ih16 =>
          intro j a f hj r16 H locs hW ls hl
          refine lv_iload_n hx hb dX5_become_16 rfl (lv_at hl 0 rfl) ?_
          refine lv_aload_n hx hb dX5_become_17 rfl (lv_at hl 1 rfl) ?_
          refine u_get C hW inlX5 (by decide) cM_0 rfl 0 (by decide) mw_71 rfl dX5_become_18 ?_
          refine lv_icmp_ge (tgt := 102) hx hb dX5_become_21 (by decide) (fun c9 => absurd c9 (nI_ge (by omega) (by omega))) (fun _ => ?_)
          refine lv_iload_n hx hb dX5_become_24 rfl (lv_at hl 2 rfl) ?_
          refine lv_aload_n hx hb dX5_become_25 rfl (lv_at hl 1 rfl) ?_
          refine u_get C hW inlX5 (by decide) cM_0 rfl 3 (by decide) mw_73 rfl dX5_become_26 ?_
          refine lv_bipush (v := 6) hx hb dX5_become_29 (by decide) ?_
          refine lv_iload_n hx hb dX5_become_31 rfl (lv_at hl 3 rfl) ?_
          refine lv_imul hx hb dX5_become_32 ?_
          refine u_top (show 6 * (nI i) = nI (6 * i) from pk_mul 6 i) ?_
          refine lv_iload_n hx hb dX5_become_33 rfl (lv_at hl 0 rfl) ?_
          refine lv_iadd hx hb dX5_become_34 ?_
          refine u_top (show (nI (6 * i)) + (nI j) = nI ((6 * i) + j) from nI_add (6 * i) j) ?_
          refine u_iald C hW (by decide) cM_2 0 rfl ((6 * i) + j) rfl (by omega) (by decide) dX5_become_35 ?_
          refine lv_aload_n hx hb dX5_become_36 rfl (lv_at hl 1 rfl) ?_
          refine lv_iload_n hx hb dX5_become_37 rfl (lv_at hl 3 rfl) ?_
          refine lv_iload_n hx hb dX5_become_38 rfl (lv_at hl 0 rfl) ?_
          refine u_callV (cf' := cM cyI cyZ ad n f md jd jn wm od bs ab be hh) (As := [.int (nI i), .int (nI j)]) (rest := [.int (md ((6 * i) + j)), .int a]) (st1 := [.int (f (6 * i + j)), .int (md ((6 * i) + j)), .int a]) C hW (c_X5_d l D cyI cO cyZ ad fa n f md jd jn wm od bs ab be hh i j (by omega) (by omega)) mv_yX5_d mw_126 rfl ⟨rfl, rfl, Nat.le_of_ble_eq_true rfl, Nat.le_of_ble_eq_true rfl⟩ (by decide) cM_0 rfl rfl hl (Nat.le_of_ble_eq_true rfl) rfl rfl dX5_become_39 (fun H locs hW => ?_)
          refine lv_icmp_ne (tgt := 49) hx hb dX5_become_42 (by decide) (fun c42_1 => ?_) (fun c42_1 => ?_)
          · skip
            refine lv_iconst (v := 1) hx hb dX5_become_49 (by decide) ?_
            refine lv_iadd hx hb dX5_become_50 ?_
            refine lv_istore_n (lv' := [(1, .int (a + 1)), (3, .int (nI j)), (0, .ref (ad 0)), (2, .int (nI i))]) hx hb dX5_become_51 rfl hl (by decide) rfl (fun ls hl => ?_)
            refine lv_aload_n hx hb dX5_become_52 rfl (lv_at hl 2 rfl) ?_
            refine u_get C hW inlX5 (by decide) cM_0 rfl 1 (by decide) mw_72 rfl dX5_become_53 ?_
            refine lv_bipush (v := 6) hx hb dX5_become_56 (by decide) ?_
            refine lv_iload_n hx hb dX5_become_58 rfl (lv_at hl 3 rfl) ?_
            refine lv_imul hx hb dX5_become_59 ?_
            refine u_top (show 6 * (nI i) = nI (6 * i) from pk_mul 6 i) ?_
            refine lv_iload_n hx hb dX5_become_60 rfl (lv_at hl 1 rfl) ?_
            refine lv_iadd hx hb dX5_become_61 ?_
            refine u_top (show (nI (6 * i)) + (nI j) = nI ((6 * i) + j) from nI_add (6 * i) j) ?_
            refine lv_aload_n hx hb dX5_become_62 rfl (lv_at hl 2 rfl) ?_
            refine u_get C hW inlX5 (by decide) cM_0 rfl 3 (by decide) mw_73 rfl dX5_become_63 ?_
            refine lv_bipush (v := 6) hx hb dX5_become_66 (by decide) ?_
            refine lv_iload_n hx hb dX5_become_68 rfl (lv_at hl 3 rfl) ?_
            refine lv_imul hx hb dX5_become_69 ?_
            refine u_top (show 6 * (nI i) = nI (6 * i) from pk_mul 6 i) ?_
            refine lv_iload_n hx hb dX5_become_70 rfl (lv_at hl 1 rfl) ?_
            refine lv_iadd hx hb dX5_become_71 ?_
            refine u_top (show (nI (6 * i)) + (nI j) = nI ((6 * i) + j) from nI_add (6 * i) j) ?_
            refine u_iald C hW (by decide) cM_2 0 rfl ((6 * i) + j) rfl (by omega) (by decide) dX5_become_72 ?_
            refine u_iast (cf' := cM cyI cyZ ad n (upd f ((6 * i) + j) (md ((6 * i) + j))) md jd jn wm od bs ab be hh) C hW (by decide) cM_1 0 rfl ((6 * i) + j) rfl (by omega) (by decide) cM_s1 dX5_become_73 (fun H locs hW => ?_)
            refine lv_aload_n hx hb dX5_become_74 rfl (lv_at hl 2 rfl) ?_
            refine u_get C hW inlX5 (by decide) cM_0 rfl 1 (by decide) mw_72 rfl dX5_become_75 ?_
            refine lv_bipush (v := 6) hx hb dX5_become_78 (by decide) ?_
            refine lv_iload_n hx hb dX5_become_80 rfl (lv_at hl 1 rfl) ?_
            refine lv_imul hx hb dX5_become_81 ?_
            refine u_top (show 6 * (nI j) = nI (6 * j) from pk_mul 6 j) ?_
            refine lv_iload_n hx hb dX5_become_82 rfl (lv_at hl 3 rfl) ?_
            refine lv_iadd hx hb dX5_become_83 ?_
            refine u_top (show (nI (6 * j)) + (nI i) = nI ((6 * j) + i) from nI_add (6 * j) i) ?_
            refine lv_aload_n hx hb dX5_become_84 rfl (lv_at hl 2 rfl) ?_
            refine u_get C hW inlX5 (by decide) cM_0 rfl 3 (by decide) mw_73 rfl dX5_become_85 ?_
            refine lv_bipush (v := 6) hx hb dX5_become_88 (by decide) ?_
            refine lv_iload_n hx hb dX5_become_90 rfl (lv_at hl 3 rfl) ?_
            refine lv_imul hx hb dX5_become_91 ?_
            refine u_top (show 6 * (nI i) = nI (6 * i) from pk_mul 6 i) ?_
            refine lv_iload_n hx hb dX5_become_92 rfl (lv_at hl 1 rfl) ?_
            refine lv_iadd hx hb dX5_become_93 ?_
            refine u_top (show (nI (6 * i)) + (nI j) = nI ((6 * i) + j) from nI_add (6 * i) j) ?_
            refine u_iald C hW (by decide) cM_2 0 rfl ((6 * i) + j) rfl (by omega) (by decide) dX5_become_94 ?_
            refine u_iast (cf' := cM cyI cyZ ad n (upd (upd f ((6 * i) + j) (md ((6 * i) + j))) ((6 * j) + i) (md ((6 * i) + j))) md jd jn wm od bs ab be hh) C hW (by decide) cM_1 0 rfl ((6 * j) + i) rfl (by omega) (by decide) cM_s1 dX5_become_95 (fun H locs hW => ?_)
            refine lv_iinc (v := nI (j + 1)) (lv' := [(3, .int (nI (j + 1))), (1, .int (a + 1)), (0, .ref (ad 0)), (2, .int (nI i))]) hx hb dX5_become_96 hl (k := 1) rfl (nI_1 _) (by decide) rfl (fun ls hl => ?_)
            refine lv_goto (tgt := 16) hx hb dX5_become_99 (by decide) ?_
            exact ih16  (j + 1) (a + 1) (upd (upd f ((6 * i) + j) (md ((6 * i) + j))) ((6 * j) + i) (md ((6 * i) + j))) (by omega) (by have h9 := r16; simp only [lp_s, lp_0, mcI, if_neg c42_1] at h9; exact h9) H locs hW ls (lv_sub hl [0, 2, 1, 3] rfl)
          · skip
            refine lv_iconst (v := 0) hx hb dX5_become_45 (by decide) ?_
            refine lv_goto (tgt := 50) hx hb dX5_become_46 (by decide) ?_
            refine lv_iadd hx hb dX5_become_50 ?_
            refine lv_istore_n (lv' := [(1, .int (a + 0)), (3, .int (nI j)), (0, .ref (ad 0)), (2, .int (nI i))]) hx hb dX5_become_51 rfl hl (by decide) rfl (fun ls hl => ?_)
            refine lv_aload_n hx hb dX5_become_52 rfl (lv_at hl 2 rfl) ?_
            refine u_get C hW inlX5 (by decide) cM_0 rfl 1 (by decide) mw_72 rfl dX5_become_53 ?_
            refine lv_bipush (v := 6) hx hb dX5_become_56 (by decide) ?_
            refine lv_iload_n hx hb dX5_become_58 rfl (lv_at hl 3 rfl) ?_
            refine lv_imul hx hb dX5_become_59 ?_
            refine u_top (show 6 * (nI i) = nI (6 * i) from pk_mul 6 i) ?_
            refine lv_iload_n hx hb dX5_become_60 rfl (lv_at hl 1 rfl) ?_
            refine lv_iadd hx hb dX5_become_61 ?_
            refine u_top (show (nI (6 * i)) + (nI j) = nI ((6 * i) + j) from nI_add (6 * i) j) ?_
            refine lv_aload_n hx hb dX5_become_62 rfl (lv_at hl 2 rfl) ?_
            refine u_get C hW inlX5 (by decide) cM_0 rfl 3 (by decide) mw_73 rfl dX5_become_63 ?_
            refine lv_bipush (v := 6) hx hb dX5_become_66 (by decide) ?_
            refine lv_iload_n hx hb dX5_become_68 rfl (lv_at hl 3 rfl) ?_
            refine lv_imul hx hb dX5_become_69 ?_
            refine u_top (show 6 * (nI i) = nI (6 * i) from pk_mul 6 i) ?_
            refine lv_iload_n hx hb dX5_become_70 rfl (lv_at hl 1 rfl) ?_
            refine lv_iadd hx hb dX5_become_71 ?_
            refine u_top (show (nI (6 * i)) + (nI j) = nI ((6 * i) + j) from nI_add (6 * i) j) ?_
            refine u_iald C hW (by decide) cM_2 0 rfl ((6 * i) + j) rfl (by omega) (by decide) dX5_become_72 ?_
            refine u_iast (cf' := cM cyI cyZ ad n (upd f ((6 * i) + j) (md ((6 * i) + j))) md jd jn wm od bs ab be hh) C hW (by decide) cM_1 0 rfl ((6 * i) + j) rfl (by omega) (by decide) cM_s1 dX5_become_73 (fun H locs hW => ?_)
            refine lv_aload_n hx hb dX5_become_74 rfl (lv_at hl 2 rfl) ?_
            refine u_get C hW inlX5 (by decide) cM_0 rfl 1 (by decide) mw_72 rfl dX5_become_75 ?_
            refine lv_bipush (v := 6) hx hb dX5_become_78 (by decide) ?_
            refine lv_iload_n hx hb dX5_become_80 rfl (lv_at hl 1 rfl) ?_
            refine lv_imul hx hb dX5_become_81 ?_
            refine u_top (show 6 * (nI j) = nI (6 * j) from pk_mul 6 j) ?_
            refine lv_iload_n hx hb dX5_become_82 rfl (lv_at hl 3 rfl) ?_
            refine lv_iadd hx hb dX5_become_83 ?_
            refine u_top (show (nI (6 * j)) + (nI i) = nI ((6 * j) + i) from nI_add (6 * j) i) ?_
            refine lv_aload_n hx hb dX5_become_84 rfl (lv_at hl 2 rfl) ?_
            refine u_get C hW inlX5 (by decide) cM_0 rfl 3 (by decide) mw_73 rfl dX5_become_85 ?_
            refine lv_bipush (v := 6) hx hb dX5_become_88 (by decide) ?_
            refine lv_iload_n hx hb dX5_become_90 rfl (lv_at hl 3 rfl) ?_
            refine lv_imul hx hb dX5_become_91 ?_
            refine u_top (show 6 * (nI i) = nI (6 * i) from pk_mul 6 i) ?_
            refine lv_iload_n hx hb dX5_become_92 rfl (lv_at hl 1 rfl) ?_
            refine lv_iadd hx hb dX5_become_93 ?_
            refine u_top (show (nI (6 * i)) + (nI j) = nI ((6 * i) + j) from nI_add (6 * i) j) ?_
            refine u_iald C hW (by decide) cM_2 0 rfl ((6 * i) + j) rfl (by omega) (by decide) dX5_become_94 ?_
            refine u_iast (cf' := cM cyI cyZ ad n (upd (upd f ((6 * i) + j) (md ((6 * i) + j))) ((6 * j) + i) (md ((6 * i) + j))) md jd jn wm od bs ab be hh) C hW (by decide) cM_1 0 rfl ((6 * j) + i) rfl (by omega) (by decide) cM_s1 dX5_become_95 (fun H locs hW => ?_)
            refine lv_iinc (v := nI (j + 1)) (lv' := [(3, .int (nI (j + 1))), (1, .int (a + 0)), (0, .ref (ad 0)), (2, .int (nI i))]) hx hb dX5_become_96 hl (k := 1) rfl (nI_1 _) (by decide) rfl (fun ls hl => ?_)
            refine lv_goto (tgt := 16) hx hb dX5_become_99 (by decide) ?_
            exact ih16  (j + 1) (a + 0) (upd (upd f ((6 * i) + j) (md ((6 * i) + j))) ((6 * j) + i) (md ((6 * i) + j))) (by omega) (by have h9 := r16; simp only [lp_s, lp_0, mcI, if_pos c42_1] at h9; exact h9) H locs hW ls (lv_sub hl [0, 2, 1, 3] rfl)
      exact L16 (n - (i + 1)) (i + 1) a f (by omega) r4 H locs hW ls (lv_sub hl [0, 2, 3, 1] rfl)
  exact L4 n 0 0 t (by omega) rfl H locs hW ls (lv_sub hl [0, 2, 1] rfl)
set_option maxHeartbeats 4000000 in
set_option maxRecDepth 100000 in
theorem c_X5_make (l : Launch) (D : va_G) (cyI cO cyZ : ClassId) (ad : Nat → Nat) (fa : Nat) (n : Nat) (t md jd jn wm od : Nat → Int32) (bs : Int32) (ab be hh : Int64) (z : Int32) (hn : n ≤ 6) : Ct l yX5_make (Cond.code yX5_make cX5_make 6 none :: wsL_law) ({ frames := 1, cells := 0, slots := 0, locals := 21 } : Room) D (ty3 cyI cO cyZ) 7 ad fa [.ref (ad 0), .int z] (cM cyI cyZ ad n t md jd jn wm od bs ab be hh) (cM cyI cyZ ad n t (mkV n t md z) jd jn wm od bs ab be hh) (none) := by
  refine Ct.of (by decide) (Nat.le_of_ble_eq_true rfl) ?_
  intro p e s m args below meth c A C hr H locs hW ls hl
  have C : Cx p s m args meth c cX5_make 6 RX5 D (ty3 cyI cO cyZ) fa A := C
  have hx := C.1
  have hb := C.2.1
  have hl : lv_has ls 6 [(0, .ref (ad 0)), (1, .int z)] := hl
  refine lv_iconst (v := 0) hx hb dX5_make_0 (by decide) ?_
  refine lv_istore_n (lv' := [(2, .int 0), (0, .ref (ad 0)), (1, .int z)]) hx hb dX5_make_1 rfl hl (by decide) rfl (fun ls hl => ?_)
  have L2 : ∀ (k2 : Nat) (q : Nat) (f : Nat → Int32), q + k2 = 36 → lp (fun m k => upd m k (t k)) q k2 f = mkC t md → ∀ (H : Heap) (locs : List Loc), Wd D 7 ad (cM cyI cyZ ad n t f jd jn wm od bs ab be hh) A s.heap H locs → ∀ ls : Array Slot, lv_has ls 6 [(2, .int (nI q)), (0, .ref (ad 0)), (1, .int z)] → W p l e ({ frames := 1, cells := 0, slots := 0, locals := 21 } : Room) s m args below meth c H locs 0 0 (MQ below (uQ D 7 ad (cM cyI cyZ ad n t (mkV n t md z) jd jn wm od bs ab be hh) (none) A) args s 0 0 A) (F0 m 2 ls []) := by
    intro k2
    induction k2 with
    | zero =>
      intro q f hq r2 H locs hW ls hl
      refine lv_iload_n hx hb dX5_make_2 rfl (lv_at hl 0 rfl) ?_
      refine lv_bipush (v := 36) hx hb dX5_make_3 (by decide) ?_
      refine lv_icmp_ge (tgt := 26) hx hb dX5_make_5 (by decide) (fun _ => ?_) (fun c9 => absurd (show nI 36 ≤ nI q from nI_le (by omega) (by omega)) c9)
      refine lv_iconst (v := 0) hx hb dX5_make_26 (by decide) ?_
      refine lv_istore_n (lv' := [(2, .int 0), (0, .ref (ad 0)), (1, .int z)]) hx hb dX5_make_27 rfl hl (by decide) rfl (fun ls hl => ?_)
      have L28 : ∀ (k28 : Nat) (k : Nat) (f : Nat → Int32), k + k28 = n → lp (mkK n z) k k28 f = mkV n t md z → ∀ (H : Heap) (locs : List Loc), Wd D 7 ad (cM cyI cyZ ad n t f jd jn wm od bs ab be hh) A s.heap H locs → ∀ ls : Array Slot, lv_has ls 6 [(2, .int (nI k)), (0, .ref (ad 0)), (1, .int z)] → W p l e ({ frames := 1, cells := 0, slots := 0, locals := 21 } : Room) s m args below meth c H locs 0 0 (MQ below (uQ D 7 ad (cM cyI cyZ ad n t (mkV n t md z) jd jn wm od bs ab be hh) (none) A) args s 0 0 A) (F0 m 28 ls []) := by
        intro k28
        induction k28 with
        | zero =>
          intro k f hk r28 H locs hW ls hl
          refine lv_iload_n hx hb dX5_make_28 rfl (lv_at hl 0 rfl) ?_
          refine lv_aload_n hx hb dX5_make_29 rfl (lv_at hl 1 rfl) ?_
          refine u_get C hW inlX5 (by decide) cM_0 rfl 0 (by decide) mw_71 rfl dX5_make_30 ?_
          refine lv_icmp_ge (tgt := 181) hx hb dX5_make_33 (by decide) (fun _ => ?_) (fun c9 => absurd (nI_le (by omega) (by omega)) c9)
          exact u_vret C hr hW dX5_make_181 (by rw [← r28]; rfl)
        | succ k28 ih28 =>
          intro k f hk r28 H locs hW ls hl
          refine lv_iload_n hx hb dX5_make_28 rfl (lv_at hl 0 rfl) ?_
          refine lv_aload_n hx hb dX5_make_29 rfl (lv_at hl 1 rfl) ?_
          refine u_get C hW inlX5 (by decide) cM_0 rfl 0 (by decide) mw_71 rfl dX5_make_30 ?_
          refine lv_icmp_ge (tgt := 181) hx hb dX5_make_33 (by decide) (fun c9 => absurd c9 (nI_ge (by omega) (by omega))) (fun _ => ?_)
          refine lv_iconst (v := 0) hx hb dX5_make_36 (by decide) ?_
          refine lv_istore_n (lv' := [(3, .int 0), (2, .int (nI k)), (0, .ref (ad 0)), (1, .int z)]) hx hb dX5_make_37 rfl hl (by decide) rfl (fun ls hl => ?_)
          have L38 : ∀ (k38 : Nat) (i : Nat) (f : Nat → Int32), i + k38 = n → lp (mkK n z) (k + 1) k28 (lp (mkI n z k) i k38 f) = mkV n t md z → ∀ (H : Heap) (locs : List Loc), Wd D 7 ad (cM cyI cyZ ad n t f jd jn wm od bs ab be hh) A s.heap H locs → ∀ ls : Array Slot, lv_has ls 6 [(3, .int (nI i)), (0, .ref (ad 0)), (1, .int z), (2, .int (nI k))] → W p l e ({ frames := 1, cells := 0, slots := 0, locals := 21 } : Room) s m args below meth c H locs 0 0 (MQ below (uQ D 7 ad (cM cyI cyZ ad n t (mkV n t md z) jd jn wm od bs ab be hh) (none) A) args s 0 0 A) (F0 m 38 ls []) := by
            intro k38
            induction k38 with
            | zero =>
              intro i f hi r38 H locs hW ls hl
              refine lv_iload_n hx hb dX5_make_38 rfl (lv_at hl 0 rfl) ?_
              refine lv_aload_n hx hb dX5_make_39 rfl (lv_at hl 1 rfl) ?_
              refine u_get C hW inlX5 (by decide) cM_0 rfl 0 (by decide) mw_71 rfl dX5_make_40 ?_
              refine lv_icmp_ge (tgt := 175) hx hb dX5_make_43 (by decide) (fun _ => ?_) (fun c9 => absurd (nI_le (by omega) (by omega)) c9)
              refine lv_iinc (v := nI (k + 1)) (lv' := [(2, .int (nI (k + 1))), (3, .int (nI i)), (0, .ref (ad 0)), (1, .int z)]) hx hb dX5_make_175 hl (k := 3) rfl (nI_1 _) (by decide) rfl (fun ls hl => ?_)
              refine lv_goto (tgt := 28) hx hb dX5_make_178 (by decide) ?_
              exact ih28  (k + 1) f (by omega) r38 H locs hW ls (lv_sub hl [0, 2, 3] rfl)
            | succ k38 ih38 =>
              intro i f hi r38 H locs hW ls hl
              refine lv_iload_n hx hb dX5_make_38 rfl (lv_at hl 0 rfl) ?_
              refine lv_aload_n hx hb dX5_make_39 rfl (lv_at hl 1 rfl) ?_
              refine u_get C hW inlX5 (by decide) cM_0 rfl 0 (by decide) mw_71 rfl dX5_make_40 ?_
              refine lv_icmp_ge (tgt := 175) hx hb dX5_make_43 (by decide) (fun c9 => absurd c9 (nI_ge (by omega) (by omega))) (fun _ => ?_)
              refine lv_iconst (v := 0) hx hb dX5_make_46 (by decide) ?_
              refine lv_istore (lv' := [(4, .int 0), (3, .int (nI i)), (0, .ref (ad 0)), (1, .int z), (2, .int (nI k))]) hx hb dX5_make_47 hl (by decide) rfl (fun ls hl => ?_)
              have L49 : ∀ (k49 : Nat) (j : Nat) (f : Nat → Int32), j + k49 = n → lp (mkK n z) (k + 1) k28 (lp (mkI n z k) (i + 1) k38 (lp (mkJ z k i) j k49 f)) = mkV n t md z → ∀ (H : Heap) (locs : List Loc), Wd D 7 ad (cM cyI cyZ ad n t f jd jn wm od bs ab be hh) A s.heap H locs → ∀ ls : Array Slot, lv_has ls 6 [(4, .int (nI j)), (0, .ref (ad 0)), (1, .int z), (2, .int (nI k)), (3, .int (nI i))] → W p l e ({ frames := 1, cells := 0, slots := 0, locals := 21 } : Room) s m args below meth c H locs 0 0 (MQ below (uQ D 7 ad (cM cyI cyZ ad n t (mkV n t md z) jd jn wm od bs ab be hh) (none) A) args s 0 0 A) (F0 m 49 ls []) := by
                intro k49
                induction k49 with
                | zero =>
                  intro j f hj r49 H locs hW ls hl
                  refine lv_iload hx hb dX5_make_49 (lv_at hl 0 rfl) ?_
                  refine lv_aload_n hx hb dX5_make_51 rfl (lv_at hl 1 rfl) ?_
                  refine u_get C hW inlX5 (by decide) cM_0 rfl 0 (by decide) mw_71 rfl dX5_make_52 ?_
                  refine lv_icmp_ge (tgt := 169) hx hb dX5_make_55 (by decide) (fun _ => ?_) (fun c9 => absurd (nI_le (by omega) (by omega)) c9)
                  refine lv_iinc (v := nI (i + 1)) (lv' := [(3, .int (nI (i + 1))), (4, .int (nI j)), (0, .ref (ad 0)), (1, .int z), (2, .int (nI k))]) hx hb dX5_make_169 hl (k := 4) rfl (nI_1 _) (by decide) rfl (fun ls hl => ?_)
                  refine lv_goto (tgt := 38) hx hb dX5_make_172 (by decide) ?_
                  exact ih38  (i + 1) f (by omega) r49 H locs hW ls (lv_sub hl [0, 2, 3, 4] rfl)
                | succ k49 ih49 =>
                  intro j f hj r49 H locs hW ls hl
                  refine lv_iload hx hb dX5_make_49 (lv_at hl 0 rfl) ?_
                  refine lv_aload_n hx hb dX5_make_51 rfl (lv_at hl 1 rfl) ?_
                  refine u_get C hW inlX5 (by decide) cM_0 rfl 0 (by decide) mw_71 rfl dX5_make_52 ?_
                  refine lv_icmp_ge (tgt := 169) hx hb dX5_make_55 (by decide) (fun c9 => absurd c9 (nI_ge (by omega) (by omega))) (fun _ => ?_)
                  refine lv_iload_n hx hb dX5_make_58 rfl (lv_at hl 2 rfl) ?_
                  refine lv_if_eq (tgt := 89) hx hb dX5_make_59 (by decide) (fun c59_1 => ?_) (fun c59_1 => ?_)
                  · skip
                    refine lv_aload_n hx hb dX5_make_89 rfl (lv_at hl 1 rfl) ?_
                    refine u_get C hW inlX5 (by decide) cM_0 rfl 3 (by decide) mw_73 rfl dX5_make_90 ?_
                    refine lv_bipush (v := 6) hx hb dX5_make_93 (by decide) ?_
                    refine lv_iload_n hx hb dX5_make_95 rfl (lv_at hl 4 rfl) ?_
                    refine lv_imul hx hb dX5_make_96 ?_
                    refine u_top (show 6 * (nI i) = nI (6 * i) from pk_mul 6 i) ?_
                    refine lv_iload_n hx hb dX5_make_97 rfl (lv_at hl 3 rfl) ?_
                    refine lv_iadd hx hb dX5_make_98 ?_
                    refine u_top (show (nI (6 * i)) + (nI k) = nI ((6 * i) + k) from nI_add (6 * i) k) ?_
                    refine u_iald C hW (by decide) cM_2 0 rfl ((6 * i) + k) rfl (by omega) (by decide) dX5_make_99 ?_
                    refine lv_aload_n hx hb dX5_make_100 rfl (lv_at hl 1 rfl) ?_
                    refine u_get C hW inlX5 (by decide) cM_0 rfl 3 (by decide) mw_73 rfl dX5_make_101 ?_
                    refine lv_bipush (v := 6) hx hb dX5_make_104 (by decide) ?_
                    refine lv_iload_n hx hb dX5_make_106 rfl (lv_at hl 3 rfl) ?_
                    refine lv_imul hx hb dX5_make_107 ?_
                    refine u_top (show 6 * (nI k) = nI (6 * k) from pk_mul 6 k) ?_
                    refine lv_iload hx hb dX5_make_108 (lv_at hl 0 rfl) ?_
                    refine lv_iadd hx hb dX5_make_110 ?_
                    refine u_top (show (nI (6 * k)) + (nI j) = nI ((6 * k) + j) from nI_add (6 * k) j) ?_
                    refine u_iald C hW (by decide) cM_2 0 rfl ((6 * k) + j) rfl (by omega) (by decide) dX5_make_111 ?_
                    refine u_callS (cf' := cM cyI cyZ ad n t f jd jn wm od bs ab be hh) (As := [.int (f ((6 * i) + k)), .int (f ((6 * k) + j))]) (rest := []) (st1 := [.int (grt (f ((6 * i) + k)) (f ((6 * k) + j)))]) C hW (c_X5_greater l D cyI cO cyZ ad fa n t f jd jn wm od bs ab be hh (f ((6 * i) + k)) (f ((6 * k) + j)) ) ms_yX5_greater mw_175 rfl ⟨rfl, rfl, Nat.le_of_ble_eq_true rfl, Nat.le_of_ble_eq_true rfl⟩ hl (Nat.le_of_ble_eq_true rfl) rfl rfl dX5_make_112 (fun H locs hW => ?_)
                    refine lv_istore (lv' := [(5, .int (grt (f ((6 * i) + k)) (f ((6 * k) + j)))), (4, .int (nI j)), (0, .ref (ad 0)), (1, .int z), (2, .int (nI k)), (3, .int (nI i))]) hx hb dX5_make_115 hl (by decide) rfl (fun ls hl => ?_)
                    refine lv_aload_n hx hb dX5_make_117 rfl (lv_at hl 2 rfl) ?_
                    refine u_get C hW inlX5 (by decide) cM_0 rfl 3 (by decide) mw_73 rfl dX5_make_118 ?_
                    refine lv_bipush (v := 6) hx hb dX5_make_121 (by decide) ?_
                    refine lv_iload_n hx hb dX5_make_123 rfl (lv_at hl 5 rfl) ?_
                    refine lv_imul hx hb dX5_make_124 ?_
                    refine u_top (show 6 * (nI i) = nI (6 * i) from pk_mul 6 i) ?_
                    refine lv_iload hx hb dX5_make_125 (lv_at hl 1 rfl) ?_
                    refine lv_iadd hx hb dX5_make_127 ?_
                    refine u_top (show (nI (6 * i)) + (nI j) = nI ((6 * i) + j) from nI_add (6 * i) j) ?_
                    refine lv_iload hx hb dX5_make_128 (lv_at hl 0 rfl) ?_
                    refine lv_aload_n hx hb dX5_make_130 rfl (lv_at hl 2 rfl) ?_
                    refine u_get C hW inlX5 (by decide) cM_0 rfl 3 (by decide) mw_73 rfl dX5_make_131 ?_
                    refine lv_bipush (v := 6) hx hb dX5_make_134 (by decide) ?_
                    refine lv_iload_n hx hb dX5_make_136 rfl (lv_at hl 5 rfl) ?_
                    refine lv_imul hx hb dX5_make_137 ?_
                    refine u_top (show 6 * (nI i) = nI (6 * i) from pk_mul 6 i) ?_
                    refine lv_iload hx hb dX5_make_138 (lv_at hl 1 rfl) ?_
                    refine lv_iadd hx hb dX5_make_140 ?_
                    refine u_top (show (nI (6 * i)) + (nI j) = nI ((6 * i) + j) from nI_add (6 * i) j) ?_
                    refine u_iald C hW (by decide) cM_2 0 rfl ((6 * i) + j) rfl (by omega) (by decide) dX5_make_141 ?_
                    refine lv_icmp_ge (tgt := 150) hx hb dX5_make_142 (by decide) (fun c142_2 => ?_) (fun c142_2 => ?_)
                    · skip
                      refine lv_aload_n hx hb dX5_make_150 rfl (lv_at hl 2 rfl) ?_
                      refine u_get C hW inlX5 (by decide) cM_0 rfl 3 (by decide) mw_73 rfl dX5_make_151 ?_
                      refine lv_bipush (v := 6) hx hb dX5_make_154 (by decide) ?_
                      refine lv_iload_n hx hb dX5_make_156 rfl (lv_at hl 5 rfl) ?_
                      refine lv_imul hx hb dX5_make_157 ?_
                      refine u_top (show 6 * (nI i) = nI (6 * i) from pk_mul 6 i) ?_
                      refine lv_iload hx hb dX5_make_158 (lv_at hl 1 rfl) ?_
                      refine lv_iadd hx hb dX5_make_160 ?_
                      refine u_top (show (nI (6 * i)) + (nI j) = nI ((6 * i) + j) from nI_add (6 * i) j) ?_
                      refine u_iald C hW (by decide) cM_2 0 rfl ((6 * i) + j) rfl (by omega) (by decide) dX5_make_161 ?_
                      refine u_iast (cf' := cM cyI cyZ ad n t (upd f ((6 * i) + j) (f ((6 * i) + j))) jd jn wm od bs ab be hh) C hW (by decide) cM_2 0 rfl ((6 * i) + j) rfl (by omega) (by decide) cM_s2 dX5_make_162 (fun H locs hW => ?_)
                      refine lv_iinc (v := nI (j + 1)) (lv' := [(4, .int (nI (j + 1))), (5, .int (grt (f ((6 * i) + k)) (f ((6 * k) + j)))), (0, .ref (ad 0)), (1, .int z), (2, .int (nI k)), (3, .int (nI i))]) hx hb dX5_make_163 hl (k := 1) rfl (nI_1 _) (by decide) rfl (fun ls hl => ?_)
                      refine lv_goto (tgt := 49) hx hb dX5_make_166 (by decide) ?_
                      exact ih49  (j + 1) (upd f ((6 * i) + j) (f ((6 * i) + j))) (by omega) (by have h9 := r49; simp only [lp_s, lp_0, mkJ, if_pos c59_1, if_pos c142_2] at h9; exact h9) H locs hW ls (lv_sub hl [0, 2, 3, 4, 5] rfl)
                    · skip
                      refine lv_iload hx hb dX5_make_145 (lv_at hl 0 rfl) ?_
                      refine lv_goto (tgt := 162) hx hb dX5_make_147 (by decide) ?_
                      refine u_iast (cf' := cM cyI cyZ ad n t (upd f ((6 * i) + j) (grt (f ((6 * i) + k)) (f ((6 * k) + j)))) jd jn wm od bs ab be hh) C hW (by decide) cM_2 0 rfl ((6 * i) + j) rfl (by omega) (by decide) cM_s2 dX5_make_162 (fun H locs hW => ?_)
                      refine lv_iinc (v := nI (j + 1)) (lv' := [(4, .int (nI (j + 1))), (5, .int (grt (f ((6 * i) + k)) (f ((6 * k) + j)))), (0, .ref (ad 0)), (1, .int z), (2, .int (nI k)), (3, .int (nI i))]) hx hb dX5_make_163 hl (k := 1) rfl (nI_1 _) (by decide) rfl (fun ls hl => ?_)
                      refine lv_goto (tgt := 49) hx hb dX5_make_166 (by decide) ?_
                      exact ih49  (j + 1) (upd f ((6 * i) + j) (grt (f ((6 * i) + k)) (f ((6 * k) + j)))) (by omega) (by have h9 := r49; simp only [lp_s, lp_0, mkJ, if_pos c59_1, if_neg c142_2] at h9; exact h9) H locs hW ls (lv_sub hl [0, 2, 3, 4, 5] rfl)
                  · skip
                    refine lv_aload_n hx hb dX5_make_62 rfl (lv_at hl 1 rfl) ?_
                    refine u_get C hW inlX5 (by decide) cM_0 rfl 3 (by decide) mw_73 rfl dX5_make_63 ?_
                    refine lv_bipush (v := 6) hx hb dX5_make_66 (by decide) ?_
                    refine lv_iload_n hx hb dX5_make_68 rfl (lv_at hl 4 rfl) ?_
                    refine lv_imul hx hb dX5_make_69 ?_
                    refine u_top (show 6 * (nI i) = nI (6 * i) from pk_mul 6 i) ?_
                    refine lv_iload_n hx hb dX5_make_70 rfl (lv_at hl 3 rfl) ?_
                    refine lv_iadd hx hb dX5_make_71 ?_
                    refine u_top (show (nI (6 * i)) + (nI k) = nI ((6 * i) + k) from nI_add (6 * i) k) ?_
                    refine u_iald C hW (by decide) cM_2 0 rfl ((6 * i) + k) rfl (by omega) (by decide) dX5_make_72 ?_
                    refine lv_aload_n hx hb dX5_make_73 rfl (lv_at hl 1 rfl) ?_
                    refine u_get C hW inlX5 (by decide) cM_0 rfl 3 (by decide) mw_73 rfl dX5_make_74 ?_
                    refine lv_bipush (v := 6) hx hb dX5_make_77 (by decide) ?_
                    refine lv_iload_n hx hb dX5_make_79 rfl (lv_at hl 3 rfl) ?_
                    refine lv_imul hx hb dX5_make_80 ?_
                    refine u_top (show 6 * (nI k) = nI (6 * k) from pk_mul 6 k) ?_
                    refine lv_iload hx hb dX5_make_81 (lv_at hl 0 rfl) ?_
                    refine lv_iadd hx hb dX5_make_83 ?_
                    refine u_top (show (nI (6 * k)) + (nI j) = nI ((6 * k) + j) from nI_add (6 * k) j) ?_
                    refine u_iald C hW (by decide) cM_2 0 rfl ((6 * k) + j) rfl (by omega) (by decide) dX5_make_84 ?_
                    refine lv_iadd hx hb dX5_make_85 ?_
                    refine lv_goto (tgt := 115) hx hb dX5_make_86 (by decide) ?_
                    refine lv_istore (lv' := [(5, .int ((f ((6 * i) + k)) + (f ((6 * k) + j)))), (4, .int (nI j)), (0, .ref (ad 0)), (1, .int z), (2, .int (nI k)), (3, .int (nI i))]) hx hb dX5_make_115 hl (by decide) rfl (fun ls hl => ?_)
                    refine lv_aload_n hx hb dX5_make_117 rfl (lv_at hl 2 rfl) ?_
                    refine u_get C hW inlX5 (by decide) cM_0 rfl 3 (by decide) mw_73 rfl dX5_make_118 ?_
                    refine lv_bipush (v := 6) hx hb dX5_make_121 (by decide) ?_
                    refine lv_iload_n hx hb dX5_make_123 rfl (lv_at hl 5 rfl) ?_
                    refine lv_imul hx hb dX5_make_124 ?_
                    refine u_top (show 6 * (nI i) = nI (6 * i) from pk_mul 6 i) ?_
                    refine lv_iload hx hb dX5_make_125 (lv_at hl 1 rfl) ?_
                    refine lv_iadd hx hb dX5_make_127 ?_
                    refine u_top (show (nI (6 * i)) + (nI j) = nI ((6 * i) + j) from nI_add (6 * i) j) ?_
                    refine lv_iload hx hb dX5_make_128 (lv_at hl 0 rfl) ?_
                    refine lv_aload_n hx hb dX5_make_130 rfl (lv_at hl 2 rfl) ?_
                    refine u_get C hW inlX5 (by decide) cM_0 rfl 3 (by decide) mw_73 rfl dX5_make_131 ?_
                    refine lv_bipush (v := 6) hx hb dX5_make_134 (by decide) ?_
                    refine lv_iload_n hx hb dX5_make_136 rfl (lv_at hl 5 rfl) ?_
                    refine lv_imul hx hb dX5_make_137 ?_
                    refine u_top (show 6 * (nI i) = nI (6 * i) from pk_mul 6 i) ?_
                    refine lv_iload hx hb dX5_make_138 (lv_at hl 1 rfl) ?_
                    refine lv_iadd hx hb dX5_make_140 ?_
                    refine u_top (show (nI (6 * i)) + (nI j) = nI ((6 * i) + j) from nI_add (6 * i) j) ?_
                    refine u_iald C hW (by decide) cM_2 0 rfl ((6 * i) + j) rfl (by omega) (by decide) dX5_make_141 ?_
                    refine lv_icmp_ge (tgt := 150) hx hb dX5_make_142 (by decide) (fun c142_3 => ?_) (fun c142_3 => ?_)
                    · skip
                      refine lv_aload_n hx hb dX5_make_150 rfl (lv_at hl 2 rfl) ?_
                      refine u_get C hW inlX5 (by decide) cM_0 rfl 3 (by decide) mw_73 rfl dX5_make_151 ?_
                      refine lv_bipush (v := 6) hx hb dX5_make_154 (by decide) ?_
                      refine lv_iload_n hx hb dX5_make_156 rfl (lv_at hl 5 rfl) ?_
                      refine lv_imul hx hb dX5_make_157 ?_
                      refine u_top (show 6 * (nI i) = nI (6 * i) from pk_mul 6 i) ?_
                      refine lv_iload hx hb dX5_make_158 (lv_at hl 1 rfl) ?_
                      refine lv_iadd hx hb dX5_make_160 ?_
                      refine u_top (show (nI (6 * i)) + (nI j) = nI ((6 * i) + j) from nI_add (6 * i) j) ?_
                      refine u_iald C hW (by decide) cM_2 0 rfl ((6 * i) + j) rfl (by omega) (by decide) dX5_make_161 ?_
                      refine u_iast (cf' := cM cyI cyZ ad n t (upd f ((6 * i) + j) (f ((6 * i) + j))) jd jn wm od bs ab be hh) C hW (by decide) cM_2 0 rfl ((6 * i) + j) rfl (by omega) (by decide) cM_s2 dX5_make_162 (fun H locs hW => ?_)
                      refine lv_iinc (v := nI (j + 1)) (lv' := [(4, .int (nI (j + 1))), (5, .int ((f ((6 * i) + k)) + (f ((6 * k) + j)))), (0, .ref (ad 0)), (1, .int z), (2, .int (nI k)), (3, .int (nI i))]) hx hb dX5_make_163 hl (k := 1) rfl (nI_1 _) (by decide) rfl (fun ls hl => ?_)
                      refine lv_goto (tgt := 49) hx hb dX5_make_166 (by decide) ?_
                      exact ih49  (j + 1) (upd f ((6 * i) + j) (f ((6 * i) + j))) (by omega) (by have h9 := r49; simp only [lp_s, lp_0, mkJ, if_neg c59_1, if_pos c142_3] at h9; exact h9) H locs hW ls (lv_sub hl [0, 2, 3, 4, 5] rfl)
                    · skip
                      refine lv_iload hx hb dX5_make_145 (lv_at hl 0 rfl) ?_
                      refine lv_goto (tgt := 162) hx hb dX5_make_147 (by decide) ?_
                      refine u_iast (cf' := cM cyI cyZ ad n t (upd f ((6 * i) + j) ((f ((6 * i) + k)) + (f ((6 * k) + j)))) jd jn wm od bs ab be hh) C hW (by decide) cM_2 0 rfl ((6 * i) + j) rfl (by omega) (by decide) cM_s2 dX5_make_162 (fun H locs hW => ?_)
                      refine lv_iinc (v := nI (j + 1)) (lv' := [(4, .int (nI (j + 1))), (5, .int ((f ((6 * i) + k)) + (f ((6 * k) + j)))), (0, .ref (ad 0)), (1, .int z), (2, .int (nI k)), (3, .int (nI i))]) hx hb dX5_make_163 hl (k := 1) rfl (nI_1 _) (by decide) rfl (fun ls hl => ?_)
                      refine lv_goto (tgt := 49) hx hb dX5_make_166 (by decide) ?_
                      exact ih49  (j + 1) (upd f ((6 * i) + j) ((f ((6 * i) + k)) + (f ((6 * k) + j)))) (by omega) (by have h9 := r49; simp only [lp_s, lp_0, mkJ, if_neg c59_1, if_neg c142_3] at h9; exact h9) H locs hW ls (lv_sub hl [0, 2, 3, 4, 5] rfl)
              exact L49 n 0 f (by omega) r38 H locs hW ls (lv_sub hl [0, 2, 3, 4, 1] rfl)
          exact L38 n 0 f (by omega) r28 H locs hW ls (lv_sub hl [0, 2, 3, 1] rfl)
      exact L28 n 0 f (by omega) (by have h9 : f = mkC t md := r2; rw [h9]; rfl) H locs hW ls (lv_sub hl [0, 1, 2] rfl)
    | succ k2 ih2 =>
      intro q f hq r2 H locs hW ls hl
      refine lv_iload_n hx hb dX5_make_2 rfl (lv_at hl 0 rfl) ?_
      refine lv_bipush (v := 36) hx hb dX5_make_3 (by decide) ?_
      refine lv_icmp_ge (tgt := 26) hx hb dX5_make_5 (by decide) (fun c9 => absurd c9 (show ¬ nI 36 ≤ nI q from nI_ge (by omega) (by omega))) (fun _ => ?_)
      refine lv_aload_n hx hb dX5_make_8 rfl (lv_at hl 1 rfl) ?_
      refine u_get C hW inlX5 (by decide) cM_0 rfl 3 (by decide) mw_73 rfl dX5_make_9 ?_
      refine lv_iload_n hx hb dX5_make_12 rfl (lv_at hl 0 rfl) ?_
      refine lv_aload_n hx hb dX5_make_13 rfl (lv_at hl 1 rfl) ?_
      refine u_get C hW inlX5 (by decide) cM_0 rfl 1 (by decide) mw_72 rfl dX5_make_14 ?_
      refine lv_iload_n hx hb dX5_make_17 rfl (lv_at hl 0 rfl) ?_
      refine u_iald C hW (by decide) cM_1 0 rfl q rfl (by omega) (by decide) dX5_make_18 ?_
      refine u_iast (cf' := cM cyI cyZ ad n t (upd f q (t q)) jd jn wm od bs ab be hh) C hW (by decide) cM_2 0 rfl q rfl (by omega) (by decide) cM_s2 dX5_make_19 (fun H locs hW => ?_)
      refine lv_iinc (v := nI (q + 1)) (lv' := [(2, .int (nI (q + 1))), (0, .ref (ad 0)), (1, .int z)]) hx hb dX5_make_20 hl (k := 0) rfl (nI_1 _) (by decide) rfl (fun ls hl => ?_)
      refine lv_goto (tgt := 2) hx hb dX5_make_23 (by decide) ?_
      exact ih2  (q + 1) (upd f q (t q)) (by omega) r2 H locs hW ls (lv_sub hl [0, 1, 2] rfl)
  exact L2 36 0 md (by omega) rfl H locs hW ls (lv_sub hl [0, 1, 2] rfl)
set_option maxHeartbeats 4000000 in
set_option maxRecDepth 100000 in
theorem c_X5_mend (l : Launch) (D : va_G) (cyI cO cyZ : ClassId) (ad : Nat → Nat) (fa : Nat) (n : Nat) (t md jd jn wm od : Nat → Int32) (bs : Int32) (ab be hh : Int64)  (hn : n ≤ 6) : Ct l yX5_mend (Cond.code yX5_mend cX5_mend 1 (some .int) :: wsL_law) ({ frames := 2, cells := 0, slots := 0, locals := 46 } : Room) D (ty3 cyI cO cyZ) 7 ad fa [.ref (ad 0)] (cM cyI cyZ ad n t md jd jn wm od bs ab be hh) (cM cyI cyZ ad n ((mcV n t (mkV n t md 1)).2) (mkV n t md 1) jd jn wm od bs ab be hh) (some (.int ((mcV n t (mkV n t md 1)).1))) := by
  refine Ct.of (by decide) (Nat.le_of_ble_eq_true rfl) ?_
  intro p e s m args below meth c A C hr H locs hW ls hl
  have C : Cx p s m args meth c cX5_mend 1 RX5 D (ty3 cyI cO cyZ) fa A := C
  have hx := C.1
  have hb := C.2.1
  have hl : lv_has ls 1 [(0, .ref (ad 0))] := hl
  refine lv_aload_n hx hb dX5_mend_0 rfl (lv_at hl 0 rfl) ?_
  refine lv_iconst (v := 1) hx hb dX5_mend_1 (by decide) ?_
  refine u_callV (cf' := cM cyI cyZ ad n t (mkV n t md 1) jd jn wm od bs ab be hh) (As := [.int 1]) (rest := []) (st1 := []) C hW (c_X5_make l D cyI cO cyZ ad fa n t md jd jn wm od bs ab be hh 1 (by omega)) mv_yX5_make mw_218 rfl ⟨rfl, rfl, Nat.le_of_ble_eq_true rfl, Nat.le_of_ble_eq_true rfl⟩ (by decide) cM_0 rfl rfl hl (Nat.le_of_ble_eq_true rfl) rfl rfl dX5_mend_2 (fun H locs hW => ?_)
  refine lv_aload_n hx hb dX5_mend_5 rfl (lv_at hl 0 rfl) ?_
  refine u_callV (cf' := cM cyI cyZ ad n ((mcV n t (mkV n t md 1)).2) (mkV n t md 1) jd jn wm od bs ab be hh) (As := []) (rest := []) (st1 := [.int ((mcV n t (mkV n t md 1)).1)]) C hW (c_X5_become l D cyI cO cyZ ad fa n t (mkV n t md 1) jd jn wm od bs ab be hh  (by omega)) mv_yX5_become mw_222 rfl ⟨rfl, rfl, Nat.le_of_ble_eq_true rfl, Nat.le_of_ble_eq_true rfl⟩ (by decide) cM_0 rfl rfl hl (Nat.le_of_ble_eq_true rfl) rfl rfl dX5_mend_6 (fun H locs hW => ?_)
  exact u_iret C hr hW dX5_mend_9 rfl rfl
set_option maxHeartbeats 4000000 in
set_option maxRecDepth 100000 in
theorem c_X5_lower (l : Launch) (D : va_G) (cyI cO cyZ : ClassId) (ad : Nat → Nat) (fa : Nat) (n : Nat) (t md jd jn wm od : Nat → Int32) (bs : Int32) (ab be hh : Int64)  (hn : n ≤ 6) : Ct l yX5_lower (Cond.code yX5_lower cX5_lower 1 (some .int) :: wsL_law) ({ frames := 2, cells := 0, slots := 0, locals := 46 } : Room) D (ty3 cyI cO cyZ) 7 ad fa [.ref (ad 0)] (cM cyI cyZ ad n t md jd jn wm od bs ab be hh) (cM cyI cyZ ad n ((mcV n t (mkV n t md 0)).2) (mkV n t md 0) jd jn wm od bs ab be hh) (some (.int ((mcV n t (mkV n t md 0)).1))) := by
  refine Ct.of (by decide) (Nat.le_of_ble_eq_true rfl) ?_
  intro p e s m args below meth c A C hr H locs hW ls hl
  have C : Cx p s m args meth c cX5_lower 1 RX5 D (ty3 cyI cO cyZ) fa A := C
  have hx := C.1
  have hb := C.2.1
  have hl : lv_has ls 1 [(0, .ref (ad 0))] := hl
  refine lv_aload_n hx hb dX5_lower_0 rfl (lv_at hl 0 rfl) ?_
  refine lv_iconst (v := 0) hx hb dX5_lower_1 (by decide) ?_
  refine u_callV (cf' := cM cyI cyZ ad n t (mkV n t md 0) jd jn wm od bs ab be hh) (As := [.int 0]) (rest := []) (st1 := []) C hW (c_X5_make l D cyI cO cyZ ad fa n t md jd jn wm od bs ab be hh 0 (by omega)) mv_yX5_make mw_218 rfl ⟨rfl, rfl, Nat.le_of_ble_eq_true rfl, Nat.le_of_ble_eq_true rfl⟩ (by decide) cM_0 rfl rfl hl (Nat.le_of_ble_eq_true rfl) rfl rfl dX5_lower_2 (fun H locs hW => ?_)
  refine lv_aload_n hx hb dX5_lower_5 rfl (lv_at hl 0 rfl) ?_
  refine u_callV (cf' := cM cyI cyZ ad n ((mcV n t (mkV n t md 0)).2) (mkV n t md 0) jd jn wm od bs ab be hh) (As := []) (rest := []) (st1 := [.int ((mcV n t (mkV n t md 0)).1)]) C hW (c_X5_become l D cyI cO cyZ ad fa n t (mkV n t md 0) jd jn wm od bs ab be hh  (by omega)) mv_yX5_become mw_222 rfl ⟨rfl, rfl, Nat.le_of_ble_eq_true rfl, Nat.le_of_ble_eq_true rfl⟩ (by decide) cM_0 rfl rfl hl (Nat.le_of_ble_eq_true rfl) rfl rfl dX5_lower_6 (fun H locs hW => ?_)
  exact u_iret C hr hW dX5_lower_9 rfl rfl
set_option maxHeartbeats 4000000 in
set_option maxRecDepth 100000 in
theorem c_X5_low (l : Launch) (D : va_G) (cyI cO cyZ : ClassId) (ad : Nat → Nat) (fa : Nat) (n : Nat) (t md jd jn wm od : Nat → Int32) (bs : Int32) (ab be hh : Int64) (x y : Int32) (hn : n ≤ 6) (h2 : 2 ≤ n) : Ct l yX5_low (Cond.code yX5_low cX5_low 3 (some .int) :: wsL_law) ({ frames := 2, cells := 0, slots := 0, locals := 46 } : Room) D (ty3 cyI cO cyZ) 7 ad fa [.ref (ad 0), .int x, .int y] (cM cyI cyZ ad n t md jd jn wm od bs ab be hh) (cM cyI cyZ ad n t (kn2M n x y md (mkV n t md 0)) jd jn wm od bs ab be hh) (some (.int (mlR n t md x y))) := by
  refine Ct.of (by decide) (Nat.le_of_ble_eq_true rfl) ?_
  intro p e s m args below meth c A C hr H locs hW ls hl
  have C : Cx p s m args meth c cX5_low 3 RX5 D (ty3 cyI cO cyZ) fa A := C
  have hx := C.1
  have hb := C.2.1
  have hl : lv_has ls 3 [(0, .ref (ad 0)), (1, .int x), (2, .int y)] := hl
  refine lv_aload_n hx hb dX5_low_0 rfl (lv_at hl 0 rfl) ?_
  refine lv_iload_n hx hb dX5_low_1 rfl (lv_at hl 1 rfl) ?_
  refine u_callV (cf' := cM cyI cyZ ad n t md jd jn wm od bs ab be hh) (As := [.int x]) (rest := []) (st1 := [.int (knM n x)]) C hW (c_X5_isPoint l D cyI cO cyZ ad fa n t md jd jn wm od bs ab be hh x (by omega) (by omega)) mv_yX5_isPoint mw_114 rfl ⟨rfl, rfl, Nat.le_of_ble_eq_true rfl, Nat.le_of_ble_eq_true rfl⟩ (by decide) cM_0 rfl rfl hl (Nat.le_of_ble_eq_true rfl) rfl rfl dX5_low_2 (fun H locs hW => ?_)
  refine lv_if_eq (tgt := 16) hx hb dX5_low_5 (by decide) (fun c5_1 => ?_) (fun c5_1 => ?_)
  · skip
    refine lv_bipush (v := -101) hx hb dX5_low_16 (by decide) ?_
    exact u_iret C hr hW dX5_low_18 (by simp only [mlR, if_pos c5_1]) (by simp only [kn2M, if_pos c5_1])
  · skip
    refine lv_aload_n hx hb dX5_low_8 rfl (lv_at hl 0 rfl) ?_
    refine lv_iload_n hx hb dX5_low_9 rfl (lv_at hl 2 rfl) ?_
    refine u_callV (cf' := cM cyI cyZ ad n t md jd jn wm od bs ab be hh) (As := [.int y]) (rest := []) (st1 := [.int (knM n y)]) C hW (c_X5_isPoint l D cyI cO cyZ ad fa n t md jd jn wm od bs ab be hh y (by omega) (by omega)) mv_yX5_isPoint mw_114 rfl ⟨rfl, rfl, Nat.le_of_ble_eq_true rfl, Nat.le_of_ble_eq_true rfl⟩ (by decide) cM_0 rfl rfl hl (Nat.le_of_ble_eq_true rfl) rfl rfl dX5_low_10 (fun H locs hW => ?_)
    refine lv_if_ne (tgt := 19) hx hb dX5_low_13 (by decide) (fun c13_2 => ?_) (fun c13_2 => ?_)
    · skip
      refine lv_aload_n hx hb dX5_low_19 rfl (lv_at hl 0 rfl) ?_
      refine lv_iconst (v := 0) hx hb dX5_low_20 (by decide) ?_
      refine u_callV (cf' := cM cyI cyZ ad n t (mkV n t md 0) jd jn wm od bs ab be hh) (As := [.int 0]) (rest := []) (st1 := []) C hW (c_X5_make l D cyI cO cyZ ad fa n t md jd jn wm od bs ab be hh 0 (by omega)) mv_yX5_make mw_218 rfl ⟨rfl, rfl, Nat.le_of_ble_eq_true rfl, Nat.le_of_ble_eq_true rfl⟩ (by decide) cM_0 rfl rfl hl (Nat.le_of_ble_eq_true rfl) rfl rfl dX5_low_21 (fun H locs hW => ?_)
      have hk1 := (knM_tn hn h2 c5_1).2
      have hk2 := (knM_tn hn h2 c13_2).2
      refine lv_aload_n hx hb dX5_low_24 rfl (lv_at hl 0 rfl) ?_
      refine u_get C hW inlX5 (by decide) cM_0 rfl 3 (by decide) mw_73 rfl dX5_low_25 ?_
      refine lv_bipush (v := 6) hx hb dX5_low_28 (by decide) ?_
      refine lv_iload_n hx hb dX5_low_30 rfl (lv_at hl 1 rfl) ?_
      refine u_top (show x = nI (tn x) from (knM_tn hn h2 c5_1).1) ?_
      refine lv_imul hx hb dX5_low_31 ?_
      refine u_top (show 6 * (nI (tn x)) = nI (6 * (tn x)) from pk_mul 6 (tn x)) ?_
      refine lv_iload_n hx hb dX5_low_32 rfl (lv_at hl 2 rfl) ?_
      refine u_top (show y = nI (tn y) from (knM_tn hn h2 c13_2).1) ?_
      refine lv_iadd hx hb dX5_low_33 ?_
      refine u_top (show (nI (6 * (tn x))) + (nI (tn y)) = nI ((6 * (tn x)) + (tn y)) from nI_add (6 * (tn x)) (tn y)) ?_
      refine u_iald C hW (by decide) cM_2 0 rfl ((6 * (tn x)) + (tn y)) rfl (by omega) (by decide) dX5_low_34 ?_
      exact u_iret C hr hW dX5_low_35 (by simp only [mlR, if_neg c5_1, if_neg c13_2]) (by simp only [kn2M, if_neg c5_1, if_neg c13_2])
    · skip
      refine lv_bipush (v := -101) hx hb dX5_low_16 (by decide) ?_
      exact u_iret C hr hW dX5_low_18 (by simp only [mlR, if_neg c5_1, if_pos c13_2]) (by simp only [kn2M, if_neg c5_1, if_pos c13_2])
set_option maxHeartbeats 4000000 in
set_option maxRecDepth 100000 in
theorem c_X5_gap (l : Launch) (D : va_G) (cyI cO cyZ : ClassId) (ad : Nat → Nat) (fa : Nat) (n : Nat) (t md jd jn wm od : Nat → Int32) (bs : Int32) (ab be hh : Int64)  (hn : n ≤ 6) : Ct l yX5_gap (Cond.code yX5_gap cX5_gap 4 (some .int) :: wsL_law) ({ frames := 2, cells := 0, slots := 0, locals := 46 } : Room) D (ty3 cyI cO cyZ) 7 ad fa [.ref (ad 0)] (cM cyI cyZ ad n t md jd jn wm od bs ab be hh) (cM cyI cyZ ad n t (mkV n t md 0) jd jn wm od bs ab be hh) (some (.int (maV n t (mkV n t md 0)))) := by
  refine Ct.of (by decide) (Nat.le_of_ble_eq_true rfl) ?_
  intro p e s m args below meth c A C hr H locs hW ls hl
  have C : Cx p s m args meth c cX5_gap 4 RX5 D (ty3 cyI cO cyZ) fa A := C
  have hx := C.1
  have hb := C.2.1
  have hl : lv_has ls 4 [(0, .ref (ad 0))] := hl
  refine lv_aload_n hx hb dX5_gap_0 rfl (lv_at hl 0 rfl) ?_
  refine lv_iconst (v := 0) hx hb dX5_gap_1 (by decide) ?_
  refine u_callV (cf' := cM cyI cyZ ad n t (mkV n t md 0) jd jn wm od bs ab be hh) (As := [.int 0]) (rest := []) (st1 := []) C hW (c_X5_make l D cyI cO cyZ ad fa n t md jd jn wm od bs ab be hh 0 (by omega)) mv_yX5_make mw_218 rfl ⟨rfl, rfl, Nat.le_of_ble_eq_true rfl, Nat.le_of_ble_eq_true rfl⟩ (by decide) cM_0 rfl rfl hl (Nat.le_of_ble_eq_true rfl) rfl rfl dX5_gap_2 (fun H locs hW => ?_)
  refine lv_iconst (v := 0) hx hb dX5_gap_5 (by decide) ?_
  refine lv_istore_n (lv' := [(1, .int 0), (0, .ref (ad 0))]) hx hb dX5_gap_6 rfl hl (by decide) rfl (fun ls hl => ?_)
  refine lv_iconst (v := 0) hx hb dX5_gap_7 (by decide) ?_
  refine lv_istore_n (lv' := [(2, .int 0), (1, .int 0), (0, .ref (ad 0))]) hx hb dX5_gap_8 rfl hl (by decide) rfl (fun ls hl => ?_)
  have L9 : ∀ (k9 : Nat) (i : Nat) (a : Int32), i + k9 = n → lp (maO n t (mkV n t md 0)) i k9 a = maV n t (mkV n t md 0) → ∀ (H : Heap) (locs : List Loc), Wd D 7 ad (cM cyI cyZ ad n t (mkV n t md 0) jd jn wm od bs ab be hh) A s.heap H locs → ∀ ls : Array Slot, lv_has ls 4 [(2, .int (nI i)), (0, .ref (ad 0)), (1, .int a)] → W p l e ({ frames := 2, cells := 0, slots := 0, locals := 46 } : Room) s m args below meth c H locs 0 0 (MQ below (uQ D 7 ad (cM cyI cyZ ad n t (mkV n t md 0) jd jn wm od bs ab be hh) (some (.int (maV n t (mkV n t md 0)))) A) args s 0 0 A) (F0 m 9 ls []) := by
    intro k9
    induction k9 with
    | zero =>
      intro i a hi r9 H locs hW ls hl
      refine lv_iload_n hx hb dX5_gap_9 rfl (lv_at hl 0 rfl) ?_
      refine lv_aload_n hx hb dX5_gap_10 rfl (lv_at hl 1 rfl) ?_
      refine u_get C hW inlX5 (by decide) cM_0 rfl 0 (by decide) mw_71 rfl dX5_gap_11 ?_
      refine lv_icmp_ge (tgt := 62) hx hb dX5_gap_14 (by decide) (fun _ => ?_) (fun c9 => absurd (nI_le (by omega) (by omega)) c9)
      refine lv_iload_n hx hb dX5_gap_62 rfl (lv_at hl 2 rfl) ?_
      exact u_iret C hr hW dX5_gap_63 r9 rfl
    | succ k9 ih9 =>
      intro i a hi r9 H locs hW ls hl
      refine lv_iload_n hx hb dX5_gap_9 rfl (lv_at hl 0 rfl) ?_
      refine lv_aload_n hx hb dX5_gap_10 rfl (lv_at hl 1 rfl) ?_
      refine u_get C hW inlX5 (by decide) cM_0 rfl 0 (by decide) mw_71 rfl dX5_gap_11 ?_
      refine lv_icmp_ge (tgt := 62) hx hb dX5_gap_14 (by decide) (fun c9 => absurd c9 (nI_ge (by omega) (by omega))) (fun _ => ?_)
      refine lv_iconst (v := 0) hx hb dX5_gap_17 (by decide) ?_
      refine lv_istore_n (lv' := [(3, .int 0), (2, .int (nI i)), (0, .ref (ad 0)), (1, .int a)]) hx hb dX5_gap_18 rfl hl (by decide) rfl (fun ls hl => ?_)
      have L19 : ∀ (k19 : Nat) (j : Nat) (a : Int32), j + k19 = n → lp (maO n t (mkV n t md 0)) (i + 1) k9 (lp (maI t (mkV n t md 0) i) j k19 a) = maV n t (mkV n t md 0) → ∀ (H : Heap) (locs : List Loc), Wd D 7 ad (cM cyI cyZ ad n t (mkV n t md 0) jd jn wm od bs ab be hh) A s.heap H locs → ∀ ls : Array Slot, lv_has ls 4 [(3, .int (nI j)), (0, .ref (ad 0)), (1, .int a), (2, .int (nI i))] → W p l e ({ frames := 2, cells := 0, slots := 0, locals := 46 } : Room) s m args below meth c H locs 0 0 (MQ below (uQ D 7 ad (cM cyI cyZ ad n t (mkV n t md 0) jd jn wm od bs ab be hh) (some (.int (maV n t (mkV n t md 0)))) A) args s 0 0 A) (F0 m 19 ls []) := by
        intro k19
        induction k19 with
        | zero =>
          intro j a hj r19 H locs hW ls hl
          refine lv_iload_n hx hb dX5_gap_19 rfl (lv_at hl 0 rfl) ?_
          refine lv_aload_n hx hb dX5_gap_20 rfl (lv_at hl 1 rfl) ?_
          refine u_get C hW inlX5 (by decide) cM_0 rfl 0 (by decide) mw_71 rfl dX5_gap_21 ?_
          refine lv_icmp_ge (tgt := 56) hx hb dX5_gap_24 (by decide) (fun _ => ?_) (fun c9 => absurd (nI_le (by omega) (by omega)) c9)
          refine lv_iinc (v := nI (i + 1)) (lv' := [(2, .int (nI (i + 1))), (3, .int (nI j)), (0, .ref (ad 0)), (1, .int a)]) hx hb dX5_gap_56 hl (k := 3) rfl (nI_1 _) (by decide) rfl (fun ls hl => ?_)
          refine lv_goto (tgt := 9) hx hb dX5_gap_59 (by decide) ?_
          exact ih9  (i + 1) a (by omega) r19 H locs hW ls (lv_sub hl [0, 2, 3] rfl)
        | succ k19 ih19 =>
          intro j a hj r19 H locs hW ls hl
          refine lv_iload_n hx hb dX5_gap_19 rfl (lv_at hl 0 rfl) ?_
          refine lv_aload_n hx hb dX5_gap_20 rfl (lv_at hl 1 rfl) ?_
          refine u_get C hW inlX5 (by decide) cM_0 rfl 0 (by decide) mw_71 rfl dX5_gap_21 ?_
          refine lv_icmp_ge (tgt := 56) hx hb dX5_gap_24 (by decide) (fun c9 => absurd c9 (nI_ge (by omega) (by omega))) (fun _ => ?_)
          refine lv_iload_n hx hb dX5_gap_27 rfl (lv_at hl 2 rfl) ?_
          refine lv_aload_n hx hb dX5_gap_28 rfl (lv_at hl 1 rfl) ?_
          refine lv_iload_n hx hb dX5_gap_29 rfl (lv_at hl 3 rfl) ?_
          refine lv_iload_n hx hb dX5_gap_30 rfl (lv_at hl 0 rfl) ?_
          refine u_callV (cf' := cM cyI cyZ ad n t (mkV n t md 0) jd jn wm od bs ab be hh) (As := [.int (nI i), .int (nI j)]) (rest := [.int a]) (st1 := [.int (t (6 * i + j)), .int a]) C hW (c_X5_d l D cyI cO cyZ ad fa n t (mkV n t md 0) jd jn wm od bs ab be hh i j (by omega) (by omega)) mv_yX5_d mw_126 rfl ⟨rfl, rfl, Nat.le_of_ble_eq_true rfl, Nat.le_of_ble_eq_true rfl⟩ (by decide) cM_0 rfl rfl hl (Nat.le_of_ble_eq_true rfl) rfl rfl dX5_gap_31 (fun H locs hW => ?_)
          refine lv_aload_n hx hb dX5_gap_34 rfl (lv_at hl 1 rfl) ?_
          refine u_get C hW inlX5 (by decide) cM_0 rfl 3 (by decide) mw_73 rfl dX5_gap_35 ?_
          refine lv_bipush (v := 6) hx hb dX5_gap_38 (by decide) ?_
          refine lv_iload_n hx hb dX5_gap_40 rfl (lv_at hl 3 rfl) ?_
          refine lv_imul hx hb dX5_gap_41 ?_
          refine u_top (show 6 * (nI i) = nI (6 * i) from pk_mul 6 i) ?_
          refine lv_iload_n hx hb dX5_gap_42 rfl (lv_at hl 0 rfl) ?_
          refine lv_iadd hx hb dX5_gap_43 ?_
          refine u_top (show (nI (6 * i)) + (nI j) = nI ((6 * i) + j) from nI_add (6 * i) j) ?_
          refine u_iald C hW (by decide) cM_2 0 rfl ((6 * i) + j) rfl (by omega) (by decide) dX5_gap_44 ?_
          refine lv_isub hx hb dX5_gap_45 ?_
          refine u_callS (cf' := cM cyI cyZ ad n t (mkV n t md 0) jd jn wm od bs ab be hh) (As := [.int a, .int ((t (6 * i + j)) - (mkV n t md 0 ((6 * i) + j)))]) (rest := []) (st1 := [.int (grt a ((t (6 * i + j)) - (mkV n t md 0 ((6 * i) + j))))]) C hW (c_X5_greater l D cyI cO cyZ ad fa n t (mkV n t md 0) jd jn wm od bs ab be hh a ((t (6 * i + j)) - (mkV n t md 0 ((6 * i) + j))) ) ms_yX5_greater mw_175 rfl ⟨rfl, rfl, Nat.le_of_ble_eq_true rfl, Nat.le_of_ble_eq_true rfl⟩ hl (Nat.le_of_ble_eq_true rfl) rfl rfl dX5_gap_46 (fun H locs hW => ?_)
          refine lv_istore_n (lv' := [(1, .int (grt a ((t (6 * i + j)) - (mkV n t md 0 ((6 * i) + j))))), (3, .int (nI j)), (0, .ref (ad 0)), (2, .int (nI i))]) hx hb dX5_gap_49 rfl hl (by decide) rfl (fun ls hl => ?_)
          refine lv_iinc (v := nI (j + 1)) (lv' := [(3, .int (nI (j + 1))), (1, .int (grt a ((t (6 * i + j)) - (mkV n t md 0 ((6 * i) + j))))), (0, .ref (ad 0)), (2, .int (nI i))]) hx hb dX5_gap_50 hl (k := 1) rfl (nI_1 _) (by decide) rfl (fun ls hl => ?_)
          refine lv_goto (tgt := 19) hx hb dX5_gap_53 (by decide) ?_
          exact ih19  (j + 1) (grt a ((t (6 * i + j)) - (mkV n t md 0 ((6 * i) + j)))) (by omega) r19 H locs hW ls (lv_sub hl [0, 2, 1, 3] rfl)
      exact L19 n 0 a (by omega) r9 H locs hW ls (lv_sub hl [0, 2, 3, 1] rfl)
  exact L9 n 0 0 (by omega) rfl H locs hW ls (lv_sub hl [0, 2, 1] rfl)
set_option maxHeartbeats 4000000 in
set_option maxRecDepth 100000 in
theorem c_X5_groups (l : Launch) (D : va_G) (cyI cO cyZ : ClassId) (ad : Nat → Nat) (fa : Nat) (n : Nat) (t md jd jn wm od : Nat → Int32) (bs : Int32) (ab be hh : Int64) (r : Int32) (hn : n ≤ 6) : Ct l yX5_groups (Cond.code yX5_groups cX5_groups 6 (some .int) :: wsL_law) ({ frames := 2, cells := 0, slots := 0, locals := 46 } : Room) D (ty3 cyI cO cyZ) 7 ad fa [.ref (ad 0), .int r] (cM cyI cyZ ad n t md jd jn wm od bs ab be hh) (cM cyI cyZ ad n t (mrM n t md r) jd jn wm od bs ab be hh) (some (.int (mrR n t md r))) := by
  refine Ct.of (by decide) (Nat.le_of_ble_eq_true rfl) ?_
  intro p e s m args below meth c A C hr H locs hW ls hl
  have C : Cx p s m args meth c cX5_groups 6 RX5 D (ty3 cyI cO cyZ) fa A := C
  have hx := C.1
  have hb := C.2.1
  have hl : lv_has ls 6 [(0, .ref (ad 0)), (1, .int r)] := hl
  refine lv_iload_n hx hb dX5_groups_0 rfl (lv_at hl 1 rfl) ?_
  refine lv_iconst (v := 0) hx hb dX5_groups_1 (by decide) ?_
  refine lv_sipush (v := 1000) hx hb dX5_groups_2 (by decide) ?_
  refine u_callS (cf' := cM cyI cyZ ad n t md jd jn wm od bs ab be hh) (As := [.int r, .int 0, .int 1000]) (rest := []) (st1 := [.int (mnV r 0 1000)]) C hW (c_X5_in l D cyI cO cyZ ad fa n t md jd jn wm od bs ab be hh r 0 1000 ) ms_yX5_in mw_91 rfl ⟨rfl, rfl, Nat.le_of_ble_eq_true rfl, Nat.le_of_ble_eq_true rfl⟩ hl (Nat.le_of_ble_eq_true rfl) rfl rfl dX5_groups_5 (fun H locs hW => ?_)
  refine lv_if_ne (tgt := 14) hx hb dX5_groups_8 (by decide) (fun c8_1 => ?_) (fun c8_1 => ?_)
  · skip
    have hg0 := c8_1
    refine lv_aload_n hx hb dX5_groups_14 rfl (lv_at hl 0 rfl) ?_
    refine lv_iconst (v := 0) hx hb dX5_groups_15 (by decide) ?_
    refine u_callV (cf' := cM cyI cyZ ad n t (mkV n t md 0) jd jn wm od bs ab be hh) (As := [.int 0]) (rest := []) (st1 := []) C hW (c_X5_make l D cyI cO cyZ ad fa n t md jd jn wm od bs ab be hh 0 (by omega)) mv_yX5_make mw_218 rfl ⟨rfl, rfl, Nat.le_of_ble_eq_true rfl, Nat.le_of_ble_eq_true rfl⟩ (by decide) cM_0 rfl rfl hl (Nat.le_of_ble_eq_true rfl) rfl rfl dX5_groups_16 (fun H locs hW => ?_)
    refine lv_iconst (v := 0) hx hb dX5_groups_19 (by decide) ?_
    refine lv_istore_n (lv' := [(2, .int 0), (0, .ref (ad 0)), (1, .int r)]) hx hb dX5_groups_20 rfl hl (by decide) rfl (fun ls hl => ?_)
    refine lv_iconst (v := 0) hx hb dX5_groups_21 (by decide) ?_
    refine lv_istore_n (lv' := [(3, .int 0), (2, .int 0), (0, .ref (ad 0)), (1, .int r)]) hx hb dX5_groups_22 rfl hl (by decide) rfl (fun ls hl => ?_)
    have L23 : ∀ (k23 : Nat) (i : Nat) (a : Int32), i + k23 = n → lp (mrO (mkV n t md 0) r) i k23 a = mrV n (mkV n t md 0) r → ∀ (H : Heap) (locs : List Loc), Wd D 7 ad (cM cyI cyZ ad n t (mkV n t md 0) jd jn wm od bs ab be hh) A s.heap H locs → ∀ ls : Array Slot, lv_has ls 6 [(3, .int (nI i)), (0, .ref (ad 0)), (1, .int r), (2, .int a)] → W p l e ({ frames := 2, cells := 0, slots := 0, locals := 46 } : Room) s m args below meth c H locs 0 0 (MQ below (uQ D 7 ad (cM cyI cyZ ad n t (mrM n t md r) jd jn wm od bs ab be hh) (some (.int (mrR n t md r))) A) args s 0 0 A) (F0 m 23 ls []) := by
      intro k23
      induction k23 with
      | zero =>
        intro i a hi r23 H locs hW ls hl
        refine lv_iload_n hx hb dX5_groups_23 rfl (lv_at hl 0 rfl) ?_
        refine lv_aload_n hx hb dX5_groups_24 rfl (lv_at hl 1 rfl) ?_
        refine u_get C hW inlX5 (by decide) cM_0 rfl 0 (by decide) mw_71 rfl dX5_groups_25 ?_
        refine lv_icmp_ge (tgt := 96) hx hb dX5_groups_28 (by decide) (fun _ => ?_) (fun c9 => absurd (nI_le (by omega) (by omega)) c9)
        refine lv_iload_n hx hb dX5_groups_96 rfl (lv_at hl 3 rfl) ?_
        exact u_iret C hr hW dX5_groups_97 (by first | (simp only [mrR]; done) | (simp only [mrR, if_neg hg0]; exact r23)) (by first | (simp only [mrM]; done) | (simp only [mrM, if_neg hg0]))
      | succ k23 ih23 =>
        intro i a hi r23 H locs hW ls hl
        refine lv_iload_n hx hb dX5_groups_23 rfl (lv_at hl 0 rfl) ?_
        refine lv_aload_n hx hb dX5_groups_24 rfl (lv_at hl 1 rfl) ?_
        refine u_get C hW inlX5 (by decide) cM_0 rfl 0 (by decide) mw_71 rfl dX5_groups_25 ?_
        refine lv_icmp_ge (tgt := 96) hx hb dX5_groups_28 (by decide) (fun c9 => absurd c9 (nI_ge (by omega) (by omega))) (fun _ => ?_)
        refine lv_iconst (v := 1) hx hb dX5_groups_31 (by decide) ?_
        refine lv_istore (lv' := [(4, .int 1), (3, .int (nI i)), (0, .ref (ad 0)), (1, .int r), (2, .int a)]) hx hb dX5_groups_32 hl (by decide) rfl (fun ls hl => ?_)
        refine lv_iconst (v := 0) hx hb dX5_groups_34 (by decide) ?_
        refine lv_istore (lv' := [(5, .int 0), (4, .int 1), (3, .int (nI i)), (0, .ref (ad 0)), (1, .int r), (2, .int a)]) hx hb dX5_groups_35 hl (by decide) rfl (fun ls hl => ?_)
        have L37 : ∀ (k37 : Nat) (j : Nat) (b : Int32), j + k37 = i → lp (mrI (mkV n t md 0) r i) j k37 b = lp (mrI (mkV n t md 0) r i) 0 i 1 → ∀ (H : Heap) (locs : List Loc), Wd D 7 ad (cM cyI cyZ ad n t (mkV n t md 0) jd jn wm od bs ab be hh) A s.heap H locs → ∀ ls : Array Slot, lv_has ls 6 [(5, .int (nI j)), (0, .ref (ad 0)), (1, .int r), (2, .int a), (3, .int (nI i)), (4, .int b)] → W p l e ({ frames := 2, cells := 0, slots := 0, locals := 46 } : Room) s m args below meth c H locs 0 0 (MQ below (uQ D 7 ad (cM cyI cyZ ad n t (mrM n t md r) jd jn wm od bs ab be hh) (some (.int (mrR n t md r))) A) args s 0 0 A) (F0 m 37 ls []) := by
          intro k37
          induction k37 with
          | zero =>
            intro j b hj r37 H locs hW ls hl
            refine lv_iload hx hb dX5_groups_37 (lv_at hl 0 rfl) ?_
            refine lv_iload_n hx hb dX5_groups_39 rfl (lv_at hl 4 rfl) ?_
            refine lv_icmp_ge (tgt := 77) hx hb dX5_groups_40 (by decide) (fun _ => ?_) (fun c9 => absurd (nI_le (by omega) (by omega)) c9)
            refine lv_iload_n hx hb dX5_groups_77 rfl (lv_at hl 3 rfl) ?_
            refine lv_iload hx hb dX5_groups_78 (lv_at hl 5 rfl) ?_
            refine lv_if_eq (tgt := 87) hx hb dX5_groups_80 (by decide) (fun c80_2 => ?_) (fun c80_2 => ?_)
            · skip
              refine lv_iconst (v := 0) hx hb dX5_groups_87 (by decide) ?_
              refine lv_iadd hx hb dX5_groups_88 ?_
              refine lv_istore_n (lv' := [(2, .int (a + 0)), (5, .int (nI j)), (0, .ref (ad 0)), (1, .int r), (3, .int (nI i)), (4, .int b)]) hx hb dX5_groups_89 rfl hl (by decide) rfl (fun ls hl => ?_)
              refine lv_iinc (v := nI (i + 1)) (lv' := [(3, .int (nI (i + 1))), (2, .int (a + 0)), (5, .int (nI j)), (0, .ref (ad 0)), (1, .int r), (4, .int b)]) hx hb dX5_groups_90 hl (k := 4) rfl (nI_1 _) (by decide) rfl (fun ls hl => ?_)
              refine lv_goto (tgt := 23) hx hb dX5_groups_93 (by decide) ?_
              exact ih23  (i + 1) (a + 0) (by omega) (by have h9 : b = _ := r37; rw [h9] at c80_2; rw [← r23, lp_s]; simp only [mrO, if_pos c80_2]) H locs hW ls (lv_sub hl [0, 3, 4, 1] rfl)
            · skip
              refine lv_iconst (v := 1) hx hb dX5_groups_83 (by decide) ?_
              refine lv_goto (tgt := 88) hx hb dX5_groups_84 (by decide) ?_
              refine lv_iadd hx hb dX5_groups_88 ?_
              refine lv_istore_n (lv' := [(2, .int (a + 1)), (5, .int (nI j)), (0, .ref (ad 0)), (1, .int r), (3, .int (nI i)), (4, .int b)]) hx hb dX5_groups_89 rfl hl (by decide) rfl (fun ls hl => ?_)
              refine lv_iinc (v := nI (i + 1)) (lv' := [(3, .int (nI (i + 1))), (2, .int (a + 1)), (5, .int (nI j)), (0, .ref (ad 0)), (1, .int r), (4, .int b)]) hx hb dX5_groups_90 hl (k := 4) rfl (nI_1 _) (by decide) rfl (fun ls hl => ?_)
              refine lv_goto (tgt := 23) hx hb dX5_groups_93 (by decide) ?_
              exact ih23  (i + 1) (a + 1) (by omega) (by have h9 : b = _ := r37; rw [h9] at c80_2; rw [← r23, lp_s]; simp only [mrO, if_neg c80_2]) H locs hW ls (lv_sub hl [0, 3, 4, 1] rfl)
          | succ k37 ih37 =>
            intro j b hj r37 H locs hW ls hl
            refine lv_iload hx hb dX5_groups_37 (lv_at hl 0 rfl) ?_
            refine lv_iload_n hx hb dX5_groups_39 rfl (lv_at hl 4 rfl) ?_
            refine lv_icmp_ge (tgt := 77) hx hb dX5_groups_40 (by decide) (fun c9 => absurd c9 (nI_ge (by omega) (by omega))) (fun _ => ?_)
            refine lv_iload hx hb dX5_groups_43 (lv_at hl 5 rfl) ?_
            refine lv_if_eq (tgt := 68) hx hb dX5_groups_45 (by decide) (fun c45_3 => ?_) (fun c45_3 => ?_)
            · skip
              refine lv_iconst (v := 0) hx hb dX5_groups_68 (by decide) ?_
              refine lv_istore (lv' := [(4, .int 0), (5, .int (nI j)), (0, .ref (ad 0)), (1, .int r), (2, .int a), (3, .int (nI i))]) hx hb dX5_groups_69 hl (by decide) rfl (fun ls hl => ?_)
              refine lv_iinc (v := nI (j + 1)) (lv' := [(5, .int (nI (j + 1))), (4, .int 0), (0, .ref (ad 0)), (1, .int r), (2, .int a), (3, .int (nI i))]) hx hb dX5_groups_71 hl (k := 1) rfl (nI_1 _) (by decide) rfl (fun ls hl => ?_)
              refine lv_goto (tgt := 37) hx hb dX5_groups_74 (by decide) ?_
              exact ih37  (j + 1) 0 (by omega) (by have h9 := r37; simp only [lp_s, lp_0, mrI, if_pos c45_3] at h9; exact h9) H locs hW ls (lv_sub hl [0, 2, 3, 4, 5, 1] rfl)
            · skip
              refine lv_aload_n hx hb dX5_groups_48 rfl (lv_at hl 1 rfl) ?_
              refine u_get C hW inlX5 (by decide) cM_0 rfl 3 (by decide) mw_73 rfl dX5_groups_49 ?_
              refine lv_bipush (v := 6) hx hb dX5_groups_52 (by decide) ?_
              refine lv_iload_n hx hb dX5_groups_54 rfl (lv_at hl 4 rfl) ?_
              refine lv_imul hx hb dX5_groups_55 ?_
              refine u_top (show 6 * (nI i) = nI (6 * i) from pk_mul 6 i) ?_
              refine lv_iload hx hb dX5_groups_56 (lv_at hl 0 rfl) ?_
              refine lv_iadd hx hb dX5_groups_58 ?_
              refine u_top (show (nI (6 * i)) + (nI j) = nI ((6 * i) + j) from nI_add (6 * i) j) ?_
              refine u_iald C hW (by decide) cM_2 0 rfl ((6 * i) + j) rfl (by omega) (by decide) dX5_groups_59 ?_
              refine lv_iload_n hx hb dX5_groups_60 rfl (lv_at hl 2 rfl) ?_
              refine lv_icmp_le (tgt := 68) hx hb dX5_groups_61 (by decide) (fun c61_4 => ?_) (fun c61_4 => ?_)
              · skip
                refine lv_iconst (v := 0) hx hb dX5_groups_68 (by decide) ?_
                refine lv_istore (lv' := [(4, .int 0), (5, .int (nI j)), (0, .ref (ad 0)), (1, .int r), (2, .int a), (3, .int (nI i))]) hx hb dX5_groups_69 hl (by decide) rfl (fun ls hl => ?_)
                refine lv_iinc (v := nI (j + 1)) (lv' := [(5, .int (nI (j + 1))), (4, .int 0), (0, .ref (ad 0)), (1, .int r), (2, .int a), (3, .int (nI i))]) hx hb dX5_groups_71 hl (k := 1) rfl (nI_1 _) (by decide) rfl (fun ls hl => ?_)
                refine lv_goto (tgt := 37) hx hb dX5_groups_74 (by decide) ?_
                exact ih37  (j + 1) 0 (by omega) (by have h9 := r37; simp only [lp_s, lp_0, mrI, if_neg c45_3, if_pos c61_4] at h9; exact h9) H locs hW ls (lv_sub hl [0, 2, 3, 4, 5, 1] rfl)
              · skip
                refine lv_iconst (v := 1) hx hb dX5_groups_64 (by decide) ?_
                refine lv_goto (tgt := 69) hx hb dX5_groups_65 (by decide) ?_
                refine lv_istore (lv' := [(4, .int 1), (5, .int (nI j)), (0, .ref (ad 0)), (1, .int r), (2, .int a), (3, .int (nI i))]) hx hb dX5_groups_69 hl (by decide) rfl (fun ls hl => ?_)
                refine lv_iinc (v := nI (j + 1)) (lv' := [(5, .int (nI (j + 1))), (4, .int 1), (0, .ref (ad 0)), (1, .int r), (2, .int a), (3, .int (nI i))]) hx hb dX5_groups_71 hl (k := 1) rfl (nI_1 _) (by decide) rfl (fun ls hl => ?_)
                refine lv_goto (tgt := 37) hx hb dX5_groups_74 (by decide) ?_
                exact ih37  (j + 1) 1 (by omega) (by have h9 := r37; simp only [lp_s, lp_0, mrI, if_neg c45_3, if_neg c61_4] at h9; exact h9) H locs hW ls (lv_sub hl [0, 2, 3, 4, 5, 1] rfl)
        exact L37 i 0 1 (by omega) rfl H locs hW ls (lv_sub hl [0, 3, 4, 5, 2, 1] rfl)
    exact L23 n 0 0 (by omega) rfl H locs hW ls (lv_sub hl [0, 2, 3, 1] rfl)
  · skip
    refine lv_bipush (v := -102) hx hb dX5_groups_11 (by decide) ?_
    exact u_iret C hr hW dX5_groups_13 (by first | (simp only [mrR, if_pos c8_1]; done) | (simp only [mrR, if_neg hg0]; exact r23)) (by first | (simp only [mrM, if_pos c8_1]; done) | (simp only [mrM, if_neg hg0]))
