set_option maxHeartbeats 4000000 in
set_option maxRecDepth 100000 in
theorem c_X5_isPart (l : Launch) (D : va_G) (cyI cO cyZ : ClassId) (ad : Nat → Nat) (fa : Nat) (n : Nat) (t md jd jn wm od : Nat → Int32) (bs : Int32) (ab be hh : Int64) (x : Int32) (hn : n ≤ 6) (h2 : 2 ≤ n) : Ct l yX5_isPart (Cond.code yX5_isPart cX5_isPart 2 (some .boolean) :: wsL_law) ({ frames := 1, cells := 0, slots := 0, locals := 22 } : Room) D (ty3 cyI cO cyZ) 7 ad fa [.ref (ad 0), .int x] (cM cyI cyZ ad n t md jd jn wm od bs ab be hh) (cM cyI cyZ ad n t md jd jn wm od bs ab be hh) (some (.int (ipM n x))) := by
  refine Ct.of (by decide) (Nat.le_of_ble_eq_true rfl) ?_
  intro p e s m args below meth c A C hr H locs hW ls hl
  have C : Cx p s m args meth c cX5_isPart 2 RX5 D (ty3 cyI cO cyZ) fa A := C
  have hx := C.1
  have hb := C.2.1
  have hl : lv_has ls 2 [(0, .ref (ad 0)), (1, .int x)] := hl
  refine lv_iload_n hx hb dX5_isPart_0 rfl (lv_at hl 1 rfl) ?_
  refine lv_iconst (v := 1) hx hb dX5_isPart_1 (by decide) ?_
  refine lv_iconst (v := 1) hx hb dX5_isPart_2 (by decide) ?_
  refine lv_aload_n hx hb dX5_isPart_3 rfl (lv_at hl 0 rfl) ?_
  refine u_get C hW inlX5 (by decide) cM_0 rfl 0 (by decide) mw_71 rfl dX5_isPart_4 ?_
  refine lv_ishl hx hb dX5_isPart_7 ?_
  refine u_top (show 1 <<< ((nI n) &&& 31) = nI (2 ^ n) from shl1 hn) ?_
  refine lv_iconst (v := 2) hx hb dX5_isPart_8 (by decide) ?_
  refine lv_isub hx hb dX5_isPart_9 ?_
  refine u_top (show (nI (2 ^ n)) - 2 = nI (2 ^ n - 2) from pk_sub (a := 2 ^ n) (b := 2) (by have := pw_half h2 hn; omega)) ?_
  refine u_callS (cf' := cM cyI cyZ ad n t md jd jn wm od bs ab be hh) (As := [.int x, .int 1, .int (nI (2 ^ n - 2))]) (rest := []) (st1 := [.int (mnV x 1 (nI (2 ^ n - 2)))]) C hW (c_X5_in l D cyI cO cyZ ad fa n t md jd jn wm od bs ab be hh x 1 (nI (2 ^ n - 2)) ) ms_yX5_in mw_91 rfl ⟨rfl, rfl, Nat.le_of_ble_eq_true rfl, Nat.le_of_ble_eq_true rfl⟩ hl (Nat.le_of_ble_eq_true rfl) rfl rfl dX5_isPart_10 (fun H locs hW => ?_)
  refine lv_if_eq (tgt := 27) hx hb dX5_isPart_13 (by decide) (fun c13_1 => ?_) (fun c13_1 => ?_)
  · skip
    refine lv_iconst (v := 0) hx hb dX5_isPart_27 (by decide) ?_
    exact u_zret C hr hW dX5_isPart_28 (by first | exact Or.inl rfl | exact Or.inr rfl) (by simp only [ipM, if_pos c13_1]) rfl
  · skip
    refine lv_iload_n hx hb dX5_isPart_16 rfl (lv_at hl 1 rfl) ?_
    refine lv_iconst (v := 1) hx hb dX5_isPart_17 (by decide) ?_
    refine lv_iand hx hb dX5_isPart_18 ?_
    refine lv_iconst (v := 1) hx hb dX5_isPart_19 (by decide) ?_
    refine lv_icmp_ne (tgt := 27) hx hb dX5_isPart_20 (by decide) (fun c20_2 => ?_) (fun c20_2 => ?_)
    · skip
      refine lv_iconst (v := 0) hx hb dX5_isPart_27 (by decide) ?_
      exact u_zret C hr hW dX5_isPart_28 (by first | exact Or.inl rfl | exact Or.inr rfl) (by simp only [ipM, if_neg c13_1, if_neg c20_2]) rfl
    · skip
      refine lv_iconst (v := 1) hx hb dX5_isPart_23 (by decide) ?_
      refine lv_goto (tgt := 28) hx hb dX5_isPart_24 (by decide) ?_
      exact u_zret C hr hW dX5_isPart_28 (by first | exact Or.inl rfl | exact Or.inr rfl) (by simp only [ipM, if_neg c13_1, if_pos c20_2]) rfl
set_option maxHeartbeats 4000000 in
set_option maxRecDepth 100000 in
theorem c_X5_weightOf (l : Launch) (D : va_G) (cyI cO cyZ : ClassId) (ad : Nat → Nat) (fa : Nat) (n : Nat) (t md jd jn wm od : Nat → Int32) (bs : Int32) (ab be hh : Int64) (x : Int32) (hn : n ≤ 6) : Ct l yX5_weightOf (Cond.code yX5_weightOf cX5_weightOf 10 (some .int) :: wsL_law) ({ frames := 1, cells := 0, slots := 0, locals := 22 } : Room) D (ty3 cyI cO cyZ) 7 ad fa [.ref (ad 0), .int x] (cM cyI cyZ ad n t md jd jn wm od bs ab be hh) (cM cyI cyZ ad n t md jd jn wm od bs ab be hh) (some (.int (wfV n t x))) := by
  refine Ct.of (by decide) (Nat.le_of_ble_eq_true rfl) ?_
  intro p e s m args below meth c A C hr H locs hW ls hl
  have C : Cx p s m args meth c cX5_weightOf 10 RX5 D (ty3 cyI cO cyZ) fa A := C
  have hx := C.1
  have hb := C.2.1
  have hl : lv_has ls 10 [(0, .ref (ad 0)), (1, .int x)] := hl
  refine lv_ldc (v := 1000000) hx hb C.2.2.2.1 (C.2.2.2.2.1 _ mw_352) dX5_weightOf_0 ?_
  refine lv_istore_n (lv' := [(2, .int 1000000), (0, .ref (ad 0)), (1, .int x)]) hx hb dX5_weightOf_2 rfl hl (by decide) rfl (fun ls hl => ?_)
  refine lv_iconst (v := 0) hx hb dX5_weightOf_3 (by decide) ?_
  refine lv_istore_n (lv' := [(3, .int 0), (2, .int 1000000), (0, .ref (ad 0)), (1, .int x)]) hx hb dX5_weightOf_4 rfl hl (by decide) rfl (fun ls hl => ?_)
  have L5 : ∀ (k5 : Nat) (i : Nat) (a : Int32), i + k5 = n → lp (wfI n t x) i k5 a = wfV n t x → ∀ (H : Heap) (locs : List Loc), Wd D 7 ad (cM cyI cyZ ad n t md jd jn wm od bs ab be hh) A s.heap H locs → ∀ ls : Array Slot, lv_has ls 10 [(3, .int (nI i)), (0, .ref (ad 0)), (1, .int x), (2, .int a)] → W p l e ({ frames := 1, cells := 0, slots := 0, locals := 22 } : Room) s m args below meth c H locs 0 0 (MQ below (uQ D 7 ad (cM cyI cyZ ad n t md jd jn wm od bs ab be hh) (some (.int (wfV n t x))) A) args s 0 0 A) (F0 m 5 ls []) := by
    intro k5
    induction k5 with
    | zero =>
      intro i a hi r5 H locs hW ls hl
      refine lv_iload_n hx hb dX5_weightOf_5 rfl (lv_at hl 0 rfl) ?_
      refine lv_aload_n hx hb dX5_weightOf_6 rfl (lv_at hl 1 rfl) ?_
      refine u_get C hW inlX5 (by decide) cM_0 rfl 0 (by decide) mw_71 rfl dX5_weightOf_7 ?_
      refine lv_icmp_ge (tgt := 204) hx hb dX5_weightOf_10 (by decide) (fun _ => ?_) (fun c9 => absurd (nI_le (by omega) (by omega)) c9)
      refine lv_iload_n hx hb dX5_weightOf_204 rfl (lv_at hl 3 rfl) ?_
      exact u_iret C hr hW dX5_weightOf_205 r5 rfl
    | succ k5 ih5 =>
      intro i a hi r5 H locs hW ls hl
      refine lv_iload_n hx hb dX5_weightOf_5 rfl (lv_at hl 0 rfl) ?_
      refine lv_aload_n hx hb dX5_weightOf_6 rfl (lv_at hl 1 rfl) ?_
      refine u_get C hW inlX5 (by decide) cM_0 rfl 0 (by decide) mw_71 rfl dX5_weightOf_7 ?_
      refine lv_icmp_ge (tgt := 204) hx hb dX5_weightOf_10 (by decide) (fun c9 => absurd c9 (nI_ge (by omega) (by omega))) (fun _ => ?_)
      refine lv_iload_n hx hb dX5_weightOf_13 rfl (lv_at hl 0 rfl) ?_
      refine lv_istore (lv' := [(4, .int (nI i)), (3, .int (nI i)), (0, .ref (ad 0)), (1, .int x), (2, .int a)]) hx hb dX5_weightOf_14 hl (by decide) rfl (fun ls hl => ?_)
      have L16 : ∀ (k16 : Nat) (j : Nat) (a : Int32), j + k16 = n → lp (wfI n t x) (i + 1) k5 (lp (wfJ n t x i) j k16 a) = wfV n t x → ∀ (H : Heap) (locs : List Loc), Wd D 7 ad (cM cyI cyZ ad n t md jd jn wm od bs ab be hh) A s.heap H locs → ∀ ls : Array Slot, lv_has ls 10 [(4, .int (nI j)), (0, .ref (ad 0)), (1, .int x), (2, .int a), (3, .int (nI i))] → W p l e ({ frames := 1, cells := 0, slots := 0, locals := 22 } : Room) s m args below meth c H locs 0 0 (MQ below (uQ D 7 ad (cM cyI cyZ ad n t md jd jn wm od bs ab be hh) (some (.int (wfV n t x))) A) args s 0 0 A) (F0 m 16 ls []) := by
        intro k16
        induction k16 with
        | zero =>
          intro j a hj r16 H locs hW ls hl
          refine lv_iload hx hb dX5_weightOf_16 (lv_at hl 0 rfl) ?_
          refine lv_aload_n hx hb dX5_weightOf_18 rfl (lv_at hl 1 rfl) ?_
          refine u_get C hW inlX5 (by decide) cM_0 rfl 0 (by decide) mw_71 rfl dX5_weightOf_19 ?_
          refine lv_icmp_ge (tgt := 198) hx hb dX5_weightOf_22 (by decide) (fun _ => ?_) (fun c9 => absurd (nI_le (by omega) (by omega)) c9)
          refine lv_iinc (v := nI (i + 1)) (lv' := [(3, .int (nI (i + 1))), (4, .int (nI j)), (0, .ref (ad 0)), (1, .int x), (2, .int a)]) hx hb dX5_weightOf_198 hl (k := 4) rfl (nI_1 _) (by decide) rfl (fun ls hl => ?_)
          refine lv_goto (tgt := 5) hx hb dX5_weightOf_201 (by decide) ?_
          exact ih5  (i + 1) a (by omega) r16 H locs hW ls (lv_sub hl [0, 2, 3, 4] rfl)
        | succ k16 ih16 =>
          intro j a hj r16 H locs hW ls hl
          refine lv_iload hx hb dX5_weightOf_16 (lv_at hl 0 rfl) ?_
          refine lv_aload_n hx hb dX5_weightOf_18 rfl (lv_at hl 1 rfl) ?_
          refine u_get C hW inlX5 (by decide) cM_0 rfl 0 (by decide) mw_71 rfl dX5_weightOf_19 ?_
          refine lv_icmp_ge (tgt := 198) hx hb dX5_weightOf_22 (by decide) (fun c9 => absurd c9 (nI_ge (by omega) (by omega))) (fun _ => ?_)
          refine lv_iconst (v := 0) hx hb dX5_weightOf_25 (by decide) ?_
          refine lv_istore (lv' := [(5, .int 0), (4, .int (nI j)), (0, .ref (ad 0)), (1, .int x), (2, .int a), (3, .int (nI i))]) hx hb dX5_weightOf_26 hl (by decide) rfl (fun ls hl => ?_)
          have L28 : ∀ (k28 : Nat) (k : Nat) (a : Int32), k + k28 = n → lp (wfI n t x) (i + 1) k5 (lp (wfJ n t x i) (j + 1) k16 (lp (wfK n t x i j) k k28 a)) = wfV n t x → ∀ (H : Heap) (locs : List Loc), Wd D 7 ad (cM cyI cyZ ad n t md jd jn wm od bs ab be hh) A s.heap H locs → ∀ ls : Array Slot, lv_has ls 10 [(5, .int (nI k)), (0, .ref (ad 0)), (1, .int x), (2, .int a), (3, .int (nI i)), (4, .int (nI j))] → W p l e ({ frames := 1, cells := 0, slots := 0, locals := 22 } : Room) s m args below meth c H locs 0 0 (MQ below (uQ D 7 ad (cM cyI cyZ ad n t md jd jn wm od bs ab be hh) (some (.int (wfV n t x))) A) args s 0 0 A) (F0 m 28 ls []) := by
            intro k28
            induction k28 with
            | zero =>
              intro k a hk r28 H locs hW ls hl
              refine lv_iload hx hb dX5_weightOf_28 (lv_at hl 0 rfl) ?_
              refine lv_aload_n hx hb dX5_weightOf_30 rfl (lv_at hl 1 rfl) ?_
              refine u_get C hW inlX5 (by decide) cM_0 rfl 0 (by decide) mw_71 rfl dX5_weightOf_31 ?_
              refine lv_icmp_ge (tgt := 192) hx hb dX5_weightOf_34 (by decide) (fun _ => ?_) (fun c9 => absurd (nI_le (by omega) (by omega)) c9)
              refine lv_iinc (v := nI (j + 1)) (lv' := [(4, .int (nI (j + 1))), (5, .int (nI k)), (0, .ref (ad 0)), (1, .int x), (2, .int a), (3, .int (nI i))]) hx hb dX5_weightOf_192 hl (k := 5) rfl (nI_1 _) (by decide) rfl (fun ls hl => ?_)
              refine lv_goto (tgt := 16) hx hb dX5_weightOf_195 (by decide) ?_
              exact ih16  (j + 1) a (by omega) r28 H locs hW ls (lv_sub hl [0, 2, 3, 4, 5] rfl)
            | succ k28 ih28 =>
              intro k a hk r28 H locs hW ls hl
              refine lv_iload hx hb dX5_weightOf_28 (lv_at hl 0 rfl) ?_
              refine lv_aload_n hx hb dX5_weightOf_30 rfl (lv_at hl 1 rfl) ?_
              refine u_get C hW inlX5 (by decide) cM_0 rfl 0 (by decide) mw_71 rfl dX5_weightOf_31 ?_
              refine lv_icmp_ge (tgt := 192) hx hb dX5_weightOf_34 (by decide) (fun c9 => absurd c9 (nI_ge (by omega) (by omega))) (fun _ => ?_)
              refine lv_iload hx hb dX5_weightOf_37 (lv_at hl 0 rfl) ?_
              refine lv_istore (lv' := [(6, .int (nI k)), (5, .int (nI k)), (0, .ref (ad 0)), (1, .int x), (2, .int a), (3, .int (nI i)), (4, .int (nI j))]) hx hb dX5_weightOf_39 hl (by decide) rfl (fun ls hl => ?_)
              have L41 : ∀ (k41 : Nat) (q : Nat) (a : Int32), q + k41 = n → lp (wfI n t x) (i + 1) k5 (lp (wfJ n t x i) (j + 1) k16 (lp (wfK n t x i j) (k + 1) k28 (lp (wfL t x i j k) q k41 a))) = wfV n t x → ∀ (H : Heap) (locs : List Loc), Wd D 7 ad (cM cyI cyZ ad n t md jd jn wm od bs ab be hh) A s.heap H locs → ∀ ls : Array Slot, lv_has ls 10 [(6, .int (nI q)), (0, .ref (ad 0)), (1, .int x), (2, .int a), (3, .int (nI i)), (4, .int (nI j)), (5, .int (nI k))] → W p l e ({ frames := 1, cells := 0, slots := 0, locals := 22 } : Room) s m args below meth c H locs 0 0 (MQ below (uQ D 7 ad (cM cyI cyZ ad n t md jd jn wm od bs ab be hh) (some (.int (wfV n t x))) A) args s 0 0 A) (F0 m 41 ls []) := by
                intro k41
                induction k41 with
                | zero =>
                  intro q a hq r41 H locs hW ls hl
                  refine lv_iload hx hb dX5_weightOf_41 (lv_at hl 0 rfl) ?_
                  refine lv_aload_n hx hb dX5_weightOf_43 rfl (lv_at hl 1 rfl) ?_
                  refine u_get C hW inlX5 (by decide) cM_0 rfl 0 (by decide) mw_71 rfl dX5_weightOf_44 ?_
                  refine lv_icmp_ge (tgt := 186) hx hb dX5_weightOf_47 (by decide) (fun _ => ?_) (fun c9 => absurd (nI_le (by omega) (by omega)) c9)
                  refine lv_iinc (v := nI (k + 1)) (lv' := [(5, .int (nI (k + 1))), (6, .int (nI q)), (0, .ref (ad 0)), (1, .int x), (2, .int a), (3, .int (nI i)), (4, .int (nI j))]) hx hb dX5_weightOf_186 hl (k := 6) rfl (nI_1 _) (by decide) rfl (fun ls hl => ?_)
                  refine lv_goto (tgt := 28) hx hb dX5_weightOf_189 (by decide) ?_
                  exact ih28  (k + 1) a (by omega) r41 H locs hW ls (lv_sub hl [0, 2, 3, 4, 5, 6] rfl)
                | succ k41 ih41 =>
                  intro q a hq r41 H locs hW ls hl
                  refine lv_iload hx hb dX5_weightOf_41 (lv_at hl 0 rfl) ?_
                  refine lv_aload_n hx hb dX5_weightOf_43 rfl (lv_at hl 1 rfl) ?_
                  refine u_get C hW inlX5 (by decide) cM_0 rfl 0 (by decide) mw_71 rfl dX5_weightOf_44 ?_
                  refine lv_icmp_ge (tgt := 186) hx hb dX5_weightOf_47 (by decide) (fun c9 => absurd c9 (nI_ge (by omega) (by omega))) (fun _ => ?_)
                  refine lv_iload_n hx hb dX5_weightOf_50 rfl (lv_at hl 2 rfl) ?_
                  refine lv_iload_n hx hb dX5_weightOf_51 rfl (lv_at hl 4 rfl) ?_
                  refine lv_ishr hx hb dX5_weightOf_52 ?_
                  refine lv_iload_n hx hb dX5_weightOf_53 rfl (lv_at hl 2 rfl) ?_
                  refine lv_iload hx hb dX5_weightOf_54 (lv_at hl 5 rfl) ?_
                  refine lv_ishr hx hb dX5_weightOf_56 ?_
                  refine lv_iand hx hb dX5_weightOf_57 ?_
                  refine lv_iconst (v := 1) hx hb dX5_weightOf_58 (by decide) ?_
                  refine lv_iand hx hb dX5_weightOf_59 ?_
                  refine lv_iconst (v := 1) hx hb dX5_weightOf_60 (by decide) ?_
                  refine lv_icmp_ne (tgt := 82) hx hb dX5_weightOf_61 (by decide) (fun c61_1 => ?_) (fun c61_1 => ?_)
                  · skip
                    refine lv_iconst (v := 0) hx hb dX5_weightOf_82 (by decide) ?_
                    refine lv_istore (lv' := [(7, .int 0), (6, .int (nI q)), (0, .ref (ad 0)), (1, .int x), (2, .int a), (3, .int (nI i)), (4, .int (nI j)), (5, .int (nI k))]) hx hb dX5_weightOf_83 hl (by decide) rfl (fun ls hl => ?_)
                    refine lv_iload hx hb dX5_weightOf_85 (lv_at hl 0 rfl) ?_
                    refine lv_if_eq (tgt := 180) hx hb dX5_weightOf_87 (by decide) (fun _ => ?_) (fun c9 => absurd rfl c9)
                    refine lv_iinc (v := nI (q + 1)) (lv' := [(6, .int (nI (q + 1))), (7, .int 0), (0, .ref (ad 0)), (1, .int x), (2, .int a), (3, .int (nI i)), (4, .int (nI j)), (5, .int (nI k))]) hx hb dX5_weightOf_180 hl (k := 1) rfl (nI_1 _) (by decide) rfl (fun ls hl => ?_)
                    refine lv_goto (tgt := 41) hx hb dX5_weightOf_183 (by decide) ?_
                    exact ih41  (q + 1) a (by omega) (by have h9 := r41; simp only [lp_s, lp_0, wfL, if_neg c61_1] at h9; exact h9) H locs hW ls (lv_sub hl [0, 2, 3, 4, 5, 6, 7] rfl)
                  · skip
                    refine lv_iload_n hx hb dX5_weightOf_64 rfl (lv_at hl 2 rfl) ?_
                    refine lv_iload hx hb dX5_weightOf_65 (lv_at hl 6 rfl) ?_
                    refine lv_ishr hx hb dX5_weightOf_67 ?_
                    refine lv_iload_n hx hb dX5_weightOf_68 rfl (lv_at hl 2 rfl) ?_
                    refine lv_iload hx hb dX5_weightOf_69 (lv_at hl 0 rfl) ?_
                    refine lv_ishr hx hb dX5_weightOf_71 ?_
                    refine lv_ior hx hb dX5_weightOf_72 ?_
                    refine lv_iconst (v := 1) hx hb dX5_weightOf_73 (by decide) ?_
                    refine lv_iand hx hb dX5_weightOf_74 ?_
                    refine lv_if_ne (tgt := 82) hx hb dX5_weightOf_75 (by decide) (fun c75_2 => ?_) (fun c75_2 => ?_)
                    · skip
                      refine lv_iconst (v := 0) hx hb dX5_weightOf_82 (by decide) ?_
                      refine lv_istore (lv' := [(7, .int 0), (6, .int (nI q)), (0, .ref (ad 0)), (1, .int x), (2, .int a), (3, .int (nI i)), (4, .int (nI j)), (5, .int (nI k))]) hx hb dX5_weightOf_83 hl (by decide) rfl (fun ls hl => ?_)
                      refine lv_iload hx hb dX5_weightOf_85 (lv_at hl 0 rfl) ?_
                      refine lv_if_eq (tgt := 180) hx hb dX5_weightOf_87 (by decide) (fun _ => ?_) (fun c9 => absurd rfl c9)
                      refine lv_iinc (v := nI (q + 1)) (lv' := [(6, .int (nI (q + 1))), (7, .int 0), (0, .ref (ad 0)), (1, .int x), (2, .int a), (3, .int (nI i)), (4, .int (nI j)), (5, .int (nI k))]) hx hb dX5_weightOf_180 hl (k := 1) rfl (nI_1 _) (by decide) rfl (fun ls hl => ?_)
                      refine lv_goto (tgt := 41) hx hb dX5_weightOf_183 (by decide) ?_
                      exact ih41  (q + 1) a (by omega) (by have h9 := r41; simp only [lp_s, lp_0, wfL, if_pos c61_1, if_neg c75_2] at h9; exact h9) H locs hW ls (lv_sub hl [0, 2, 3, 4, 5, 6, 7] rfl)
                    · skip
                      refine lv_iconst (v := 1) hx hb dX5_weightOf_78 (by decide) ?_
                      refine lv_goto (tgt := 83) hx hb dX5_weightOf_79 (by decide) ?_
                      refine lv_istore (lv' := [(7, .int 1), (6, .int (nI q)), (0, .ref (ad 0)), (1, .int x), (2, .int a), (3, .int (nI i)), (4, .int (nI j)), (5, .int (nI k))]) hx hb dX5_weightOf_83 hl (by decide) rfl (fun ls hl => ?_)
                      refine lv_iload hx hb dX5_weightOf_85 (lv_at hl 0 rfl) ?_
                      refine lv_if_eq (tgt := 180) hx hb dX5_weightOf_87 (by decide) (fun c9 => absurd c9 (by decide)) (fun _ => ?_)
                      refine lv_aload_n hx hb dX5_weightOf_90 rfl (lv_at hl 2 rfl) ?_
                      refine lv_iload_n hx hb dX5_weightOf_91 rfl (lv_at hl 5 rfl) ?_
                      refine lv_iload hx hb dX5_weightOf_92 (lv_at hl 6 rfl) ?_
                      refine u_callV (cf' := cM cyI cyZ ad n t md jd jn wm od bs ab be hh) (As := [.int (nI i), .int (nI j)]) (rest := []) (st1 := [.int (t (6 * i + j))]) C hW (c_X5_d l D cyI cO cyZ ad fa n t md jd jn wm od bs ab be hh i j (by omega) (by omega)) mv_yX5_d mw_126 rfl ⟨rfl, rfl, Nat.le_of_ble_eq_true rfl, Nat.le_of_ble_eq_true rfl⟩ (by decide) cM_0 rfl rfl hl (Nat.le_of_ble_eq_true rfl) rfl rfl dX5_weightOf_94 (fun H locs hW => ?_)
                      refine lv_aload_n hx hb dX5_weightOf_97 rfl (lv_at hl 2 rfl) ?_
                      refine lv_iload hx hb dX5_weightOf_98 (lv_at hl 7 rfl) ?_
                      refine lv_iload hx hb dX5_weightOf_100 (lv_at hl 1 rfl) ?_
                      refine u_callV (cf' := cM cyI cyZ ad n t md jd jn wm od bs ab be hh) (As := [.int (nI k), .int (nI q)]) (rest := [.int (t (6 * i + j))]) (st1 := [.int (t (6 * k + q)), .int (t (6 * i + j))]) C hW (c_X5_d l D cyI cO cyZ ad fa n t md jd jn wm od bs ab be hh k q (by omega) (by omega)) mv_yX5_d mw_126 rfl ⟨rfl, rfl, Nat.le_of_ble_eq_true rfl, Nat.le_of_ble_eq_true rfl⟩ (by decide) cM_0 rfl rfl hl (Nat.le_of_ble_eq_true rfl) rfl rfl dX5_weightOf_102 (fun H locs hW => ?_)
                      refine lv_iadd hx hb dX5_weightOf_105 ?_
                      refine lv_aload_n hx hb dX5_weightOf_106 rfl (lv_at hl 2 rfl) ?_
                      refine lv_iload_n hx hb dX5_weightOf_107 rfl (lv_at hl 5 rfl) ?_
                      refine lv_iload hx hb dX5_weightOf_108 (lv_at hl 7 rfl) ?_
                      refine u_callV (cf' := cM cyI cyZ ad n t md jd jn wm od bs ab be hh) (As := [.int (nI i), .int (nI k)]) (rest := [.int ((t (6 * i + j)) + (t (6 * k + q)))]) (st1 := [.int (t (6 * i + k)), .int ((t (6 * i + j)) + (t (6 * k + q)))]) C hW (c_X5_d l D cyI cO cyZ ad fa n t md jd jn wm od bs ab be hh i k (by omega) (by omega)) mv_yX5_d mw_126 rfl ⟨rfl, rfl, Nat.le_of_ble_eq_true rfl, Nat.le_of_ble_eq_true rfl⟩ (by decide) cM_0 rfl rfl hl (Nat.le_of_ble_eq_true rfl) rfl rfl dX5_weightOf_110 (fun H locs hW => ?_)
                      refine lv_aload_n hx hb dX5_weightOf_113 rfl (lv_at hl 2 rfl) ?_
                      refine lv_iload hx hb dX5_weightOf_114 (lv_at hl 6 rfl) ?_
                      refine lv_iload hx hb dX5_weightOf_116 (lv_at hl 1 rfl) ?_
                      refine u_callV (cf' := cM cyI cyZ ad n t md jd jn wm od bs ab be hh) (As := [.int (nI j), .int (nI q)]) (rest := [.int (t (6 * i + k)), .int ((t (6 * i + j)) + (t (6 * k + q)))]) (st1 := [.int (t (6 * j + q)), .int (t (6 * i + k)), .int ((t (6 * i + j)) + (t (6 * k + q)))]) C hW (c_X5_d l D cyI cO cyZ ad fa n t md jd jn wm od bs ab be hh j q (by omega) (by omega)) mv_yX5_d mw_126 rfl ⟨rfl, rfl, Nat.le_of_ble_eq_true rfl, Nat.le_of_ble_eq_true rfl⟩ (by decide) cM_0 rfl rfl hl (Nat.le_of_ble_eq_true rfl) rfl rfl dX5_weightOf_118 (fun H locs hW => ?_)
                      refine lv_iadd hx hb dX5_weightOf_121 ?_
                      refine lv_aload_n hx hb dX5_weightOf_122 rfl (lv_at hl 2 rfl) ?_
                      refine lv_iload_n hx hb dX5_weightOf_123 rfl (lv_at hl 5 rfl) ?_
                      refine lv_iload hx hb dX5_weightOf_124 (lv_at hl 1 rfl) ?_
                      refine u_callV (cf' := cM cyI cyZ ad n t md jd jn wm od bs ab be hh) (As := [.int (nI i), .int (nI q)]) (rest := [.int ((t (6 * i + k)) + (t (6 * j + q))), .int ((t (6 * i + j)) + (t (6 * k + q)))]) (st1 := [.int (t (6 * i + q)), .int ((t (6 * i + k)) + (t (6 * j + q))), .int ((t (6 * i + j)) + (t (6 * k + q)))]) C hW (c_X5_d l D cyI cO cyZ ad fa n t md jd jn wm od bs ab be hh i q (by omega) (by omega)) mv_yX5_d mw_126 rfl ⟨rfl, rfl, Nat.le_of_ble_eq_true rfl, Nat.le_of_ble_eq_true rfl⟩ (by decide) cM_0 rfl rfl hl (Nat.le_of_ble_eq_true rfl) rfl rfl dX5_weightOf_126 (fun H locs hW => ?_)
                      refine lv_aload_n hx hb dX5_weightOf_129 rfl (lv_at hl 2 rfl) ?_
                      refine lv_iload hx hb dX5_weightOf_130 (lv_at hl 6 rfl) ?_
                      refine lv_iload hx hb dX5_weightOf_132 (lv_at hl 7 rfl) ?_
                      refine u_callV (cf' := cM cyI cyZ ad n t md jd jn wm od bs ab be hh) (As := [.int (nI j), .int (nI k)]) (rest := [.int (t (6 * i + q)), .int ((t (6 * i + k)) + (t (6 * j + q))), .int ((t (6 * i + j)) + (t (6 * k + q)))]) (st1 := [.int (t (6 * j + k)), .int (t (6 * i + q)), .int ((t (6 * i + k)) + (t (6 * j + q))), .int ((t (6 * i + j)) + (t (6 * k + q)))]) C hW (c_X5_d l D cyI cO cyZ ad fa n t md jd jn wm od bs ab be hh j k (by omega) (by omega)) mv_yX5_d mw_126 rfl ⟨rfl, rfl, Nat.le_of_ble_eq_true rfl, Nat.le_of_ble_eq_true rfl⟩ (by decide) cM_0 rfl rfl hl (Nat.le_of_ble_eq_true rfl) rfl rfl dX5_weightOf_134 (fun H locs hW => ?_)
                      refine lv_iadd hx hb dX5_weightOf_137 ?_
                      refine u_callS (cf' := cM cyI cyZ ad n t md jd jn wm od bs ab be hh) (As := [.int ((t (6 * i + k)) + (t (6 * j + q))), .int ((t (6 * i + q)) + (t (6 * j + k)))]) (rest := [.int ((t (6 * i + j)) + (t (6 * k + q)))]) (st1 := [.int (grt ((t (6 * i + k)) + (t (6 * j + q))) ((t (6 * i + q)) + (t (6 * j + k)))), .int ((t (6 * i + j)) + (t (6 * k + q)))]) C hW (c_X5_greater l D cyI cO cyZ ad fa n t md jd jn wm od bs ab be hh ((t (6 * i + k)) + (t (6 * j + q))) ((t (6 * i + q)) + (t (6 * j + k))) ) ms_yX5_greater mw_175 rfl ⟨rfl, rfl, Nat.le_of_ble_eq_true rfl, Nat.le_of_ble_eq_true rfl⟩ hl (Nat.le_of_ble_eq_true rfl) rfl rfl dX5_weightOf_138 (fun H locs hW => ?_)
                      refine u_callS (cf' := cM cyI cyZ ad n t md jd jn wm od bs ab be hh) (As := [.int ((t (6 * i + j)) + (t (6 * k + q))), .int (grt ((t (6 * i + k)) + (t (6 * j + q))) ((t (6 * i + q)) + (t (6 * j + k))))]) (rest := []) (st1 := [.int (grt ((t (6 * i + j)) + (t (6 * k + q))) (grt ((t (6 * i + k)) + (t (6 * j + q))) ((t (6 * i + q)) + (t (6 * j + k)))))]) C hW (c_X5_greater l D cyI cO cyZ ad fa n t md jd jn wm od bs ab be hh ((t (6 * i + j)) + (t (6 * k + q))) (grt ((t (6 * i + k)) + (t (6 * j + q))) ((t (6 * i + q)) + (t (6 * j + k)))) ) ms_yX5_greater mw_175 rfl ⟨rfl, rfl, Nat.le_of_ble_eq_true rfl, Nat.le_of_ble_eq_true rfl⟩ hl (Nat.le_of_ble_eq_true rfl) rfl rfl dX5_weightOf_141 (fun H locs hW => ?_)
                      refine lv_istore (lv' := [(8, .int (grt ((t (6 * i + j)) + (t (6 * k + q))) (grt ((t (6 * i + k)) + (t (6 * j + q))) ((t (6 * i + q)) + (t (6 * j + k)))))), (7, .int 1), (6, .int (nI q)), (0, .ref (ad 0)), (1, .int x), (2, .int a), (3, .int (nI i)), (4, .int (nI j)), (5, .int (nI k))]) hx hb dX5_weightOf_144 hl (by decide) rfl (fun ls hl => ?_)
                      refine lv_iload hx hb dX5_weightOf_146 (lv_at hl 0 rfl) ?_
                      refine lv_aload_n hx hb dX5_weightOf_148 rfl (lv_at hl 3 rfl) ?_
                      refine lv_iload_n hx hb dX5_weightOf_149 rfl (lv_at hl 6 rfl) ?_
                      refine lv_iload hx hb dX5_weightOf_150 (lv_at hl 7 rfl) ?_
                      refine u_callV (cf' := cM cyI cyZ ad n t md jd jn wm od bs ab be hh) (As := [.int (nI i), .int (nI j)]) (rest := [.int (grt ((t (6 * i + j)) + (t (6 * k + q))) (grt ((t (6 * i + k)) + (t (6 * j + q))) ((t (6 * i + q)) + (t (6 * j + k)))))]) (st1 := [.int (t (6 * i + j)), .int (grt ((t (6 * i + j)) + (t (6 * k + q))) (grt ((t (6 * i + k)) + (t (6 * j + q))) ((t (6 * i + q)) + (t (6 * j + k)))))]) C hW (c_X5_d l D cyI cO cyZ ad fa n t md jd jn wm od bs ab be hh i j (by omega) (by omega)) mv_yX5_d mw_126 rfl ⟨rfl, rfl, Nat.le_of_ble_eq_true rfl, Nat.le_of_ble_eq_true rfl⟩ (by decide) cM_0 rfl rfl hl (Nat.le_of_ble_eq_true rfl) rfl rfl dX5_weightOf_152 (fun H locs hW => ?_)
                      refine lv_isub hx hb dX5_weightOf_155 ?_
                      refine lv_aload_n hx hb dX5_weightOf_156 rfl (lv_at hl 3 rfl) ?_
                      refine lv_iload hx hb dX5_weightOf_157 (lv_at hl 8 rfl) ?_
                      refine lv_iload hx hb dX5_weightOf_159 (lv_at hl 2 rfl) ?_
                      refine u_callV (cf' := cM cyI cyZ ad n t md jd jn wm od bs ab be hh) (As := [.int (nI k), .int (nI q)]) (rest := [.int ((grt ((t (6 * i + j)) + (t (6 * k + q))) (grt ((t (6 * i + k)) + (t (6 * j + q))) ((t (6 * i + q)) + (t (6 * j + k))))) - (t (6 * i + j)))]) (st1 := [.int (t (6 * k + q)), .int ((grt ((t (6 * i + j)) + (t (6 * k + q))) (grt ((t (6 * i + k)) + (t (6 * j + q))) ((t (6 * i + q)) + (t (6 * j + k))))) - (t (6 * i + j)))]) C hW (c_X5_d l D cyI cO cyZ ad fa n t md jd jn wm od bs ab be hh k q (by omega) (by omega)) mv_yX5_d mw_126 rfl ⟨rfl, rfl, Nat.le_of_ble_eq_true rfl, Nat.le_of_ble_eq_true rfl⟩ (by decide) cM_0 rfl rfl hl (Nat.le_of_ble_eq_true rfl) rfl rfl dX5_weightOf_161 (fun H locs hW => ?_)
                      refine lv_isub hx hb dX5_weightOf_164 ?_
                      refine lv_istore (lv' := [(9, .int (((grt ((t (6 * i + j)) + (t (6 * k + q))) (grt ((t (6 * i + k)) + (t (6 * j + q))) ((t (6 * i + q)) + (t (6 * j + k))))) - (t (6 * i + j))) - (t (6 * k + q)))), (8, .int (grt ((t (6 * i + j)) + (t (6 * k + q))) (grt ((t (6 * i + k)) + (t (6 * j + q))) ((t (6 * i + q)) + (t (6 * j + k)))))), (7, .int 1), (6, .int (nI q)), (0, .ref (ad 0)), (1, .int x), (2, .int a), (3, .int (nI i)), (4, .int (nI j)), (5, .int (nI k))]) hx hb dX5_weightOf_165 hl (by decide) rfl (fun ls hl => ?_)
                      refine lv_iload hx hb dX5_weightOf_167 (lv_at hl 0 rfl) ?_
                      refine lv_iload_n hx hb dX5_weightOf_169 rfl (lv_at hl 6 rfl) ?_
                      refine lv_icmp_ge (tgt := 178) hx hb dX5_weightOf_170 (by decide) (fun c170_3 => ?_) (fun c170_3 => ?_)
                      · skip
                        refine lv_iload_n hx hb dX5_weightOf_178 rfl (lv_at hl 6 rfl) ?_
                        refine lv_istore_n (lv' := [(2, .int a), (9, .int (((grt ((t (6 * i + j)) + (t (6 * k + q))) (grt ((t (6 * i + k)) + (t (6 * j + q))) ((t (6 * i + q)) + (t (6 * j + k))))) - (t (6 * i + j))) - (t (6 * k + q)))), (8, .int (grt ((t (6 * i + j)) + (t (6 * k + q))) (grt ((t (6 * i + k)) + (t (6 * j + q))) ((t (6 * i + q)) + (t (6 * j + k)))))), (7, .int 1), (6, .int (nI q)), (0, .ref (ad 0)), (1, .int x), (3, .int (nI i)), (4, .int (nI j)), (5, .int (nI k))]) hx hb dX5_weightOf_179 rfl hl (by decide) rfl (fun ls hl => ?_)
                        refine lv_iinc (v := nI (q + 1)) (lv' := [(6, .int (nI (q + 1))), (2, .int a), (9, .int (((grt ((t (6 * i + j)) + (t (6 * k + q))) (grt ((t (6 * i + k)) + (t (6 * j + q))) ((t (6 * i + q)) + (t (6 * j + k))))) - (t (6 * i + j))) - (t (6 * k + q)))), (8, .int (grt ((t (6 * i + j)) + (t (6 * k + q))) (grt ((t (6 * i + k)) + (t (6 * j + q))) ((t (6 * i + q)) + (t (6 * j + k)))))), (7, .int 1), (0, .ref (ad 0)), (1, .int x), (3, .int (nI i)), (4, .int (nI j)), (5, .int (nI k))]) hx hb dX5_weightOf_180 hl (k := 4) rfl (nI_1 _) (by decide) rfl (fun ls hl => ?_)
                        refine lv_goto (tgt := 41) hx hb dX5_weightOf_183 (by decide) ?_
                        exact ih41  (q + 1) a (by omega) (by have h9 := r41; simp only [lp_s, lp_0, wfL, if_pos c61_1, if_pos c75_2, if_pos c170_3] at h9; exact h9) H locs hW ls (lv_sub hl [0, 5, 6, 1, 7, 8, 9] rfl)
                      · skip
                        refine lv_iload hx hb dX5_weightOf_173 (lv_at hl 0 rfl) ?_
                        refine lv_goto (tgt := 179) hx hb dX5_weightOf_175 (by decide) ?_
                        refine lv_istore_n (lv' := [(2, .int (((grt ((t (6 * i + j)) + (t (6 * k + q))) (grt ((t (6 * i + k)) + (t (6 * j + q))) ((t (6 * i + q)) + (t (6 * j + k))))) - (t (6 * i + j))) - (t (6 * k + q)))), (9, .int (((grt ((t (6 * i + j)) + (t (6 * k + q))) (grt ((t (6 * i + k)) + (t (6 * j + q))) ((t (6 * i + q)) + (t (6 * j + k))))) - (t (6 * i + j))) - (t (6 * k + q)))), (8, .int (grt ((t (6 * i + j)) + (t (6 * k + q))) (grt ((t (6 * i + k)) + (t (6 * j + q))) ((t (6 * i + q)) + (t (6 * j + k)))))), (7, .int 1), (6, .int (nI q)), (0, .ref (ad 0)), (1, .int x), (3, .int (nI i)), (4, .int (nI j)), (5, .int (nI k))]) hx hb dX5_weightOf_179 rfl hl (by decide) rfl (fun ls hl => ?_)
                        refine lv_iinc (v := nI (q + 1)) (lv' := [(6, .int (nI (q + 1))), (2, .int (((grt ((t (6 * i + j)) + (t (6 * k + q))) (grt ((t (6 * i + k)) + (t (6 * j + q))) ((t (6 * i + q)) + (t (6 * j + k))))) - (t (6 * i + j))) - (t (6 * k + q)))), (9, .int (((grt ((t (6 * i + j)) + (t (6 * k + q))) (grt ((t (6 * i + k)) + (t (6 * j + q))) ((t (6 * i + q)) + (t (6 * j + k))))) - (t (6 * i + j))) - (t (6 * k + q)))), (8, .int (grt ((t (6 * i + j)) + (t (6 * k + q))) (grt ((t (6 * i + k)) + (t (6 * j + q))) ((t (6 * i + q)) + (t (6 * j + k)))))), (7, .int 1), (0, .ref (ad 0)), (1, .int x), (3, .int (nI i)), (4, .int (nI j)), (5, .int (nI k))]) hx hb dX5_weightOf_180 hl (k := 4) rfl (nI_1 _) (by decide) rfl (fun ls hl => ?_)
                        refine lv_goto (tgt := 41) hx hb dX5_weightOf_183 (by decide) ?_
                        exact ih41  (q + 1) (((grt ((t (6 * i + j)) + (t (6 * k + q))) (grt ((t (6 * i + k)) + (t (6 * j + q))) ((t (6 * i + q)) + (t (6 * j + k))))) - (t (6 * i + j))) - (t (6 * k + q))) (by omega) (by have h9 := r41; simp only [lp_s, lp_0, wfL, if_pos c61_1, if_pos c75_2, if_neg c170_3] at h9; exact h9) H locs hW ls (lv_sub hl [0, 5, 6, 1, 7, 8, 9] rfl)
              exact L41 (n - k) k a (by omega) r28 H locs hW ls (lv_sub hl [0, 2, 3, 4, 5, 6, 1] rfl)
          exact L28 n 0 a (by omega) r16 H locs hW ls (lv_sub hl [0, 2, 3, 4, 5, 1] rfl)
      exact L16 (n - i) i a (by omega) r5 H locs hW ls (lv_sub hl [0, 2, 3, 4, 1] rfl)
  exact L5 n 0 1000000 (by omega) rfl H locs hW ls (lv_sub hl [0, 2, 3, 1] rfl)
set_option maxHeartbeats 4000000 in
set_option maxRecDepth 100000 in
theorem c_X5_weight (l : Launch) (D : va_G) (cyI cO cyZ : ClassId) (ad : Nat → Nat) (fa : Nat) (n : Nat) (t md jd jn wm od : Nat → Int32) (bs : Int32) (ab be hh : Int64) (x : Int32) (hn : n ≤ 6) (h2 : 2 ≤ n) : Ct l yX5_weight (Cond.code yX5_weight cX5_weight 2 (some .int) :: wsL_law) ({ frames := 3, cells := 0, slots := 0, locals := 76 } : Room) D (ty3 cyI cO cyZ) 7 ad fa [.ref (ad 0), .int x] (cM cyI cyZ ad n t md jd jn wm od bs ab be hh) (cM cyI cyZ ad n t md jd jn wm od bs ab be hh) (some (.int (wgR n t x))) := by
  refine Ct.of (by decide) (Nat.le_of_ble_eq_true rfl) ?_
  intro p e s m args below meth c A C hr H locs hW ls hl
  have C : Cx p s m args meth c cX5_weight 2 RX5 D (ty3 cyI cO cyZ) fa A := C
  have hx := C.1
  have hb := C.2.1
  have hl : lv_has ls 2 [(0, .ref (ad 0)), (1, .int x)] := hl
  refine lv_aload_n hx hb dX5_weight_0 rfl (lv_at hl 0 rfl) ?_
  refine lv_iload_n hx hb dX5_weight_1 rfl (lv_at hl 1 rfl) ?_
  refine u_callV (cf' := cM cyI cyZ ad n t md jd jn wm od bs ab be hh) (As := [.int x]) (rest := []) (st1 := [.int (ipM n x)]) C hW (c_X5_isPart l D cyI cO cyZ ad fa n t md jd jn wm od bs ab be hh x (by omega) (by omega)) mv_yX5_isPart mw_458 rfl ⟨rfl, rfl, Nat.le_of_ble_eq_true rfl, Nat.le_of_ble_eq_true rfl⟩ (by decide) cM_0 rfl rfl hl (Nat.le_of_ble_eq_true rfl) rfl rfl dX5_weight_2 (fun H locs hW => ?_)
  refine lv_if_ne (tgt := 11) hx hb dX5_weight_5 (by decide) (fun c5_1 => ?_) (fun c5_1 => ?_)
  · skip
    refine lv_aload_n hx hb dX5_weight_11 rfl (lv_at hl 0 rfl) ?_
    refine lv_iconst (v := 0) hx hb dX5_weight_12 (by decide) ?_
    refine u_callV (cf' := cM cyI cyZ ad n t md jd jn wm od bs ab be hh) (As := [.int 0]) (rest := []) (st1 := [.int (boV n t 0)]) C hW (c_X5_brokenOf l D cyI cO cyZ ad fa n t md jd jn wm od bs ab be hh 0 (by omega)) mv_yX5_brokenOf mw_171 rfl ⟨rfl, rfl, Nat.le_of_ble_eq_true rfl, Nat.le_of_ble_eq_true rfl⟩ (by decide) cM_0 rfl rfl hl (Nat.le_of_ble_eq_true rfl) rfl rfl dX5_weight_13 (fun H locs hW => ?_)
    refine lv_if_le (tgt := 24) hx hb dX5_weight_16 (by decide) (fun c16_2 => ?_) (fun c16_2 => ?_)
    · skip
      refine lv_aload_n hx hb dX5_weight_24 rfl (lv_at hl 0 rfl) ?_
      refine lv_iload_n hx hb dX5_weight_25 rfl (lv_at hl 1 rfl) ?_
      refine u_callV (cf' := cM cyI cyZ ad n t md jd jn wm od bs ab be hh) (As := [.int x]) (rest := []) (st1 := [.int (wfV n t x)]) C hW (c_X5_weightOf l D cyI cO cyZ ad fa n t md jd jn wm od bs ab be hh x (by omega)) mv_yX5_weightOf mw_462 rfl ⟨rfl, rfl, Nat.le_of_ble_eq_true rfl, Nat.le_of_ble_eq_true rfl⟩ (by decide) cM_0 rfl rfl hl (Nat.le_of_ble_eq_true rfl) rfl rfl dX5_weight_26 (fun H locs hW => ?_)
      exact u_iret C hr hW dX5_weight_29 (by simp only [wgR, if_neg c5_1, if_pos c16_2]) rfl
    · skip
      refine lv_bipush (v := -103) hx hb dX5_weight_19 (by decide) ?_
      refine lv_goto (tgt := 29) hx hb dX5_weight_21 (by decide) ?_
      exact u_iret C hr hW dX5_weight_29 (by simp only [wgR, if_neg c5_1, if_neg c16_2]) rfl
  · skip
    refine lv_bipush (v := -102) hx hb dX5_weight_8 (by decide) ?_
    exact u_iret C hr hW dX5_weight_10 (by simp only [wgR, if_pos c5_1]) rfl
set_option maxHeartbeats 4000000 in
set_option maxRecDepth 100000 in
theorem c_X5_parts (l : Launch) (D : va_G) (cyI cO cyZ : ClassId) (ad : Nat → Nat) (fa : Nat) (n : Nat) (t md jd jn wm od : Nat → Int32) (bs : Int32) (ab be hh : Int64)  (hn : n ≤ 6) (h2 : 2 ≤ n) : Ct l yX5_parts (Cond.code yX5_parts cX5_parts 3 (some .int) :: wsL_law) ({ frames := 3, cells := 0, slots := 0, locals := 76 } : Room) D (ty3 cyI cO cyZ) 7 ad fa [.ref (ad 0)] (cM cyI cyZ ad n t md jd jn wm od bs ab be hh) (cM cyI cyZ ad n t md jd jn wm od bs ab be hh) (some (.int (qaR n t))) := by
  refine Ct.of (by decide) (Nat.le_of_ble_eq_true rfl) ?_
  intro p e s m args below meth c A C hr H locs hW ls hl
  have C : Cx p s m args meth c cX5_parts 3 RX5 D (ty3 cyI cO cyZ) fa A := C
  have hx := C.1
  have hb := C.2.1
  have hl : lv_has ls 3 [(0, .ref (ad 0))] := hl
  have hpw := pw_half h2 hn
  refine lv_aload_n hx hb dX5_parts_0 rfl (lv_at hl 0 rfl) ?_
  refine lv_iconst (v := 0) hx hb dX5_parts_1 (by decide) ?_
  refine u_callV (cf' := cM cyI cyZ ad n t md jd jn wm od bs ab be hh) (As := [.int 0]) (rest := []) (st1 := [.int (boV n t 0)]) C hW (c_X5_brokenOf l D cyI cO cyZ ad fa n t md jd jn wm od bs ab be hh 0 (by omega)) mv_yX5_brokenOf mw_171 rfl ⟨rfl, rfl, Nat.le_of_ble_eq_true rfl, Nat.le_of_ble_eq_true rfl⟩ (by decide) cM_0 rfl rfl hl (Nat.le_of_ble_eq_true rfl) rfl rfl dX5_parts_2 (fun H locs hW => ?_)
  refine lv_if_le (tgt := 11) hx hb dX5_parts_5 (by decide) (fun c5_1 => ?_) (fun c5_1 => ?_)
  · skip
    have hs0 := c5_1
    refine lv_iconst (v := 0) hx hb dX5_parts_11 (by decide) ?_
    refine lv_istore_n (lv' := [(1, .int 0), (0, .ref (ad 0))]) hx hb dX5_parts_12 rfl hl (by decide) rfl (fun ls hl => ?_)
    refine lv_iconst (v := 1) hx hb dX5_parts_13 (by decide) ?_
    refine lv_istore_n (lv' := [(2, .int 1), (1, .int 0), (0, .ref (ad 0))]) hx hb dX5_parts_14 rfl hl (by decide) rfl (fun ls hl => ?_)
    have L15 : ∀ (k15 : Nat) (q : Nat) (a : Int32), q + k15 = 2 ^ (n - 1) - 1 → lp (qaF n t) q k15 a = qaV n t → ∀ (H : Heap) (locs : List Loc), Wd D 7 ad (cM cyI cyZ ad n t md jd jn wm od bs ab be hh) A s.heap H locs → ∀ ls : Array Slot, lv_has ls 3 [(2, .int (nI (2 * q + 1))), (0, .ref (ad 0)), (1, .int a)] → W p l e ({ frames := 3, cells := 0, slots := 0, locals := 76 } : Room) s m args below meth c H locs 0 0 (MQ below (uQ D 7 ad (cM cyI cyZ ad n t md jd jn wm od bs ab be hh) (some (.int (qaR n t))) A) args s 0 0 A) (F0 m 15 ls []) := by
      intro k15
      induction k15 with
      | zero =>
        intro q a hq r15 H locs hW ls hl
        refine lv_iload_n hx hb dX5_parts_15 rfl (lv_at hl 0 rfl) ?_
        refine lv_iconst (v := 1) hx hb dX5_parts_16 (by decide) ?_
        refine lv_aload_n hx hb dX5_parts_17 rfl (lv_at hl 1 rfl) ?_
        refine u_get C hW inlX5 (by decide) cM_0 rfl 0 (by decide) mw_71 rfl dX5_parts_18 ?_
        refine lv_ishl hx hb dX5_parts_21 ?_
        refine u_top (show 1 <<< ((nI n) &&& 31) = nI (2 ^ n) from shl1 hn) ?_
        refine lv_iconst (v := 1) hx hb dX5_parts_22 (by decide) ?_
        refine lv_isub hx hb dX5_parts_23 ?_
        refine u_top (show (nI (2 ^ n)) - 1 = nI (2 ^ n - 1) from pk_sub Nat.one_le_two_pow) ?_
        refine lv_icmp_ge (tgt := 49) hx hb dX5_parts_24 (by decide) (fun _ => ?_) (fun c9 => absurd (show nI (2 ^ n - 1) ≤ nI (2 * q + 1) from nI_le (by omega) (by omega)) c9)
        refine lv_iload_n hx hb dX5_parts_49 rfl (lv_at hl 2 rfl) ?_
        exact u_iret C hr hW dX5_parts_50 (by first | (simp only [qaR]; done) | (simp only [qaR, if_pos hs0]; exact r15)) rfl
      | succ k15 ih15 =>
        intro q a hq r15 H locs hW ls hl
        refine lv_iload_n hx hb dX5_parts_15 rfl (lv_at hl 0 rfl) ?_
        refine lv_iconst (v := 1) hx hb dX5_parts_16 (by decide) ?_
        refine lv_aload_n hx hb dX5_parts_17 rfl (lv_at hl 1 rfl) ?_
        refine u_get C hW inlX5 (by decide) cM_0 rfl 0 (by decide) mw_71 rfl dX5_parts_18 ?_
        refine lv_ishl hx hb dX5_parts_21 ?_
        refine u_top (show 1 <<< ((nI n) &&& 31) = nI (2 ^ n) from shl1 hn) ?_
        refine lv_iconst (v := 1) hx hb dX5_parts_22 (by decide) ?_
        refine lv_isub hx hb dX5_parts_23 ?_
        refine u_top (show (nI (2 ^ n)) - 1 = nI (2 ^ n - 1) from pk_sub Nat.one_le_two_pow) ?_
        refine lv_icmp_ge (tgt := 49) hx hb dX5_parts_24 (by decide) (fun c9 => absurd c9 (show ¬ nI (2 ^ n - 1) ≤ nI (2 * q + 1) from nI_ge (by omega) (by omega))) (fun _ => ?_)
        refine lv_iload_n hx hb dX5_parts_27 rfl (lv_at hl 2 rfl) ?_
        refine lv_aload_n hx hb dX5_parts_28 rfl (lv_at hl 1 rfl) ?_
        refine lv_iload_n hx hb dX5_parts_29 rfl (lv_at hl 0 rfl) ?_
        refine u_callV (cf' := cM cyI cyZ ad n t md jd jn wm od bs ab be hh) (As := [.int (nI (2 * q + 1))]) (rest := [.int a]) (st1 := [.int (wfV n t (nI (2 * q + 1))), .int a]) C hW (c_X5_weightOf l D cyI cO cyZ ad fa n t md jd jn wm od bs ab be hh (nI (2 * q + 1)) (by omega)) mv_yX5_weightOf mw_462 rfl ⟨rfl, rfl, Nat.le_of_ble_eq_true rfl, Nat.le_of_ble_eq_true rfl⟩ (by decide) cM_0 rfl rfl hl (Nat.le_of_ble_eq_true rfl) rfl rfl dX5_parts_30 (fun H locs hW => ?_)
        refine lv_if_le (tgt := 40) hx hb dX5_parts_33 (by decide) (fun c33_2 => ?_) (fun c33_2 => ?_)
        · skip
          refine lv_iconst (v := 0) hx hb dX5_parts_40 (by decide) ?_
          refine lv_iadd hx hb dX5_parts_41 ?_
          refine lv_istore_n (lv' := [(1, .int (a + 0)), (2, .int (nI (2 * q + 1))), (0, .ref (ad 0))]) hx hb dX5_parts_42 rfl hl (by decide) rfl (fun ls hl => ?_)
          refine lv_iinc (v := nI (2 * (q + 1) + 1)) (lv' := [(2, .int (nI (2 * (q + 1) + 1))), (1, .int (a + 0)), (0, .ref (ad 0))]) hx hb dX5_parts_43 hl (k := 1) rfl (nI_add (2 * q + 1) 2) (by decide) rfl (fun ls hl => ?_)
          refine lv_goto (tgt := 15) hx hb dX5_parts_46 (by decide) ?_
          exact ih15  (q + 1) (a + 0) (by omega) (by have h9 := r15; simp only [lp_s, lp_0, qaF, if_pos c33_2] at h9; exact h9) H locs hW ls (lv_sub hl [0, 2, 1] rfl)
        · skip
          refine lv_iconst (v := 1) hx hb dX5_parts_36 (by decide) ?_
          refine lv_goto (tgt := 41) hx hb dX5_parts_37 (by decide) ?_
          refine lv_iadd hx hb dX5_parts_41 ?_
          refine lv_istore_n (lv' := [(1, .int (a + 1)), (2, .int (nI (2 * q + 1))), (0, .ref (ad 0))]) hx hb dX5_parts_42 rfl hl (by decide) rfl (fun ls hl => ?_)
          refine lv_iinc (v := nI (2 * (q + 1) + 1)) (lv' := [(2, .int (nI (2 * (q + 1) + 1))), (1, .int (a + 1)), (0, .ref (ad 0))]) hx hb dX5_parts_43 hl (k := 1) rfl (nI_add (2 * q + 1) 2) (by decide) rfl (fun ls hl => ?_)
          refine lv_goto (tgt := 15) hx hb dX5_parts_46 (by decide) ?_
          exact ih15  (q + 1) (a + 1) (by omega) (by have h9 := r15; simp only [lp_s, lp_0, qaF, if_neg c33_2] at h9; exact h9) H locs hW ls (lv_sub hl [0, 2, 1] rfl)
    exact L15 (2 ^ (n - 1) - 1) 0 0 (by omega) rfl H locs hW ls (lv_sub hl [0, 2, 1] rfl)
  · skip
    refine lv_bipush (v := -103) hx hb dX5_parts_8 (by decide) ?_
    exact u_iret C hr hW dX5_parts_10 (by first | (simp only [qaR, if_neg c5_1]; done) | (simp only [qaR, if_pos hs0]; exact r15)) rfl
set_option maxHeartbeats 4000000 in
set_option maxRecDepth 100000 in
theorem c_X5_rest (l : Launch) (D : va_G) (cyI cO cyZ : ClassId) (ad : Nat → Nat) (fa : Nat) (n : Nat) (t md jd jn wm od : Nat → Int32) (bs : Int32) (ab be hh : Int64) (x y : Int32) (hn : n ≤ 6) (h2 : 2 ≤ n) : Ct l yX5_rest (Cond.code yX5_rest cX5_rest 5 (some .int) :: wsL_law) ({ frames := 3, cells := 0, slots := 0, locals := 76 } : Room) D (ty3 cyI cO cyZ) 7 ad fa [.ref (ad 0), .int x, .int y] (cM cyI cyZ ad n t md jd jn wm od bs ab be hh) (cM cyI cyZ ad n t md jd jn wm od bs ab be hh) (some (.int (qrR n t x y))) := by
  refine Ct.of (by decide) (Nat.le_of_ble_eq_true rfl) ?_
  intro p e s m args below meth c A C hr H locs hW ls hl
  have C : Cx p s m args meth c cX5_rest 5 RX5 D (ty3 cyI cO cyZ) fa A := C
  have hx := C.1
  have hb := C.2.1
  have hl : lv_has ls 5 [(0, .ref (ad 0)), (1, .int x), (2, .int y)] := hl
  have hpw := pw_half h2 hn
  refine lv_aload_n hx hb dX5_rest_0 rfl (lv_at hl 0 rfl) ?_
  refine lv_iload_n hx hb dX5_rest_1 rfl (lv_at hl 1 rfl) ?_
  refine u_callV (cf' := cM cyI cyZ ad n t md jd jn wm od bs ab be hh) (As := [.int x]) (rest := []) (st1 := [.int (knM n x)]) C hW (c_X5_isPoint l D cyI cO cyZ ad fa n t md jd jn wm od bs ab be hh x (by omega) (by omega)) mv_yX5_isPoint mw_114 rfl ⟨rfl, rfl, Nat.le_of_ble_eq_true rfl, Nat.le_of_ble_eq_true rfl⟩ (by decide) cM_0 rfl rfl hl (Nat.le_of_ble_eq_true rfl) rfl rfl dX5_rest_2 (fun H locs hW => ?_)
  refine lv_if_eq (tgt := 16) hx hb dX5_rest_5 (by decide) (fun c5_1 => ?_) (fun c5_1 => ?_)
  · skip
    refine lv_sipush (v := -10101) hx hb dX5_rest_16 (by decide) ?_
    exact u_iret C hr hW dX5_rest_19 (by first | (simp only [qrR, if_pos c5_1]; done) | (simp only [qrR, if_neg hs0, if_neg hs1, if_pos hs2]; exact r44)) rfl
  · skip
    refine lv_aload_n hx hb dX5_rest_8 rfl (lv_at hl 0 rfl) ?_
    refine lv_iload_n hx hb dX5_rest_9 rfl (lv_at hl 2 rfl) ?_
    refine u_callV (cf' := cM cyI cyZ ad n t md jd jn wm od bs ab be hh) (As := [.int y]) (rest := []) (st1 := [.int (knM n y)]) C hW (c_X5_isPoint l D cyI cO cyZ ad fa n t md jd jn wm od bs ab be hh y (by omega) (by omega)) mv_yX5_isPoint mw_114 rfl ⟨rfl, rfl, Nat.le_of_ble_eq_true rfl, Nat.le_of_ble_eq_true rfl⟩ (by decide) cM_0 rfl rfl hl (Nat.le_of_ble_eq_true rfl) rfl rfl dX5_rest_10 (fun H locs hW => ?_)
    refine lv_if_ne (tgt := 20) hx hb dX5_rest_13 (by decide) (fun c13_2 => ?_) (fun c13_2 => ?_)
    · skip
      refine lv_aload_n hx hb dX5_rest_20 rfl (lv_at hl 0 rfl) ?_
      refine lv_iconst (v := 0) hx hb dX5_rest_21 (by decide) ?_
      refine u_callV (cf' := cM cyI cyZ ad n t md jd jn wm od bs ab be hh) (As := [.int 0]) (rest := []) (st1 := [.int (boV n t 0)]) C hW (c_X5_brokenOf l D cyI cO cyZ ad fa n t md jd jn wm od bs ab be hh 0 (by omega)) mv_yX5_brokenOf mw_171 rfl ⟨rfl, rfl, Nat.le_of_ble_eq_true rfl, Nat.le_of_ble_eq_true rfl⟩ (by decide) cM_0 rfl rfl hl (Nat.le_of_ble_eq_true rfl) rfl rfl dX5_rest_22 (fun H locs hW => ?_)
      refine lv_if_le (tgt := 32) hx hb dX5_rest_25 (by decide) (fun c25_3 => ?_) (fun c25_3 => ?_)
      · skip
        have hs0 := c5_1
        have hs1 := c13_2
        have hs2 := c25_3
        have hk1 := (knM_tn hn h2 c5_1).2
        have hk2 := (knM_tn hn h2 c13_2).2
        refine lv_iconst (v := 2) hx hb dX5_rest_32 (by decide) ?_
        refine lv_aload_n hx hb dX5_rest_33 rfl (lv_at hl 0 rfl) ?_
        refine lv_iload_n hx hb dX5_rest_34 rfl (lv_at hl 1 rfl) ?_
        refine u_top (show x = nI (tn x) from (knM_tn hn h2 c5_1).1) ?_
        refine lv_iload_n hx hb dX5_rest_35 rfl (lv_at hl 2 rfl) ?_
        refine u_top (show y = nI (tn y) from (knM_tn hn h2 c13_2).1) ?_
        refine u_callV (cf' := cM cyI cyZ ad n t md jd jn wm od bs ab be hh) (As := [.int (nI (tn x)), .int (nI (tn y))]) (rest := [.int 2]) (st1 := [.int (t (6 * (tn x) + (tn y))), .int 2]) C hW (c_X5_d l D cyI cO cyZ ad fa n t md jd jn wm od bs ab be hh (tn x) (tn y) (by omega) (by omega)) mv_yX5_d mw_126 rfl ⟨rfl, rfl, Nat.le_of_ble_eq_true rfl, Nat.le_of_ble_eq_true rfl⟩ (by decide) cM_0 rfl rfl hl (Nat.le_of_ble_eq_true rfl) rfl rfl dX5_rest_36 (fun H locs hW => ?_)
        refine lv_imul hx hb dX5_rest_39 ?_
        refine lv_istore_n (lv' := [(3, .int (2 * (t (6 * (tn x) + (tn y))))), (0, .ref (ad 0)), (1, .int x), (2, .int y)]) hx hb dX5_rest_40 rfl hl (by decide) rfl (fun ls hl => ?_)
        refine lv_iconst (v := 1) hx hb dX5_rest_41 (by decide) ?_
        refine lv_istore (lv' := [(4, .int 1), (3, .int (2 * (t (6 * (tn x) + (tn y))))), (0, .ref (ad 0)), (1, .int x), (2, .int y)]) hx hb dX5_rest_42 hl (by decide) rfl (fun ls hl => ?_)
        have L44 : ∀ (k44 : Nat) (q : Nat) (a : Int32), q + k44 = 2 ^ (n - 1) - 1 → lp (qrF n t (tn x) (tn y)) q k44 a = qrV n t (tn x) (tn y) → ∀ (H : Heap) (locs : List Loc), Wd D 7 ad (cM cyI cyZ ad n t md jd jn wm od bs ab be hh) A s.heap H locs → ∀ ls : Array Slot, lv_has ls 5 [(4, .int (nI (2 * q + 1))), (0, .ref (ad 0)), (1, .int x), (2, .int y), (3, .int a)] → W p l e ({ frames := 3, cells := 0, slots := 0, locals := 76 } : Room) s m args below meth c H locs 0 0 (MQ below (uQ D 7 ad (cM cyI cyZ ad n t md jd jn wm od bs ab be hh) (some (.int (qrR n t x y))) A) args s 0 0 A) (F0 m 44 ls []) := by
          intro k44
          induction k44 with
          | zero =>
            intro q a hq r44 H locs hW ls hl
            refine lv_iload hx hb dX5_rest_44 (lv_at hl 0 rfl) ?_
            refine lv_iconst (v := 1) hx hb dX5_rest_46 (by decide) ?_
            refine lv_aload_n hx hb dX5_rest_47 rfl (lv_at hl 1 rfl) ?_
            refine u_get C hW inlX5 (by decide) cM_0 rfl 0 (by decide) mw_71 rfl dX5_rest_48 ?_
            refine lv_ishl hx hb dX5_rest_51 ?_
            refine u_top (show 1 <<< ((nI n) &&& 31) = nI (2 ^ n) from shl1 hn) ?_
            refine lv_iconst (v := 1) hx hb dX5_rest_52 (by decide) ?_
            refine lv_isub hx hb dX5_rest_53 ?_
            refine u_top (show (nI (2 ^ n)) - 1 = nI (2 ^ n - 1) from pk_sub Nat.one_le_two_pow) ?_
            refine lv_icmp_ge (tgt := 91) hx hb dX5_rest_54 (by decide) (fun _ => ?_) (fun c9 => absurd (show nI (2 ^ n - 1) ≤ nI (2 * q + 1) from nI_le (by omega) (by omega)) c9)
            refine lv_iload_n hx hb dX5_rest_91 rfl (lv_at hl 4 rfl) ?_
            exact u_iret C hr hW dX5_rest_92 (by first | (simp only [qrR]; done) | (simp only [qrR, if_neg hs0, if_neg hs1, if_pos hs2]; exact r44)) rfl
          | succ k44 ih44 =>
            intro q a hq r44 H locs hW ls hl
            refine lv_iload hx hb dX5_rest_44 (lv_at hl 0 rfl) ?_
            refine lv_iconst (v := 1) hx hb dX5_rest_46 (by decide) ?_
            refine lv_aload_n hx hb dX5_rest_47 rfl (lv_at hl 1 rfl) ?_
            refine u_get C hW inlX5 (by decide) cM_0 rfl 0 (by decide) mw_71 rfl dX5_rest_48 ?_
            refine lv_ishl hx hb dX5_rest_51 ?_
            refine u_top (show 1 <<< ((nI n) &&& 31) = nI (2 ^ n) from shl1 hn) ?_
            refine lv_iconst (v := 1) hx hb dX5_rest_52 (by decide) ?_
            refine lv_isub hx hb dX5_rest_53 ?_
            refine u_top (show (nI (2 ^ n)) - 1 = nI (2 ^ n - 1) from pk_sub Nat.one_le_two_pow) ?_
            refine lv_icmp_ge (tgt := 91) hx hb dX5_rest_54 (by decide) (fun c9 => absurd c9 (show ¬ nI (2 ^ n - 1) ≤ nI (2 * q + 1) from nI_ge (by omega) (by omega))) (fun _ => ?_)
            refine lv_iload_n hx hb dX5_rest_57 rfl (lv_at hl 4 rfl) ?_
            refine lv_iload hx hb dX5_rest_58 (lv_at hl 0 rfl) ?_
            refine lv_iload_n hx hb dX5_rest_60 rfl (lv_at hl 2 rfl) ?_
            refine u_top (show x = nI (tn x) from (knM_tn hn h2 hs0).1) ?_
            refine lv_ishr hx hb dX5_rest_61 ?_
            refine lv_iload hx hb dX5_rest_62 (lv_at hl 0 rfl) ?_
            refine lv_iload_n hx hb dX5_rest_64 rfl (lv_at hl 3 rfl) ?_
            refine u_top (show y = nI (tn y) from (knM_tn hn h2 hs1).1) ?_
            refine lv_ishr hx hb dX5_rest_65 ?_
            refine lv_ixor hx hb dX5_rest_66 ?_
            refine lv_iconst (v := 1) hx hb dX5_rest_67 (by decide) ?_
            refine lv_iand hx hb dX5_rest_68 ?_
            refine lv_iconst (v := 1) hx hb dX5_rest_69 (by decide) ?_
            refine lv_icmp_ne (tgt := 82) hx hb dX5_rest_70 (by decide) (fun c70_4 => ?_) (fun c70_4 => ?_)
            · skip
              refine lv_iconst (v := 0) hx hb dX5_rest_82 (by decide) ?_
              refine lv_isub hx hb dX5_rest_83 ?_
              refine lv_istore_n (lv' := [(3, .int (a - 0)), (4, .int (nI (2 * q + 1))), (0, .ref (ad 0)), (1, .int x), (2, .int y)]) hx hb dX5_rest_84 rfl hl (by decide) rfl (fun ls hl => ?_)
              refine lv_iinc (v := nI (2 * (q + 1) + 1)) (lv' := [(4, .int (nI (2 * (q + 1) + 1))), (3, .int (a - 0)), (0, .ref (ad 0)), (1, .int x), (2, .int y)]) hx hb dX5_rest_85 hl (k := 1) rfl (nI_add (2 * q + 1) 2) (by decide) rfl (fun ls hl => ?_)
              refine lv_goto (tgt := 44) hx hb dX5_rest_88 (by decide) ?_
              exact ih44  (q + 1) (a - 0) (by omega) (by have h9 := r44; simp only [lp_s, lp_0, qrF, if_neg c70_4] at h9; exact h9) H locs hW ls (lv_sub hl [0, 2, 3, 4, 1] rfl)
            · skip
              refine lv_aload_n hx hb dX5_rest_73 rfl (lv_at hl 1 rfl) ?_
              refine lv_iload hx hb dX5_rest_74 (lv_at hl 0 rfl) ?_
              refine u_callV (cf' := cM cyI cyZ ad n t md jd jn wm od bs ab be hh) (As := [.int (nI (2 * q + 1))]) (rest := [.int a]) (st1 := [.int (wfV n t (nI (2 * q + 1))), .int a]) C hW (c_X5_weightOf l D cyI cO cyZ ad fa n t md jd jn wm od bs ab be hh (nI (2 * q + 1)) (by omega)) mv_yX5_weightOf mw_462 rfl ⟨rfl, rfl, Nat.le_of_ble_eq_true rfl, Nat.le_of_ble_eq_true rfl⟩ (by decide) cM_0 rfl rfl hl (Nat.le_of_ble_eq_true rfl) rfl rfl dX5_rest_76 (fun H locs hW => ?_)
              refine lv_goto (tgt := 83) hx hb dX5_rest_79 (by decide) ?_
              refine lv_isub hx hb dX5_rest_83 ?_
              refine lv_istore_n (lv' := [(3, .int (a - (wfV n t (nI (2 * q + 1))))), (4, .int (nI (2 * q + 1))), (0, .ref (ad 0)), (1, .int x), (2, .int y)]) hx hb dX5_rest_84 rfl hl (by decide) rfl (fun ls hl => ?_)
              refine lv_iinc (v := nI (2 * (q + 1) + 1)) (lv' := [(4, .int (nI (2 * (q + 1) + 1))), (3, .int (a - (wfV n t (nI (2 * q + 1))))), (0, .ref (ad 0)), (1, .int x), (2, .int y)]) hx hb dX5_rest_85 hl (k := 1) rfl (nI_add (2 * q + 1) 2) (by decide) rfl (fun ls hl => ?_)
              refine lv_goto (tgt := 44) hx hb dX5_rest_88 (by decide) ?_
              exact ih44  (q + 1) (a - (wfV n t (nI (2 * q + 1)))) (by omega) (by have h9 := r44; simp only [lp_s, lp_0, qrF, if_pos c70_4] at h9; exact h9) H locs hW ls (lv_sub hl [0, 2, 3, 4, 1] rfl)
        exact L44 (2 ^ (n - 1) - 1) 0 (2 * (t (6 * (tn x) + (tn y)))) (by omega) rfl H locs hW ls (lv_sub hl [0, 2, 3, 4, 1] rfl)
      · skip
        refine lv_sipush (v := -10103) hx hb dX5_rest_28 (by decide) ?_
        exact u_iret C hr hW dX5_rest_31 (by first | (simp only [qrR, if_neg c5_1, if_neg c13_2, if_neg c25_3]; done) | (simp only [qrR, if_neg hs0, if_neg hs1, if_pos hs2]; exact r44)) rfl
    · skip
      refine lv_sipush (v := -10101) hx hb dX5_rest_16 (by decide) ?_
      exact u_iret C hr hW dX5_rest_19 (by first | (simp only [qrR, if_neg c5_1, if_pos c13_2]; done) | (simp only [qrR, if_neg hs0, if_neg hs1, if_pos hs2]; exact r44)) rfl
set_option maxHeartbeats 4000000 in
set_option maxRecDepth 100000 in
theorem c_X5_orders (l : Launch) (D : va_G) (cyI cO cyZ : ClassId) (ad : Nat → Nat) (fa : Nat) (n : Nat) (t md jd jn wm od : Nat → Int32) (bs : Int32) (ab be hh : Int64)  (hn : n ≤ 6) (h2 : 2 ≤ n) : Ct l yX5_orders (Cond.code yX5_orders cX5_orders 3 (some .int) :: wsL_law) ({ frames := 0, cells := 0, slots := 0, locals := 0 } : Room) D (ty3 cyI cO cyZ) 7 ad fa [.ref (ad 0)] (cM cyI cyZ ad n t md jd jn wm od bs ab be hh) (cM cyI cyZ ad n t md jd jn wm od bs ab be hh) (some (.int (nI (fct n)))) := by
  refine Ct.of (by decide) (Nat.le_of_ble_eq_true rfl) ?_
  intro p e s m args below meth c A C hr H locs hW ls hl
  have C : Cx p s m args meth c cX5_orders 3 RX5 D (ty3 cyI cO cyZ) fa A := C
  have hx := C.1
  have hb := C.2.1
  have hl : lv_has ls 3 [(0, .ref (ad 0))] := hl
  refine lv_iconst (v := 1) hx hb dX5_orders_0 (by decide) ?_
  refine lv_istore_n (lv' := [(1, .int 1), (0, .ref (ad 0))]) hx hb dX5_orders_1 rfl hl (by decide) rfl (fun ls hl => ?_)
  refine lv_iconst (v := 2) hx hb dX5_orders_2 (by decide) ?_
  refine lv_istore_n (lv' := [(2, .int 2), (1, .int 1), (0, .ref (ad 0))]) hx hb dX5_orders_3 rfl hl (by decide) rfl (fun ls hl => ?_)
  have L4 : ∀ (k4 : Nat) (q : Nat) (mm : Nat), q + k4 = n + 1 → lp (fun m k => m * k) q k4 mm = fct n → ∀ (H : Heap) (locs : List Loc), Wd D 7 ad (cM cyI cyZ ad n t md jd jn wm od bs ab be hh) A s.heap H locs → ∀ ls : Array Slot, lv_has ls 3 [(2, .int (nI q)), (0, .ref (ad 0)), (1, .int (nI mm))] → W p l e ({ frames := 0, cells := 0, slots := 0, locals := 0 } : Room) s m args below meth c H locs 0 0 (MQ below (uQ D 7 ad (cM cyI cyZ ad n t md jd jn wm od bs ab be hh) (some (.int (nI (fct n)))) A) args s 0 0 A) (F0 m 4 ls []) := by
    intro k4
    induction k4 with
    | zero =>
      intro q mm hq r4 H locs hW ls hl
      refine lv_iload_n hx hb dX5_orders_4 rfl (lv_at hl 0 rfl) ?_
      refine lv_aload_n hx hb dX5_orders_5 rfl (lv_at hl 1 rfl) ?_
      refine u_get C hW inlX5 (by decide) cM_0 rfl 0 (by decide) mw_71 rfl dX5_orders_6 ?_
      refine lv_icmp_gt (tgt := 22) hx hb dX5_orders_9 (by decide) (fun _ => ?_) (fun c9 => absurd (nI_lt (by omega) (by omega)) c9)
      refine lv_iload_n hx hb dX5_orders_22 rfl (lv_at hl 2 rfl) ?_
      exact u_iret C hr hW dX5_orders_23 (by rw [← r4]; rfl) rfl
    | succ k4 ih4 =>
      intro q mm hq r4 H locs hW ls hl
      refine lv_iload_n hx hb dX5_orders_4 rfl (lv_at hl 0 rfl) ?_
      refine lv_aload_n hx hb dX5_orders_5 rfl (lv_at hl 1 rfl) ?_
      refine u_get C hW inlX5 (by decide) cM_0 rfl 0 (by decide) mw_71 rfl dX5_orders_6 ?_
      refine lv_icmp_gt (tgt := 22) hx hb dX5_orders_9 (by decide) (fun c9 => absurd c9 (nI_nlt (by omega) (by omega))) (fun _ => ?_)
      refine lv_iload_n hx hb dX5_orders_12 rfl (lv_at hl 2 rfl) ?_
      refine lv_iload_n hx hb dX5_orders_13 rfl (lv_at hl 0 rfl) ?_
      refine lv_imul hx hb dX5_orders_14 ?_
      refine u_top (show (nI mm) * (nI q) = nI (mm * q) from pk_mul mm q) ?_
      refine lv_istore_n (lv' := [(1, .int (nI (mm * q))), (2, .int (nI q)), (0, .ref (ad 0))]) hx hb dX5_orders_15 rfl hl (by decide) rfl (fun ls hl => ?_)
      refine lv_iinc (v := nI (q + 1)) (lv' := [(2, .int (nI (q + 1))), (1, .int (nI (mm * q))), (0, .ref (ad 0))]) hx hb dX5_orders_16 hl (k := 1) rfl (nI_1 _) (by decide) rfl (fun ls hl => ?_)
      refine lv_goto (tgt := 4) hx hb dX5_orders_19 (by decide) ?_
      exact ih4  (q + 1) (mm * q) (by omega) r4 H locs hW ls (lv_sub hl [0, 2, 1] rfl)
  exact L4 (n - 1) 2 1 (by omega) (fct_lp h2 hn) H locs hW ls (lv_sub hl [0, 2, 1] rfl)
set_option maxHeartbeats 4000000 in
set_option maxRecDepth 100000 in
theorem c_X5_draw (l : Launch) (D : va_G) (cyI cO cyZ : ClassId) (ad : Nat → Nat) (fa : Nat) (n : Nat) (t md jd jn wm od : Nat → Int32) (bs : Int32) (ab be hh : Int64) (lo : Nat) (hn : n ≤ 6) (h2 : 2 ≤ n) (hlo : lo < 2 ^ 31) (hD : mdK n lo 0) : Ct l yX5_draw (Cond.code yX5_draw cX5_draw 8 none :: wsL_law) ({ frames := 1, cells := 0, slots := 0, locals := 22 } : Room) D (ty3 cyI cO cyZ) 7 ad fa [.ref (ad 0), .int (nI lo)] (cM cyI cyZ ad n t md jd jn wm od bs ab be hh) (cM cyI cyZ ad n t md jd jn wm (mdF n 0 lo 0 od) bs ab be hh) (none) := by
  refine Ct.of (by decide) (Nat.le_of_ble_eq_true rfl) ?_
  intro p e s m args below meth c A C hr H locs hW ls hl
  have C : Cx p s m args meth c cX5_draw 8 RX5 D (ty3 cyI cO cyZ) fa A := C
  have hx := C.1
  have hb := C.2.1
  have hl : lv_has ls 8 [(0, .ref (ad 0)), (1, .int (nI lo))] := hl
  have hft := fct_in hn
  refine lv_iload_n hx hb dX5_draw_0 rfl (lv_at hl 1 rfl) ?_
  refine lv_istore_n (lv' := [(2, .int (nI lo)), (0, .ref (ad 0)), (1, .int (nI lo))]) hx hb dX5_draw_1 rfl hl (by decide) rfl (fun ls hl => ?_)
  refine lv_aload_n hx hb dX5_draw_2 rfl (lv_at hl 1 rfl) ?_
  refine u_callV (cf' := cM cyI cyZ ad n t md jd jn wm od bs ab be hh) (As := []) (rest := []) (st1 := [.int (nI (fct n))]) C hW (c_X5_orders l D cyI cO cyZ ad fa n t md jd jn wm od bs ab be hh  (by omega) (by omega)) mv_yX5_orders mw_518 rfl ⟨rfl, rfl, Nat.le_of_ble_eq_true rfl, Nat.le_of_ble_eq_true rfl⟩ (by decide) cM_0 rfl rfl hl (Nat.le_of_ble_eq_true rfl) rfl rfl dX5_draw_3 (fun H locs hW => ?_)
  refine lv_istore_n (lv' := [(3, .int (nI (fct n))), (2, .int (nI lo)), (0, .ref (ad 0)), (1, .int (nI lo))]) hx hb dX5_draw_6 rfl hl (by decide) rfl (fun ls hl => ?_)
  refine lv_iconst (v := 0) hx hb dX5_draw_7 (by decide) ?_
  refine lv_istore (lv' := [(4, .int 0), (3, .int (nI (fct n))), (2, .int (nI lo)), (0, .ref (ad 0)), (1, .int (nI lo))]) hx hb dX5_draw_8 hl (by decide) rfl (fun ls hl => ?_)
  refine lv_iconst (v := 0) hx hb dX5_draw_10 (by decide) ?_
  refine lv_istore (lv' := [(5, .int 0), (4, .int 0), (3, .int (nI (fct n))), (2, .int (nI lo)), (0, .ref (ad 0)), (1, .int (nI lo))]) hx hb dX5_draw_11 hl (by decide) rfl (fun ls hl => ?_)
  have L13 : ∀ (k13 : Nat) (q : Nat) (left : Nat) (tk : Int32) (f : Nat → Int32), q + k13 = n → left < 2 ^ 31 → mdK k13 left tk → mdF k13 q left tk f = mdF n 0 lo 0 od → ∀ (H : Heap) (locs : List Loc), Wd D 7 ad (cM cyI cyZ ad n t md jd jn wm f bs ab be hh) A s.heap H locs → ∀ ls : Array Slot, lv_has ls 8 [(0, .ref (ad 0)), (2, .int (nI left)), (3, .int (nI (fct k13))), (4, .int tk), (5, .int (nI q))] → W p l e ({ frames := 1, cells := 0, slots := 0, locals := 22 } : Room) s m args below meth c H locs 0 0 (MQ below (uQ D 7 ad (cM cyI cyZ ad n t md jd jn wm (mdF n 0 lo 0 od) bs ab be hh) (none) A) args s 0 0 A) (F0 m 13 ls []) := by
    intro k13
    induction k13 with
    | zero =>
      intro q left tk f hq hl0 hd r13 H locs hW ls hl
      refine lv_iload hx hb dX5_draw_13 (lv_at hl 4 rfl) ?_
      refine lv_aload_n hx hb dX5_draw_15 rfl (lv_at hl 0 rfl) ?_
      refine u_get C hW inlX5 (by decide) cM_0 rfl 0 (by decide) mw_71 rfl dX5_draw_16 ?_
      refine lv_icmp_ge (tgt := 111) hx hb dX5_draw_19 (by decide) (fun _ => ?_) (fun c9 => absurd (nI_le (by omega) (by omega)) c9)
      exact u_vret C hr hW dX5_draw_111 (by rw [← r13]; rfl)
    | succ k13 ih13 =>
      intro q left tk f hq hl0 hd r13 H locs hW ls hl
      have hfc := fct_in (k := k13) (by omega)
      have hfc1 := fct_in (k := k13 + 1) (by omega)
      have hd1 := hd.1
      have hmd : left % fct k13 ≤ left := Nat.mod_le _ _
      refine lv_iload hx hb dX5_draw_13 (lv_at hl 4 rfl) ?_
      refine lv_aload_n hx hb dX5_draw_15 rfl (lv_at hl 0 rfl) ?_
      refine u_get C hW inlX5 (by decide) cM_0 rfl 0 (by decide) mw_71 rfl dX5_draw_16 ?_
      refine lv_icmp_ge (tgt := 111) hx hb dX5_draw_19 (by decide) (fun c9 => absurd c9 (nI_ge (by omega) (by omega))) (fun _ => ?_)
      refine lv_iload_n hx hb dX5_draw_22 rfl (lv_at hl 2 rfl) ?_
      refine lv_aload_n hx hb dX5_draw_23 rfl (lv_at hl 0 rfl) ?_
      refine u_get C hW inlX5 (by decide) cM_0 rfl 0 (by decide) mw_71 rfl dX5_draw_24 ?_
      refine lv_iload hx hb dX5_draw_27 (lv_at hl 4 rfl) ?_
      refine lv_isub hx hb dX5_draw_29 ?_
      refine u_top (show (nI n) - (nI q) = nI (k13 + 1) from (pk_sub (by omega)).trans (congrArg nI (by omega))) ?_
      refine lv_idiv hx hb dX5_draw_30 (nI_ne0 (by omega) (by omega)) ?_
      refine u_top (show (nI (fct (k13 + 1))) / (nI (k13 + 1)) = nI (fct k13) from (pk_div (by omega) (by omega) (by omega)).trans (by rw [fct_dn (by omega)])) ?_
      refine lv_istore_n (lv' := [(3, .int (nI (fct k13))), (0, .ref (ad 0)), (2, .int (nI left)), (4, .int tk), (5, .int (nI q))]) hx hb dX5_draw_31 rfl hl (by decide) rfl (fun ls hl => ?_)
      refine lv_iload_n hx hb dX5_draw_32 rfl (lv_at hl 2 rfl) ?_
      refine lv_iload_n hx hb dX5_draw_33 rfl (lv_at hl 0 rfl) ?_
      refine lv_idiv hx hb dX5_draw_34 (nI_ne0 (by omega) (by omega)) ?_
      refine u_top (show (nI left) / (nI (fct k13)) = nI (left / fct k13) from pk_div (by omega) (by omega) (by omega)) ?_
      refine lv_istore (lv' := [(6, .int (nI (left / fct k13))), (3, .int (nI (fct k13))), (0, .ref (ad 0)), (2, .int (nI left)), (4, .int tk), (5, .int (nI q))]) hx hb dX5_draw_35 hl (by decide) rfl (fun ls hl => ?_)
      refine lv_iload_n hx hb dX5_draw_37 rfl (lv_at hl 3 rfl) ?_
      refine lv_iload_n hx hb dX5_draw_38 rfl (lv_at hl 1 rfl) ?_
      refine lv_irem hx hb dX5_draw_39 (nI_ne0 (by omega) (by omega)) ?_
      refine u_top (show (nI left) - (nI left) / (nI (fct k13)) * (nI (fct k13)) = nI (left % fct k13) from pk_rem (by omega) (by omega) (by omega)) ?_
      refine lv_istore_n (lv' := [(2, .int (nI (left % fct k13))), (6, .int (nI (left / fct k13))), (3, .int (nI (fct k13))), (0, .ref (ad 0)), (4, .int tk), (5, .int (nI q))]) hx hb dX5_draw_40 rfl hl (by decide) rfl (fun ls hl => ?_)
      refine lv_iconst (v := 0) hx hb dX5_draw_41 (by decide) ?_
      refine lv_istore (lv' := [(7, .int 0), (2, .int (nI (left % fct k13))), (6, .int (nI (left / fct k13))), (3, .int (nI (fct k13))), (0, .ref (ad 0)), (4, .int tk), (5, .int (nI q))]) hx hb dX5_draw_42 hl (by decide) rfl (fun ls hl => ?_)
      have L44 : ∀ (k44 : Nat) (pp : Nat) (sk : Int32), pp + k44 = 6 → mdW tk k44 pp sk < 6 → mdW tk k44 pp sk = mdP tk left k13 → ∀ (H : Heap) (locs : List Loc), Wd D 7 ad (cM cyI cyZ ad n t md jd jn wm f bs ab be hh) A s.heap H locs → ∀ ls : Array Slot, lv_has ls 8 [(0, .ref (ad 0)), (2, .int (nI (left % fct k13))), (3, .int (nI (fct k13))), (4, .int tk), (5, .int (nI q)), (6, .int sk), (7, .int (nI pp))] → W p l e ({ frames := 1, cells := 0, slots := 0, locals := 22 } : Room) s m args below meth c H locs 0 0 (MQ below (uQ D 7 ad (cM cyI cyZ ad n t md jd jn wm (mdF n 0 lo 0 od) bs ab be hh) (none) A) args s 0 0 A) (F0 m 44 ls []) := by
        intro k44
        induction k44 with
        | zero =>
          intro pp sk hp hw r44 H locs hW ls hl
          exact absurd hw (by unfold mdW; omega)
        | succ k44 ih44 =>
          intro pp sk hp hw r44 H locs hW ls hl
          refine lv_iload hx hb dX5_draw_44 (lv_at hl 3 rfl) ?_
          refine lv_iload hx hb dX5_draw_46 (lv_at hl 6 rfl) ?_
          refine lv_ishr hx hb dX5_draw_48 ?_
          refine lv_iconst (v := 1) hx hb dX5_draw_49 (by decide) ?_
          refine lv_iand hx hb dX5_draw_50 ?_
          refine lv_iconst (v := 1) hx hb dX5_draw_51 (by decide) ?_
          refine lv_icmp_eq (tgt := 60) hx hb dX5_draw_52 (by decide) (fun c52_1 => ?_) (fun c52_1 => ?_)
          · skip
            refine lv_iload hx hb dX5_draw_60 (lv_at hl 5 rfl) ?_
            refine lv_iload hx hb dX5_draw_62 (lv_at hl 3 rfl) ?_
            refine lv_iload hx hb dX5_draw_64 (lv_at hl 6 rfl) ?_
            refine lv_ishr hx hb dX5_draw_66 ?_
            refine lv_iconst (v := 1) hx hb dX5_draw_67 (by decide) ?_
            refine lv_iand hx hb dX5_draw_68 ?_
            refine lv_iconst (v := 1) hx hb dX5_draw_69 (by decide) ?_
            refine lv_icmp_ne (tgt := 77) hx hb dX5_draw_70 (by decide) (fun c9 => absurd c9 (not_not_intro c52_1)) (fun _ => ?_)
            refine lv_iconst (v := 0) hx hb dX5_draw_73 (by decide) ?_
            refine lv_goto (tgt := 78) hx hb dX5_draw_74 (by decide) ?_
            refine lv_isub hx hb dX5_draw_78 ?_
            refine lv_istore (lv' := [(6, .int (sk - 0)), (0, .ref (ad 0)), (2, .int (nI (left % fct k13))), (3, .int (nI (fct k13))), (4, .int tk), (5, .int (nI q)), (7, .int (nI pp))]) hx hb dX5_draw_79 hl (by decide) rfl (fun ls hl => ?_)
            refine lv_iinc (v := nI (pp + 1)) (lv' := [(7, .int (nI (pp + 1))), (6, .int (sk - 0)), (0, .ref (ad 0)), (2, .int (nI (left % fct k13))), (3, .int (nI (fct k13))), (4, .int tk), (5, .int (nI q))]) hx hb dX5_draw_81 hl (k := 6) rfl (nI_1 _) (by decide) rfl (fun ls hl => ?_)
            refine lv_goto (tgt := 44) hx hb dX5_draw_84 (by decide) ?_
            exact ih44  (pp + 1) (sk - 0) (by omega) (by have h9 := hw; simp only [mdW, if_pos c52_1] at h9; exact h9) (by have h9 := r44; simp only [mdW, if_pos c52_1] at h9; exact h9) H locs hW ls (lv_sub hl [2, 3, 4, 5, 6, 1, 0] rfl)
          · skip
            refine lv_iload hx hb dX5_draw_55 (lv_at hl 5 rfl) ?_
            refine lv_if_le (tgt := 87) hx hb dX5_draw_57 (by decide) (fun c57_2 => ?_) (fun c57_2 => ?_)
            · skip
              have hpp : pp = mdP tk left k13 := by have h9 := r44; simp only [mdW, if_neg c52_1, if_pos c57_2] at h9; exact h9
              refine lv_iload hx hb dX5_draw_87 (lv_at hl 3 rfl) ?_
              refine lv_iconst (v := 1) hx hb dX5_draw_89 (by decide) ?_
              refine lv_iload hx hb dX5_draw_90 (lv_at hl 6 rfl) ?_
              refine lv_ishl hx hb dX5_draw_92 ?_
              refine lv_ior hx hb dX5_draw_93 ?_
              refine lv_istore (lv' := [(4, .int (tk ||| (1 <<< ((nI pp) &&& 31)))), (0, .ref (ad 0)), (2, .int (nI (left % fct k13))), (3, .int (nI (fct k13))), (5, .int (nI q)), (6, .int sk), (7, .int (nI pp))]) hx hb dX5_draw_94 hl (by decide) rfl (fun ls hl => ?_)
              refine lv_aload_n hx hb dX5_draw_96 rfl (lv_at hl 1 rfl) ?_
              refine u_get C hW inlX5 (by decide) cM_0 rfl 9 (by decide) mw_78 rfl dX5_draw_97 ?_
              refine lv_iload hx hb dX5_draw_100 (lv_at hl 4 rfl) ?_
              refine lv_iload hx hb dX5_draw_102 (lv_at hl 6 rfl) ?_
              refine u_iast (cf' := cM cyI cyZ ad n t md jd jn wm (upd f q (nI pp)) bs ab be hh) C hW (by decide) cM_6 0 rfl q rfl (by omega) (by decide) cM_s6 dX5_draw_104 (fun H locs hW => ?_)
              refine lv_iinc (v := nI (q + 1)) (lv' := [(5, .int (nI (q + 1))), (4, .int (tk ||| (1 <<< ((nI pp) &&& 31)))), (0, .ref (ad 0)), (2, .int (nI (left % fct k13))), (3, .int (nI (fct k13))), (6, .int sk), (7, .int (nI pp))]) hx hb dX5_draw_105 hl (k := 4) rfl (nI_1 _) (by decide) rfl (fun ls hl => ?_)
              refine lv_goto (tgt := 13) hx hb dX5_draw_108 (by decide) ?_
              exact ih13  (q + 1) (left % fct k13) (tk ||| (1 <<< ((nI pp) &&& 31))) (upd f q (nI pp)) (by omega) (by omega) (by rw [hpp]; exact hd.2) (by rw [hpp]; exact r13) H locs hW ls (lv_sub hl [2, 3, 4, 1, 0] rfl)
            · skip
              refine lv_iload hx hb dX5_draw_60 (lv_at hl 5 rfl) ?_
              refine lv_iload hx hb dX5_draw_62 (lv_at hl 3 rfl) ?_
              refine lv_iload hx hb dX5_draw_64 (lv_at hl 6 rfl) ?_
              refine lv_ishr hx hb dX5_draw_66 ?_
              refine lv_iconst (v := 1) hx hb dX5_draw_67 (by decide) ?_
              refine lv_iand hx hb dX5_draw_68 ?_
              refine lv_iconst (v := 1) hx hb dX5_draw_69 (by decide) ?_
              refine lv_icmp_ne (tgt := 77) hx hb dX5_draw_70 (by decide) (fun _ => ?_) (fun c9 => absurd c9 c52_1)
              refine lv_iconst (v := 1) hx hb dX5_draw_77 (by decide) ?_
              refine lv_isub hx hb dX5_draw_78 ?_
              refine lv_istore (lv' := [(6, .int (sk - 1)), (0, .ref (ad 0)), (2, .int (nI (left % fct k13))), (3, .int (nI (fct k13))), (4, .int tk), (5, .int (nI q)), (7, .int (nI pp))]) hx hb dX5_draw_79 hl (by decide) rfl (fun ls hl => ?_)
              refine lv_iinc (v := nI (pp + 1)) (lv' := [(7, .int (nI (pp + 1))), (6, .int (sk - 1)), (0, .ref (ad 0)), (2, .int (nI (left % fct k13))), (3, .int (nI (fct k13))), (4, .int tk), (5, .int (nI q))]) hx hb dX5_draw_81 hl (k := 6) rfl (nI_1 _) (by decide) rfl (fun ls hl => ?_)
              refine lv_goto (tgt := 44) hx hb dX5_draw_84 (by decide) ?_
              exact ih44  (pp + 1) (sk - 1) (by omega) (by have h9 := hw; simp only [mdW, if_neg c52_1, if_neg c57_2] at h9; exact h9) (by have h9 := r44; simp only [mdW, if_neg c52_1, if_neg c57_2] at h9; exact h9) H locs hW ls (lv_sub hl [2, 3, 4, 5, 6, 1, 0] rfl)
      exact L44 6 0 (nI (left / fct k13)) (by omega) hd1 rfl H locs hW ls (lv_sub hl [4, 1, 3, 5, 6, 2, 0] rfl)
  exact L13 n 0 lo 0 od (by omega) hlo hD rfl H locs hW ls (lv_sub hl [4, 3, 2, 1, 0] rfl)
set_option maxHeartbeats 4000000 in
set_option maxRecDepth 100000 in
theorem c_X5_goalOf (l : Launch) (D : va_G) (cyI cO cyZ : ClassId) (ad : Nat → Nat) (fa : Nat) (n : Nat) (t md jd jn wm od : Nat → Int32) (bs : Int32) (ab be hh : Int64) (i : Nat) (r : Int32) (O : Nat → Nat) (hn : n ≤ 6) (hi : i < 6) (hO : ∀ k, k < n → od k = nI (O k) ∧ O k < 6) (hg : gfF t O i r n 0 < n) : Ct l yX5_goalOf (Cond.code yX5_goalOf cX5_goalOf 4 (some .int) :: wsL_law) ({ frames := 1, cells := 0, slots := 0, locals := 22 } : Room) D (ty3 cyI cO cyZ) 7 ad fa [.ref (ad 0), .int (nI i), .int r] (cM cyI cyZ ad n t md jd jn wm od bs ab be hh) (cM cyI cyZ ad n t md jd jn wm od bs ab be hh) (some (.int (nI (O (gfF t O i r n 0))))) := by
  refine Ct.of (by decide) (Nat.le_of_ble_eq_true rfl) ?_
  intro p e s m args below meth c A C hr H locs hW ls hl
  have C : Cx p s m args meth c cX5_goalOf 4 RX5 D (ty3 cyI cO cyZ) fa A := C
  have hx := C.1
  have hb := C.2.1
  have hl : lv_has ls 4 [(0, .ref (ad 0)), (1, .int (nI i)), (2, .int r)] := hl
  refine lv_iconst (v := 0) hx hb dX5_goalOf_0 (by decide) ?_
  refine lv_istore_n (lv' := [(3, .int 0), (0, .ref (ad 0)), (1, .int (nI i)), (2, .int r)]) hx hb dX5_goalOf_1 rfl hl (by decide) rfl (fun ls hl => ?_)
  have L2 : ∀ (k2 : Nat) (q : Nat), q + k2 = n → gfF t O i r k2 q = gfF t O i r n 0 → ∀ (H : Heap) (locs : List Loc), Wd D 7 ad (cM cyI cyZ ad n t md jd jn wm od bs ab be hh) A s.heap H locs → ∀ ls : Array Slot, lv_has ls 4 [(0, .ref (ad 0)), (1, .int (nI i)), (2, .int r), (3, .int (nI q))] → W p l e ({ frames := 1, cells := 0, slots := 0, locals := 22 } : Room) s m args below meth c H locs 0 0 (MQ below (uQ D 7 ad (cM cyI cyZ ad n t md jd jn wm od bs ab be hh) (some (.int (nI (O (gfF t O i r n 0))))) A) args s 0 0 A) (F0 m 2 ls []) := by
    intro k2
    induction k2 with
    | zero =>
      intro q hq r2 H locs hW ls hl
      exact absurd hg (by rw [← r2]; unfold gfF; omega)
    | succ k2 ih2 =>
      intro q hq r2 H locs hW ls hl
      have hoq := (hO q (by omega)).2
      refine lv_aload_n hx hb dX5_goalOf_2 rfl (lv_at hl 0 rfl) ?_
      refine lv_iload_n hx hb dX5_goalOf_3 rfl (lv_at hl 1 rfl) ?_
      refine lv_aload_n hx hb dX5_goalOf_4 rfl (lv_at hl 0 rfl) ?_
      refine u_get C hW inlX5 (by decide) cM_0 rfl 9 (by decide) mw_78 rfl dX5_goalOf_5 ?_
      refine lv_iload_n hx hb dX5_goalOf_8 rfl (lv_at hl 3 rfl) ?_
      refine u_iald C hW (by decide) cM_6 0 rfl q rfl (by omega) (by decide) dX5_goalOf_9 ?_
      refine u_top (show od q = nI (O q) from (hO q (by omega)).1) ?_
      refine u_callV (cf' := cM cyI cyZ ad n t md jd jn wm od bs ab be hh) (As := [.int (nI i), .int (nI (O q))]) (rest := []) (st1 := [.int (t (6 * i + (O q)))]) C hW (c_X5_d l D cyI cO cyZ ad fa n t md jd jn wm od bs ab be hh i (O q) (by omega) (by omega)) mv_yX5_d mw_126 rfl ⟨rfl, rfl, Nat.le_of_ble_eq_true rfl, Nat.le_of_ble_eq_true rfl⟩ (by decide) cM_0 rfl rfl hl (Nat.le_of_ble_eq_true rfl) rfl rfl dX5_goalOf_10 (fun H locs hW => ?_)
      refine lv_iload_n hx hb dX5_goalOf_13 rfl (lv_at hl 2 rfl) ?_
      refine lv_icmp_le (tgt := 23) hx hb dX5_goalOf_14 (by decide) (fun c14_1 => ?_) (fun c14_1 => ?_)
      · skip
        refine lv_aload_n hx hb dX5_goalOf_23 rfl (lv_at hl 0 rfl) ?_
        refine u_get C hW inlX5 (by decide) cM_0 rfl 9 (by decide) mw_78 rfl dX5_goalOf_24 ?_
        refine lv_iload_n hx hb dX5_goalOf_27 rfl (lv_at hl 3 rfl) ?_
        refine u_iald C hW (by decide) cM_6 0 rfl q rfl (by omega) (by decide) dX5_goalOf_28 ?_
        refine u_top (show od q = nI (O q) from (hO q (by omega)).1) ?_
        exact u_iret C hr hW dX5_goalOf_29 (by have h9 := r2; simp only [gfF, if_pos c14_1] at h9; rw [← h9]) rfl
      · skip
        refine lv_iinc (v := nI (q + 1)) (lv' := [(3, .int (nI (q + 1))), (0, .ref (ad 0)), (1, .int (nI i)), (2, .int r)]) hx hb dX5_goalOf_17 hl (k := 3) rfl (nI_1 _) (by decide) rfl (fun ls hl => ?_)
        refine lv_goto (tgt := 2) hx hb dX5_goalOf_20 (by decide) ?_
        exact ih2  (q + 1) (by omega) (by have h9 := r2; simp only [gfF, if_neg c14_1] at h9; exact h9) H locs hW ls (lv_sub hl [1, 2, 3, 0] rfl)
  exact L2 n 0 (by omega) rfl H locs hW ls (lv_sub hl [1, 2, 3, 0] rfl)
set_option maxHeartbeats 4000000 in
set_option maxRecDepth 100000 in
theorem c_X5_drawn (l : Launch) (D : va_G) (cyI cO cyZ : ClassId) (ad : Nat → Nat) (fa : Nat) (n : Nat) (t md jd jn wm od : Nat → Int32) (bs : Int32) (ab be hh : Int64) (x y r : Int32) (hn : n ≤ 6) (h2 : 2 ≤ n) (hD : ∀ lot : Nat, lot < fct n → mdK n lot 0) (hG : ∀ (i : Nat) (lot : Nat), i < n → lot < fct n → ¬ mnV r 0 1000 = 0 → GoOK n t i r lot) : Ct l yX5_drawn (Cond.code yX5_drawn cX5_drawn 6 (some .int) :: wsL_law) ({ frames := 2, cells := 0, slots := 0, locals := 49 } : Room) D (ty3 cyI cO cyZ) 7 ad fa [.ref (ad 0), .int x, .int y, .int r] (cM cyI cyZ ad n t md jd jn wm od bs ab be hh) (cM cyI cyZ ad n t md jd jn wm (d3 n x y r od (drV n t od (tn x) (tn y) r).2) bs ab be hh) (some (.int (drM n t od x y r))) := by
  refine Ct.of (by decide) (Nat.le_of_ble_eq_true rfl) ?_
  intro p e s m args below meth c A C hr H locs hW ls hl
  have C : Cx p s m args meth c cX5_drawn 6 RX5 D (ty3 cyI cO cyZ) fa A := C
  have hx := C.1
  have hb := C.2.1
  have hl : lv_has ls 6 [(0, .ref (ad 0)), (1, .int x), (2, .int y), (3, .int r)] := hl
  have hft := fct_in hn
  refine lv_aload_n hx hb dX5_drawn_0 rfl (lv_at hl 0 rfl) ?_
  refine lv_iload_n hx hb dX5_drawn_1 rfl (lv_at hl 1 rfl) ?_
  refine u_callV (cf' := cM cyI cyZ ad n t md jd jn wm od bs ab be hh) (As := [.int x]) (rest := []) (st1 := [.int (knM n x)]) C hW (c_X5_isPoint l D cyI cO cyZ ad fa n t md jd jn wm od bs ab be hh x (by omega) (by omega)) mv_yX5_isPoint mw_114 rfl ⟨rfl, rfl, Nat.le_of_ble_eq_true rfl, Nat.le_of_ble_eq_true rfl⟩ (by decide) cM_0 rfl rfl hl (Nat.le_of_ble_eq_true rfl) rfl rfl dX5_drawn_2 (fun H locs hW => ?_)
  refine lv_if_eq (tgt := 16) hx hb dX5_drawn_5 (by decide) (fun c5_1 => ?_) (fun c5_1 => ?_)
  · skip
    refine lv_bipush (v := -101) hx hb dX5_drawn_16 (by decide) ?_
    exact u_iret C hr hW dX5_drawn_18 (by first | (simp only [drM, if_pos c5_1]; done) | (simp only [drM, if_neg hs0, if_neg hs1, if_neg hs2]; rw [← r39]; rfl)) (by first | (simp only [d3, if_pos c5_1]; done) | (simp only [d3, if_neg hs0, if_neg hs1, if_neg hs2]; rw [← r39]; rfl))
  · skip
    refine lv_aload_n hx hb dX5_drawn_8 rfl (lv_at hl 0 rfl) ?_
    refine lv_iload_n hx hb dX5_drawn_9 rfl (lv_at hl 2 rfl) ?_
    refine u_callV (cf' := cM cyI cyZ ad n t md jd jn wm od bs ab be hh) (As := [.int y]) (rest := []) (st1 := [.int (knM n y)]) C hW (c_X5_isPoint l D cyI cO cyZ ad fa n t md jd jn wm od bs ab be hh y (by omega) (by omega)) mv_yX5_isPoint mw_114 rfl ⟨rfl, rfl, Nat.le_of_ble_eq_true rfl, Nat.le_of_ble_eq_true rfl⟩ (by decide) cM_0 rfl rfl hl (Nat.le_of_ble_eq_true rfl) rfl rfl dX5_drawn_10 (fun H locs hW => ?_)
    refine lv_if_ne (tgt := 19) hx hb dX5_drawn_13 (by decide) (fun c13_2 => ?_) (fun c13_2 => ?_)
    · skip
      refine lv_iload_n hx hb dX5_drawn_19 rfl (lv_at hl 3 rfl) ?_
      refine lv_iconst (v := 0) hx hb dX5_drawn_20 (by decide) ?_
      refine lv_sipush (v := 1000) hx hb dX5_drawn_21 (by decide) ?_
      refine u_callS (cf' := cM cyI cyZ ad n t md jd jn wm od bs ab be hh) (As := [.int r, .int 0, .int 1000]) (rest := []) (st1 := [.int (mnV r 0 1000)]) C hW (c_X5_in l D cyI cO cyZ ad fa n t md jd jn wm od bs ab be hh r 0 1000 ) ms_yX5_in mw_91 rfl ⟨rfl, rfl, Nat.le_of_ble_eq_true rfl, Nat.le_of_ble_eq_true rfl⟩ hl (Nat.le_of_ble_eq_true rfl) rfl rfl dX5_drawn_24 (fun H locs hW => ?_)
      refine lv_if_ne (tgt := 33) hx hb dX5_drawn_27 (by decide) (fun c27_3 => ?_) (fun c27_3 => ?_)
      · skip
        have hs0 := c5_1
        have hs1 := c13_2
        have hs2 := c27_3
        have hk1 := (knM_tn hn h2 c5_1).2
        have hk2 := (knM_tn hn h2 c13_2).2
        refine lv_iconst (v := 0) hx hb dX5_drawn_33 (by decide) ?_
        refine lv_istore (lv' := [(4, .int 0), (0, .ref (ad 0)), (1, .int x), (2, .int y), (3, .int r)]) hx hb dX5_drawn_34 hl (by decide) rfl (fun ls hl => ?_)
        refine lv_iconst (v := 0) hx hb dX5_drawn_36 (by decide) ?_
        refine lv_istore (lv' := [(5, .int 0), (4, .int 0), (0, .ref (ad 0)), (1, .int x), (2, .int y), (3, .int r)]) hx hb dX5_drawn_37 hl (by decide) rfl (fun ls hl => ?_)
        have L39 : ∀ (k39 : Nat) (q : Nat) (a : Int32) (f : Nat → Int32), q + k39 = fct n → lp (drF n t (tn x) (tn y) r) q k39 (a, f) = drV n t od (tn x) (tn y) r → ∀ (H : Heap) (locs : List Loc), Wd D 7 ad (cM cyI cyZ ad n t md jd jn wm f bs ab be hh) A s.heap H locs → ∀ ls : Array Slot, lv_has ls 6 [(5, .int (nI q)), (0, .ref (ad 0)), (1, .int x), (2, .int y), (3, .int r), (4, .int a)] → W p l e ({ frames := 2, cells := 0, slots := 0, locals := 49 } : Room) s m args below meth c H locs 0 0 (MQ below (uQ D 7 ad (cM cyI cyZ ad n t md jd jn wm (d3 n x y r od (drV n t od (tn x) (tn y) r).2) bs ab be hh) (some (.int (drM n t od x y r))) A) args s 0 0 A) (F0 m 39 ls []) := by
          intro k39
          induction k39 with
          | zero =>
            intro q a f hq r39 H locs hW ls hl
            refine lv_iload hx hb dX5_drawn_39 (lv_at hl 0 rfl) ?_
            refine lv_aload_n hx hb dX5_drawn_41 rfl (lv_at hl 1 rfl) ?_
            refine u_callV (cf' := cM cyI cyZ ad n t md jd jn wm f bs ab be hh) (As := []) (rest := [.int (nI q)]) (st1 := [.int (nI (fct n)), .int (nI q)]) C hW (c_X5_orders l D cyI cO cyZ ad fa n t md jd jn wm f bs ab be hh  (by omega) (by omega)) mv_yX5_orders mw_518 rfl ⟨rfl, rfl, Nat.le_of_ble_eq_true rfl, Nat.le_of_ble_eq_true rfl⟩ (by decide) cM_0 rfl rfl hl (Nat.le_of_ble_eq_true rfl) rfl rfl dX5_drawn_42 (fun H locs hW => ?_)
            refine lv_icmp_ge (tgt := 85) hx hb dX5_drawn_45 (by decide) (fun _ => ?_) (fun c9 => absurd (nI_le (by omega) (by omega)) c9)
            refine lv_iload hx hb dX5_drawn_85 (lv_at hl 5 rfl) ?_
            exact u_iret C hr hW dX5_drawn_87 (by first | (simp only [drM]; done) | (simp only [drM, if_neg hs0, if_neg hs1, if_neg hs2]; rw [← r39]; rfl)) (by first | (simp only [d3]; done) | (simp only [d3, if_neg hs0, if_neg hs1, if_neg hs2]; rw [← r39]; rfl))
          | succ k39 ih39 =>
            intro q a f hq r39 H locs hW ls hl
            have hlt : q < fct n := by omega
            refine lv_iload hx hb dX5_drawn_39 (lv_at hl 0 rfl) ?_
            refine lv_aload_n hx hb dX5_drawn_41 rfl (lv_at hl 1 rfl) ?_
            refine u_callV (cf' := cM cyI cyZ ad n t md jd jn wm f bs ab be hh) (As := []) (rest := [.int (nI q)]) (st1 := [.int (nI (fct n)), .int (nI q)]) C hW (c_X5_orders l D cyI cO cyZ ad fa n t md jd jn wm f bs ab be hh  (by omega) (by omega)) mv_yX5_orders mw_518 rfl ⟨rfl, rfl, Nat.le_of_ble_eq_true rfl, Nat.le_of_ble_eq_true rfl⟩ (by decide) cM_0 rfl rfl hl (Nat.le_of_ble_eq_true rfl) rfl rfl dX5_drawn_42 (fun H locs hW => ?_)
            refine lv_icmp_ge (tgt := 85) hx hb dX5_drawn_45 (by decide) (fun c9 => absurd c9 (nI_ge (by omega) (by omega))) (fun _ => ?_)
            refine lv_aload_n hx hb dX5_drawn_48 rfl (lv_at hl 1 rfl) ?_
            refine lv_iload hx hb dX5_drawn_49 (lv_at hl 0 rfl) ?_
            refine u_callV (cf' := cM cyI cyZ ad n t md jd jn wm (mdF n 0 q 0 f) bs ab be hh) (As := [.int (nI q)]) (rest := []) (st1 := []) C hW (c_X5_draw l D cyI cO cyZ ad fa n t md jd jn wm f bs ab be hh q (by omega) (by omega) (by omega) (hD q hlt)) mv_yX5_draw mw_522 rfl ⟨rfl, rfl, Nat.le_of_ble_eq_true rfl, Nat.le_of_ble_eq_true rfl⟩ (by decide) cM_0 rfl rfl hl (Nat.le_of_ble_eq_true rfl) rfl rfl dX5_drawn_51 (fun H locs hW => ?_)
            refine lv_iload hx hb dX5_drawn_54 (lv_at hl 5 rfl) ?_
            refine lv_aload_n hx hb dX5_drawn_56 rfl (lv_at hl 1 rfl) ?_
            refine lv_iload_n hx hb dX5_drawn_57 rfl (lv_at hl 2 rfl) ?_
            refine u_top (show x = nI (tn x) from (knM_tn hn h2 hs0).1) ?_
            refine lv_iload_n hx hb dX5_drawn_58 rfl (lv_at hl 4 rfl) ?_
            refine u_callV (cf' := cM cyI cyZ ad n t md jd jn wm (mdF n 0 q 0 f) bs ab be hh) (As := [.int (nI (tn x)), .int r]) (rest := [.int a]) (st1 := [.int (nI ((mdO n q 0) (gfF t (mdO n q 0) (tn x) r n 0))), .int a]) C hW (c_X5_goalOf l D cyI cO cyZ ad fa n t md jd jn wm (mdF n 0 q 0 f) bs ab be hh (tn x) r (mdO n q 0) (by omega) (by omega) (fun k hk => ⟨by have h9 := mdF_at n 0 q 0 f k hk; rw [Nat.zero_add] at h9; exact h9, mdO_lt _ _ _ _ (hD q hlt)⟩) (hG (tn x) q (by omega) hlt hs2)) mv_yX5_goalOf mw_526 rfl ⟨rfl, rfl, Nat.le_of_ble_eq_true rfl, Nat.le_of_ble_eq_true rfl⟩ (by decide) cM_0 rfl rfl hl (Nat.le_of_ble_eq_true rfl) rfl rfl dX5_drawn_59 (fun H locs hW => ?_)
            refine lv_aload_n hx hb dX5_drawn_62 rfl (lv_at hl 1 rfl) ?_
            refine lv_iload_n hx hb dX5_drawn_63 rfl (lv_at hl 3 rfl) ?_
            refine u_top (show y = nI (tn y) from (knM_tn hn h2 hs1).1) ?_
            refine lv_iload_n hx hb dX5_drawn_64 rfl (lv_at hl 4 rfl) ?_
            refine u_callV (cf' := cM cyI cyZ ad n t md jd jn wm (mdF n 0 q 0 f) bs ab be hh) (As := [.int (nI (tn y)), .int r]) (rest := [.int (nI ((mdO n q 0) (gfF t (mdO n q 0) (tn x) r n 0))), .int a]) (st1 := [.int (nI ((mdO n q 0) (gfF t (mdO n q 0) (tn y) r n 0))), .int (nI ((mdO n q 0) (gfF t (mdO n q 0) (tn x) r n 0))), .int a]) C hW (c_X5_goalOf l D cyI cO cyZ ad fa n t md jd jn wm (mdF n 0 q 0 f) bs ab be hh (tn y) r (mdO n q 0) (by omega) (by omega) (fun k hk => ⟨by have h9 := mdF_at n 0 q 0 f k hk; rw [Nat.zero_add] at h9; exact h9, mdO_lt _ _ _ _ (hD q hlt)⟩) (hG (tn y) q (by omega) hlt hs2)) mv_yX5_goalOf mw_526 rfl ⟨rfl, rfl, Nat.le_of_ble_eq_true rfl, Nat.le_of_ble_eq_true rfl⟩ (by decide) cM_0 rfl rfl hl (Nat.le_of_ble_eq_true rfl) rfl rfl dX5_drawn_65 (fun H locs hW => ?_)
            refine lv_icmp_ne (tgt := 75) hx hb dX5_drawn_68 (by decide) (fun c68_4 => ?_) (fun c68_4 => ?_)
            · skip
              refine lv_iconst (v := 1) hx hb dX5_drawn_75 (by decide) ?_
              refine lv_iadd hx hb dX5_drawn_76 ?_
              refine lv_istore (lv' := [(4, .int (a + 1)), (5, .int (nI q)), (0, .ref (ad 0)), (1, .int x), (2, .int y), (3, .int r)]) hx hb dX5_drawn_77 hl (by decide) rfl (fun ls hl => ?_)
              refine lv_iinc (v := nI (q + 1)) (lv' := [(5, .int (nI (q + 1))), (4, .int (a + 1)), (0, .ref (ad 0)), (1, .int x), (2, .int y), (3, .int r)]) hx hb dX5_drawn_79 hl (k := 1) rfl (nI_1 _) (by decide) rfl (fun ls hl => ?_)
              refine lv_goto (tgt := 39) hx hb dX5_drawn_82 (by decide) ?_
              exact ih39  (q + 1) (a + 1) (mdF n 0 q 0 f) (by omega) (by have h9 := r39; simp only [lp_s, lp_0, drF, if_neg c68_4] at h9; exact h9) H locs hW ls (lv_sub hl [0, 2, 3, 4, 5, 1] rfl)
            · skip
              refine lv_iconst (v := 0) hx hb dX5_drawn_71 (by decide) ?_
              refine lv_goto (tgt := 76) hx hb dX5_drawn_72 (by decide) ?_
              refine lv_iadd hx hb dX5_drawn_76 ?_
              refine lv_istore (lv' := [(4, .int (a + 0)), (5, .int (nI q)), (0, .ref (ad 0)), (1, .int x), (2, .int y), (3, .int r)]) hx hb dX5_drawn_77 hl (by decide) rfl (fun ls hl => ?_)
              refine lv_iinc (v := nI (q + 1)) (lv' := [(5, .int (nI (q + 1))), (4, .int (a + 0)), (0, .ref (ad 0)), (1, .int x), (2, .int y), (3, .int r)]) hx hb dX5_drawn_79 hl (k := 1) rfl (nI_1 _) (by decide) rfl (fun ls hl => ?_)
              refine lv_goto (tgt := 39) hx hb dX5_drawn_82 (by decide) ?_
              exact ih39  (q + 1) (a + 0) (mdF n 0 q 0 f) (by omega) (by have h9 := r39; simp only [lp_s, lp_0, drF, if_pos c68_4] at h9; exact h9) H locs hW ls (lv_sub hl [0, 2, 3, 4, 5, 1] rfl)
        exact L39 (fct n) 0 0 od (by omega) rfl H locs hW ls (lv_sub hl [0, 2, 3, 4, 5, 1] rfl)
      · skip
        refine lv_bipush (v := -102) hx hb dX5_drawn_30 (by decide) ?_
        exact u_iret C hr hW dX5_drawn_32 (by first | (simp only [drM, if_neg c5_1, if_neg c13_2, if_pos c27_3]; done) | (simp only [drM, if_neg hs0, if_neg hs1, if_neg hs2]; rw [← r39]; rfl)) (by first | (simp only [d3, if_neg c5_1, if_neg c13_2, if_pos c27_3]; done) | (simp only [d3, if_neg hs0, if_neg hs1, if_neg hs2]; rw [← r39]; rfl))
    · skip
      refine lv_bipush (v := -101) hx hb dX5_drawn_16 (by decide) ?_
      exact u_iret C hr hW dX5_drawn_18 (by first | (simp only [drM, if_neg c5_1, if_pos c13_2]; done) | (simp only [drM, if_neg hs0, if_neg hs1, if_neg hs2]; rw [← r39]; rfl)) (by first | (simp only [d3, if_neg c5_1, if_pos c13_2]; done) | (simp only [d3, if_neg hs0, if_neg hs1, if_neg hs2]; rw [← r39]; rfl))
set_option maxHeartbeats 4000000 in
set_option maxRecDepth 100000 in
theorem c_X5_goes (l : Launch) (D : va_G) (cyI cO cyZ : ClassId) (ad : Nat → Nat) (fa : Nat) (n : Nat) (t md jd jn wm od : Nat → Int32) (bs : Int32) (ab be hh : Int64) (x q r : Int32) (hn : n ≤ 6) (h2 : 2 ≤ n) (hD : ∀ lot : Nat, lot < fct n → mdK n lot 0) (hG : ∀ (i : Nat) (lot : Nat), i < n → lot < fct n → ¬ mnV r 0 1000 = 0 → GoOK n t i r lot) : Ct l yX5_goes (Cond.code yX5_goes cX5_goes 4 (some .int) :: wsL_law) ({ frames := 2, cells := 0, slots := 0, locals := 49 } : Room) D (ty3 cyI cO cyZ) 7 ad fa [.ref (ad 0), .int x, .int q, .int r] (cM cyI cyZ ad n t md jd jn wm od bs ab be hh) (cM cyI cyZ ad n t md jd jn wm (g3 n x q r od (mdF n 0 (tn q) 0 od)) bs ab be hh) (some (.int (gsR2 n t x q r))) := by
  refine Ct.of (by decide) (Nat.le_of_ble_eq_true rfl) ?_
  intro p e s m args below meth c A C hr H locs hW ls hl
  have C : Cx p s m args meth c cX5_goes 4 RX5 D (ty3 cyI cO cyZ) fa A := C
  have hx := C.1
  have hb := C.2.1
  have hl : lv_has ls 4 [(0, .ref (ad 0)), (1, .int x), (2, .int q), (3, .int r)] := hl
  have hft := fct_in hn
  refine lv_aload_n hx hb dX5_goes_0 rfl (lv_at hl 0 rfl) ?_
  refine lv_iload_n hx hb dX5_goes_1 rfl (lv_at hl 1 rfl) ?_
  refine u_callV (cf' := cM cyI cyZ ad n t md jd jn wm od bs ab be hh) (As := [.int x]) (rest := []) (st1 := [.int (knM n x)]) C hW (c_X5_isPoint l D cyI cO cyZ ad fa n t md jd jn wm od bs ab be hh x (by omega) (by omega)) mv_yX5_isPoint mw_114 rfl ⟨rfl, rfl, Nat.le_of_ble_eq_true rfl, Nat.le_of_ble_eq_true rfl⟩ (by decide) cM_0 rfl rfl hl (Nat.le_of_ble_eq_true rfl) rfl rfl dX5_goes_2 (fun H locs hW => ?_)
  refine lv_if_ne (tgt := 11) hx hb dX5_goes_5 (by decide) (fun c5_1 => ?_) (fun c5_1 => ?_)
  · skip
    refine lv_iload_n hx hb dX5_goes_11 rfl (lv_at hl 2 rfl) ?_
    refine lv_iconst (v := 0) hx hb dX5_goes_12 (by decide) ?_
    refine lv_aload_n hx hb dX5_goes_13 rfl (lv_at hl 0 rfl) ?_
    refine u_callV (cf' := cM cyI cyZ ad n t md jd jn wm od bs ab be hh) (As := []) (rest := [.int 0, .int q]) (st1 := [.int (nI (fct n)), .int 0, .int q]) C hW (c_X5_orders l D cyI cO cyZ ad fa n t md jd jn wm od bs ab be hh  (by omega) (by omega)) mv_yX5_orders mw_518 rfl ⟨rfl, rfl, Nat.le_of_ble_eq_true rfl, Nat.le_of_ble_eq_true rfl⟩ (by decide) cM_0 rfl rfl hl (Nat.le_of_ble_eq_true rfl) rfl rfl dX5_goes_14 (fun H locs hW => ?_)
    refine lv_iconst (v := 1) hx hb dX5_goes_17 (by decide) ?_
    refine lv_isub hx hb dX5_goes_18 ?_
    refine u_top (show (nI (fct n)) - 1 = nI ((fct n) - 1) from pk_sub (a := (fct n)) (b := 1) (by omega)) ?_
    refine u_callS (cf' := cM cyI cyZ ad n t md jd jn wm od bs ab be hh) (As := [.int q, .int 0, .int (nI ((fct n) - 1))]) (rest := []) (st1 := [.int (mnV q 0 (nI ((fct n) - 1)))]) C hW (c_X5_in l D cyI cO cyZ ad fa n t md jd jn wm od bs ab be hh q 0 (nI ((fct n) - 1)) ) ms_yX5_in mw_91 rfl ⟨rfl, rfl, Nat.le_of_ble_eq_true rfl, Nat.le_of_ble_eq_true rfl⟩ hl (Nat.le_of_ble_eq_true rfl) rfl rfl dX5_goes_19 (fun H locs hW => ?_)
    refine lv_if_eq (tgt := 36) hx hb dX5_goes_22 (by decide) (fun c22_2 => ?_) (fun c22_2 => ?_)
    · skip
      refine lv_bipush (v := -102) hx hb dX5_goes_36 (by decide) ?_
      exact u_iret C hr hW dX5_goes_38 (by simp only [gsR2, if_neg c5_1, if_pos c22_2]) (by simp only [g3, if_neg c5_1, if_pos c22_2])
    · skip
      refine lv_iload_n hx hb dX5_goes_25 rfl (lv_at hl 3 rfl) ?_
      refine lv_iconst (v := 0) hx hb dX5_goes_26 (by decide) ?_
      refine lv_sipush (v := 1000) hx hb dX5_goes_27 (by decide) ?_
      refine u_callS (cf' := cM cyI cyZ ad n t md jd jn wm od bs ab be hh) (As := [.int r, .int 0, .int 1000]) (rest := []) (st1 := [.int (mnV r 0 1000)]) C hW (c_X5_in l D cyI cO cyZ ad fa n t md jd jn wm od bs ab be hh r 0 1000 ) ms_yX5_in mw_91 rfl ⟨rfl, rfl, Nat.le_of_ble_eq_true rfl, Nat.le_of_ble_eq_true rfl⟩ hl (Nat.le_of_ble_eq_true rfl) rfl rfl dX5_goes_30 (fun H locs hW => ?_)
      refine lv_if_ne (tgt := 39) hx hb dX5_goes_33 (by decide) (fun c33_3 => ?_) (fun c33_3 => ?_)
      · skip
        have hs2 := c33_3
        have hk1 := (knM_tn hn h2 c5_1).2
        have hlt : tn q < fct n := by have := (mn_tn (by omega) c22_2).2; omega
        refine lv_aload_n hx hb dX5_goes_39 rfl (lv_at hl 0 rfl) ?_
        refine lv_iload_n hx hb dX5_goes_40 rfl (lv_at hl 2 rfl) ?_
        refine u_top (show q = nI (tn q) from (mn_tn (by omega) c22_2).1) ?_
        refine u_callV (cf' := cM cyI cyZ ad n t md jd jn wm (mdF n 0 (tn q) 0 od) bs ab be hh) (As := [.int (nI (tn q))]) (rest := []) (st1 := []) C hW (c_X5_draw l D cyI cO cyZ ad fa n t md jd jn wm od bs ab be hh (tn q) (by omega) (by omega) (by omega) (hD (tn q) hlt)) mv_yX5_draw mw_522 rfl ⟨rfl, rfl, Nat.le_of_ble_eq_true rfl, Nat.le_of_ble_eq_true rfl⟩ (by decide) cM_0 rfl rfl hl (Nat.le_of_ble_eq_true rfl) rfl rfl dX5_goes_41 (fun H locs hW => ?_)
        refine lv_aload_n hx hb dX5_goes_44 rfl (lv_at hl 0 rfl) ?_
        refine lv_iload_n hx hb dX5_goes_45 rfl (lv_at hl 1 rfl) ?_
        refine u_top (show x = nI (tn x) from (knM_tn hn h2 c5_1).1) ?_
        refine lv_iload_n hx hb dX5_goes_46 rfl (lv_at hl 3 rfl) ?_
        refine u_callV (cf' := cM cyI cyZ ad n t md jd jn wm (mdF n 0 (tn q) 0 od) bs ab be hh) (As := [.int (nI (tn x)), .int r]) (rest := []) (st1 := [.int (nI ((mdO n (tn q) 0) (gfF t (mdO n (tn q) 0) (tn x) r n 0)))]) C hW (c_X5_goalOf l D cyI cO cyZ ad fa n t md jd jn wm (mdF n 0 (tn q) 0 od) bs ab be hh (tn x) r (mdO n (tn q) 0) (by omega) (by omega) (fun k hk => ⟨by have h9 := mdF_at n 0 (tn q) 0 od k hk; rw [Nat.zero_add] at h9; exact h9, mdO_lt _ _ _ _ (hD (tn q) hlt)⟩) (hG (tn x) (tn q) (by omega) hlt hs2)) mv_yX5_goalOf mw_526 rfl ⟨rfl, rfl, Nat.le_of_ble_eq_true rfl, Nat.le_of_ble_eq_true rfl⟩ (by decide) cM_0 rfl rfl hl (Nat.le_of_ble_eq_true rfl) rfl rfl dX5_goes_47 (fun H locs hW => ?_)
        exact u_iret C hr hW dX5_goes_50 (by simp only [gsR2, if_neg c5_1, if_neg c22_2, if_neg c33_3]) (by simp only [g3, if_neg c5_1, if_neg c22_2, if_neg c33_3])
      · skip
        refine lv_bipush (v := -102) hx hb dX5_goes_36 (by decide) ?_
        exact u_iret C hr hW dX5_goes_38 (by simp only [gsR2, if_neg c5_1, if_neg c22_2, if_pos c33_3]) (by simp only [g3, if_neg c5_1, if_neg c22_2, if_pos c33_3])
  · skip
    refine lv_bipush (v := -101) hx hb dX5_goes_8 (by decide) ?_
    exact u_iret C hr hW dX5_goes_10 (by simp only [gsR2, if_pos c5_1]) (by simp only [g3, if_pos c5_1])
set_option maxHeartbeats 4000000 in
set_option maxRecDepth 100000 in
theorem c_X5_count (l : Launch) (D : va_G) (cyI cO cyZ : ClassId) (ad : Nat → Nat) (fa : Nat) (n : Nat) (t md jd jn wm od : Nat → Int32) (bs : Int32) (ab be hh : Int64) (w : Int32) (hn : n ≤ 6) : Ct l yX5_count (Cond.code yX5_count cX5_count 6 (some .int) :: wsL_law) ({ frames := 1, cells := 0, slots := 0, locals := 22 } : Room) D (ty3 cyI cO cyZ) 7 ad fa [.ref (ad 0), .int w] (cM cyI cyZ ad n t md jd jn wm od bs ab be hh) (cM cyI cyZ ad n t md jd jn wm od bs ab be hh) (some (.int (cnR n t bs w))) := by
  refine Ct.of (by decide) (Nat.le_of_ble_eq_true rfl) ?_
  intro p e s m args below meth c A C hr H locs hW ls hl
  have C : Cx p s m args meth c cX5_count 6 RX5 D (ty3 cyI cO cyZ) fa A := C
  have hx := C.1
  have hb := C.2.1
  have hl : lv_has ls 6 [(0, .ref (ad 0)), (1, .int w)] := hl
  refine lv_iconst (v := 0) hx hb dX5_count_0 (by decide) ?_
  refine lv_istore_n (lv' := [(2, .int 0), (0, .ref (ad 0)), (1, .int w)]) hx hb dX5_count_1 rfl hl (by decide) rfl (fun ls hl => ?_)
  refine lv_iconst (v := 0) hx hb dX5_count_2 (by decide) ?_
  refine lv_istore_n (lv' := [(3, .int 0), (2, .int 0), (0, .ref (ad 0)), (1, .int w)]) hx hb dX5_count_3 rfl hl (by decide) rfl (fun ls hl => ?_)
  refine lv_iconst (v := 0) hx hb dX5_count_4 (by decide) ?_
  refine lv_istore (lv' := [(4, .int 0), (3, .int 0), (2, .int 0), (0, .ref (ad 0)), (1, .int w)]) hx hb dX5_count_5 hl (by decide) rfl (fun ls hl => ?_)
  have L7 : ∀ (k7 : Nat) (i : Nat) (a : Int32) (b : Int32), i + k7 = n → lp (cnO n t) i k7 (a, b) = cnV n t → ∀ (H : Heap) (locs : List Loc), Wd D 7 ad (cM cyI cyZ ad n t md jd jn wm od bs ab be hh) A s.heap H locs → ∀ ls : Array Slot, lv_has ls 6 [(4, .int (nI i)), (0, .ref (ad 0)), (1, .int w), (2, .int a), (3, .int b)] → W p l e ({ frames := 1, cells := 0, slots := 0, locals := 22 } : Room) s m args below meth c H locs 0 0 (MQ below (uQ D 7 ad (cM cyI cyZ ad n t md jd jn wm od bs ab be hh) (some (.int (cnR n t bs w))) A) args s 0 0 A) (F0 m 7 ls []) := by
    intro k7
    induction k7 with
    | zero =>
      intro i a b hi r7 H locs hW ls hl
      refine lv_iload hx hb dX5_count_7 (lv_at hl 0 rfl) ?_
      refine lv_aload_n hx hb dX5_count_9 rfl (lv_at hl 1 rfl) ?_
      refine u_get C hW inlX5 (by decide) cM_0 rfl 0 (by decide) mw_71 rfl dX5_count_10 ?_
      refine lv_icmp_ge (tgt := 67) hx hb dX5_count_13 (by decide) (fun _ => ?_) (fun c9 => absurd (nI_le (by omega) (by omega)) c9)
      refine lv_iload_n hx hb dX5_count_67 rfl (lv_at hl 2 rfl) ?_
      refine lv_if_ne (tgt := 78) hx hb dX5_count_68 (by decide) (fun c68_1 => ?_) (fun c68_1 => ?_)
      · skip
        refine lv_iload_n hx hb dX5_count_78 rfl (lv_at hl 2 rfl) ?_
        refine lv_iconst (v := 1) hx hb dX5_count_79 (by decide) ?_
        refine lv_icmp_ne (tgt := 87) hx hb dX5_count_80 (by decide) (fun c80_2 => ?_) (fun c80_2 => ?_)
        · skip
          refine lv_iload_n hx hb dX5_count_87 rfl (lv_at hl 2 rfl) ?_
          refine lv_iconst (v := 2) hx hb dX5_count_88 (by decide) ?_
          refine lv_icmp_ne (tgt := 96) hx hb dX5_count_89 (by decide) (fun c89_3 => ?_) (fun c89_3 => ?_)
          · skip
            refine lv_iload_n hx hb dX5_count_96 rfl (lv_at hl 2 rfl) ?_
            refine lv_iconst (v := 3) hx hb dX5_count_97 (by decide) ?_
            refine lv_icmp_ne (tgt := 108) hx hb dX5_count_98 (by decide) (fun c98_4 => ?_) (fun c98_4 => ?_)
            · skip
              refine lv_bipush (v := -102) hx hb dX5_count_108 (by decide) ?_
              exact u_iret C hr hW dX5_count_110 (by have h9 : (a, b) = cnV n t := r7; simp only [cnR, ← h9, if_neg c68_1, if_neg c80_2, if_neg c89_3, if_neg c98_4]) rfl
            · skip
              refine lv_aload_n hx hb dX5_count_101 rfl (lv_at hl 1 rfl) ?_
              refine u_get C hW inlX5 (by decide) cM_0 rfl 2 (by decide) mw_412 rfl dX5_count_102 ?_
              refine lv_goto (tgt := 110) hx hb dX5_count_105 (by decide) ?_
              exact u_iret C hr hW dX5_count_110 (by have h9 : (a, b) = cnV n t := r7; simp only [cnR, ← h9, if_neg c68_1, if_neg c80_2, if_neg c89_3, if_pos c98_4]) rfl
          · skip
            refine lv_iload_n hx hb dX5_count_92 rfl (lv_at hl 4 rfl) ?_
            refine lv_goto (tgt := 110) hx hb dX5_count_93 (by decide) ?_
            exact u_iret C hr hW dX5_count_110 (by have h9 : (a, b) = cnV n t := r7; simp only [cnR, ← h9, if_neg c68_1, if_neg c80_2, if_pos c89_3]) rfl
        · skip
          refine lv_iload_n hx hb dX5_count_83 rfl (lv_at hl 3 rfl) ?_
          refine lv_goto (tgt := 110) hx hb dX5_count_84 (by decide) ?_
          exact u_iret C hr hW dX5_count_110 (by have h9 : (a, b) = cnV n t := r7; simp only [cnR, ← h9, if_neg c68_1, if_pos c80_2]) rfl
      · skip
        refine lv_aload_n hx hb dX5_count_71 rfl (lv_at hl 1 rfl) ?_
        refine u_get C hW inlX5 (by decide) cM_0 rfl 0 (by decide) mw_71 rfl dX5_count_72 ?_
        refine lv_goto (tgt := 110) hx hb dX5_count_75 (by decide) ?_
        exact u_iret C hr hW dX5_count_110 (by have h9 : (a, b) = cnV n t := r7; simp only [cnR, ← h9, if_pos c68_1]) rfl
    | succ k7 ih7 =>
      intro i a b hi r7 H locs hW ls hl
      refine lv_iload hx hb dX5_count_7 (lv_at hl 0 rfl) ?_
      refine lv_aload_n hx hb dX5_count_9 rfl (lv_at hl 1 rfl) ?_
      refine u_get C hW inlX5 (by decide) cM_0 rfl 0 (by decide) mw_71 rfl dX5_count_10 ?_
      refine lv_icmp_ge (tgt := 67) hx hb dX5_count_13 (by decide) (fun c9 => absurd c9 (nI_ge (by omega) (by omega))) (fun _ => ?_)
      refine lv_iload hx hb dX5_count_16 (lv_at hl 0 rfl) ?_
      refine lv_iconst (v := 1) hx hb dX5_count_18 (by decide) ?_
      refine lv_iadd hx hb dX5_count_19 ?_
      refine u_top (show (nI i) + 1 = nI (i + 1) from nI_add i 1) ?_
      refine lv_istore (lv' := [(5, .int (nI (i + 1))), (4, .int (nI i)), (0, .ref (ad 0)), (1, .int w), (2, .int a), (3, .int b)]) hx hb dX5_count_20 hl (by decide) rfl (fun ls hl => ?_)
      have L22 : ∀ (k22 : Nat) (j : Nat) (a : Int32) (b : Int32), j + k22 = n → lp (cnO n t) (i + 1) k7 (lp (cnI t i) j k22 (a, b)) = cnV n t → ∀ (H : Heap) (locs : List Loc), Wd D 7 ad (cM cyI cyZ ad n t md jd jn wm od bs ab be hh) A s.heap H locs → ∀ ls : Array Slot, lv_has ls 6 [(5, .int (nI j)), (0, .ref (ad 0)), (1, .int w), (2, .int a), (3, .int b), (4, .int (nI i))] → W p l e ({ frames := 1, cells := 0, slots := 0, locals := 22 } : Room) s m args below meth c H locs 0 0 (MQ below (uQ D 7 ad (cM cyI cyZ ad n t md jd jn wm od bs ab be hh) (some (.int (cnR n t bs w))) A) args s 0 0 A) (F0 m 22 ls []) := by
        intro k22
        induction k22 with
        | zero =>
          intro j a b hj r22 H locs hW ls hl
          refine lv_iload hx hb dX5_count_22 (lv_at hl 0 rfl) ?_
          refine lv_aload_n hx hb dX5_count_24 rfl (lv_at hl 1 rfl) ?_
          refine u_get C hW inlX5 (by decide) cM_0 rfl 0 (by decide) mw_71 rfl dX5_count_25 ?_
          refine lv_icmp_ge (tgt := 61) hx hb dX5_count_28 (by decide) (fun _ => ?_) (fun c9 => absurd (nI_le (by omega) (by omega)) c9)
          refine lv_iinc (v := nI (i + 1)) (lv' := [(4, .int (nI (i + 1))), (5, .int (nI j)), (0, .ref (ad 0)), (1, .int w), (2, .int a), (3, .int b)]) hx hb dX5_count_61 hl (k := 5) rfl (nI_1 _) (by decide) rfl (fun ls hl => ?_)
          refine lv_goto (tgt := 7) hx hb dX5_count_64 (by decide) ?_
          exact ih7  (i + 1) a b (by omega) r22 H locs hW ls (lv_sub hl [0, 2, 3, 4, 5] rfl)
        | succ k22 ih22 =>
          intro j a b hj r22 H locs hW ls hl
          refine lv_iload hx hb dX5_count_22 (lv_at hl 0 rfl) ?_
          refine lv_aload_n hx hb dX5_count_24 rfl (lv_at hl 1 rfl) ?_
          refine u_get C hW inlX5 (by decide) cM_0 rfl 0 (by decide) mw_71 rfl dX5_count_25 ?_
          refine lv_icmp_ge (tgt := 61) hx hb dX5_count_28 (by decide) (fun c9 => absurd c9 (nI_ge (by omega) (by omega))) (fun _ => ?_)
          refine lv_iload_n hx hb dX5_count_31 rfl (lv_at hl 3 rfl) ?_
          refine lv_aload_n hx hb dX5_count_32 rfl (lv_at hl 1 rfl) ?_
          refine lv_iload hx hb dX5_count_33 (lv_at hl 5 rfl) ?_
          refine lv_iload hx hb dX5_count_35 (lv_at hl 0 rfl) ?_
          refine u_callV (cf' := cM cyI cyZ ad n t md jd jn wm od bs ab be hh) (As := [.int (nI i), .int (nI j)]) (rest := [.int a]) (st1 := [.int (t (6 * i + j)), .int a]) C hW (c_X5_d l D cyI cO cyZ ad fa n t md jd jn wm od bs ab be hh i j (by omega) (by omega)) mv_yX5_d mw_126 rfl ⟨rfl, rfl, Nat.le_of_ble_eq_true rfl, Nat.le_of_ble_eq_true rfl⟩ (by decide) cM_0 rfl rfl hl (Nat.le_of_ble_eq_true rfl) rfl rfl dX5_count_37 (fun H locs hW => ?_)
          refine lv_iadd hx hb dX5_count_40 ?_
          refine lv_istore_n (lv' := [(2, .int (a + (t (6 * i + j)))), (5, .int (nI j)), (0, .ref (ad 0)), (1, .int w), (3, .int b), (4, .int (nI i))]) hx hb dX5_count_41 rfl hl (by decide) rfl (fun ls hl => ?_)
          refine lv_iload_n hx hb dX5_count_42 rfl (lv_at hl 4 rfl) ?_
          refine lv_aload_n hx hb dX5_count_43 rfl (lv_at hl 2 rfl) ?_
          refine lv_iload hx hb dX5_count_44 (lv_at hl 5 rfl) ?_
          refine lv_iload hx hb dX5_count_46 (lv_at hl 1 rfl) ?_
          refine u_callV (cf' := cM cyI cyZ ad n t md jd jn wm od bs ab be hh) (As := [.int (nI i), .int (nI j)]) (rest := [.int b]) (st1 := [.int (t (6 * i + j)), .int b]) C hW (c_X5_d l D cyI cO cyZ ad fa n t md jd jn wm od bs ab be hh i j (by omega) (by omega)) mv_yX5_d mw_126 rfl ⟨rfl, rfl, Nat.le_of_ble_eq_true rfl, Nat.le_of_ble_eq_true rfl⟩ (by decide) cM_0 rfl rfl hl (Nat.le_of_ble_eq_true rfl) rfl rfl dX5_count_48 (fun H locs hW => ?_)
          refine u_callS (cf' := cM cyI cyZ ad n t md jd jn wm od bs ab be hh) (As := [.int b, .int (t (6 * i + j))]) (rest := []) (st1 := [.int (grt b (t (6 * i + j)))]) C hW (c_X5_greater l D cyI cO cyZ ad fa n t md jd jn wm od bs ab be hh b (t (6 * i + j)) ) ms_yX5_greater mw_175 rfl ⟨rfl, rfl, Nat.le_of_ble_eq_true rfl, Nat.le_of_ble_eq_true rfl⟩ hl (Nat.le_of_ble_eq_true rfl) rfl rfl dX5_count_51 (fun H locs hW => ?_)
          refine lv_istore_n (lv' := [(3, .int (grt b (t (6 * i + j)))), (2, .int (a + (t (6 * i + j)))), (5, .int (nI j)), (0, .ref (ad 0)), (1, .int w), (4, .int (nI i))]) hx hb dX5_count_54 rfl hl (by decide) rfl (fun ls hl => ?_)
          refine lv_iinc (v := nI (j + 1)) (lv' := [(5, .int (nI (j + 1))), (3, .int (grt b (t (6 * i + j)))), (2, .int (a + (t (6 * i + j)))), (0, .ref (ad 0)), (1, .int w), (4, .int (nI i))]) hx hb dX5_count_55 hl (k := 2) rfl (nI_1 _) (by decide) rfl (fun ls hl => ?_)
          refine lv_goto (tgt := 22) hx hb dX5_count_58 (by decide) ?_
          exact ih22  (j + 1) (a + (t (6 * i + j))) (grt b (t (6 * i + j))) (by omega) r22 H locs hW ls (lv_sub hl [0, 3, 4, 2, 1, 5] rfl)
      exact L22 (n - (i + 1)) (i + 1) a b (by omega) r7 H locs hW ls (lv_sub hl [0, 2, 3, 4, 5, 1] rfl)
  exact L7 n 0 0 0 (by omega) rfl H locs hW ls (lv_sub hl [0, 3, 4, 2, 1] rfl)
set_option maxHeartbeats 4000000 in
set_option maxRecDepth 100000 in
theorem c_X5_mix (l : Launch) (D : va_G) (cyI cO cyZ : ClassId) (ad : Nat → Nat) (fa : Nat) (n : Nat) (t md jd jn wm od : Nat → Int32) (bs : Int32) (ab be hh : Int64) (v : Int64)  : Ct l yX5_mix (Cond.code yX5_mix cX5_mix 3 none :: wsL_law) ({ frames := 0, cells := 0, slots := 0, locals := 0 } : Room) D (ty3 cyI cO cyZ) 7 ad fa [.ref (ad 0), .long v] (cM cyI cyZ ad n t md jd jn wm od bs ab be hh) (cM cyI cyZ ad n t md jd jn wm od bs ab be (mxV hh v)) (none) := by
  refine Ct.of (by decide) (Nat.le_of_ble_eq_true rfl) ?_
  intro p e s m args below meth c A C hr H locs hW ls hl
  have C : Cx p s m args meth c cX5_mix 3 RX5 D (ty3 cyI cO cyZ) fa A := C
  have hx := C.1
  have hb := C.2.1
  have hl : lv_has ls 3 [(0, .ref (ad 0)), (1, .long v)] := hl
  refine lv_aload_n hx hb dX5_mix_0 rfl (lv_at hl 0 rfl) ?_
  refine lv_ldc2 (v := 31) hx hb C.2.2.2.1 (C.2.2.2.2.1 _ mw_574) dX5_mix_1 ?_
  refine lv_aload_n hx hb dX5_mix_4 rfl (lv_at hl 0 rfl) ?_
  refine u_get C hW inlX5 (by decide) cM_0 rfl 10 (by decide) mw_569 rfl dX5_mix_5 ?_
  refine lv_lmul hx hb dX5_mix_8 ?_
  refine lv_lload_n hx hb dX5_mix_9 rfl (lv_at hl 1 rfl) ?_
  refine lv_ladd hx hb dX5_mix_10 ?_
  refine u_put (cf' := cM cyI cyZ ad n t md jd jn wm od bs ab be ((31 * hh) + v)) C hW inlX5 tyX5 tyX5_ok nmX5 (by decide) cM_0 rfl 10 (by decide) mw_569 rfl rfl rfl (Nat.le_of_ble_eq_true rfl) cM_s0 dX5_mix_11 (fun H locs hW => ?_)
  exact u_vret C hr hW dX5_mix_14 rfl
set_option maxHeartbeats 4000000 in
set_option maxRecDepth 100000 in
theorem c_X5_digest (l : Launch) (D : va_G) (cyI cO cyZ : ClassId) (ad : Nat → Nat) (fa : Nat) (n : Nat) (t md jd jn wm od : Nat → Int32) (bs : Int32) (ab be hh : Int64)  (hn : n ≤ 6) : Ct l yX5_digest (Cond.code yX5_digest cX5_digest 3 (some .long) :: wsL_law) ({ frames := 2, cells := 0, slots := 0, locals := 46 } : Room) D (ty3 cyI cO cyZ) 7 ad fa [.ref (ad 0)] (cM cyI cyZ ad n t md jd jn wm od bs ab be hh) (cM cyI cyZ ad n t (mkV n t md 0) jd jn wm od bs ab be (dmR n t (mkV n t md 0) bs)) (some (.long (dmR n t (mkV n t md 0) bs))) := by
  refine Ct.of (by decide) (Nat.le_of_ble_eq_true rfl) ?_
  intro p e s m args below meth c A C hr H locs hW ls hl
  have C : Cx p s m args meth c cX5_digest 3 RX5 D (ty3 cyI cO cyZ) fa A := C
  have hx := C.1
  have hb := C.2.1
  have hl : lv_has ls 3 [(0, .ref (ad 0))] := hl
  refine lv_aload_n hx hb dX5_digest_0 rfl (lv_at hl 0 rfl) ?_
  refine lv_ldc2 (v := 197) hx hb C.2.2.2.1 (C.2.2.2.2.1 _ mw_568) dX5_digest_1 ?_
  refine u_put (cf' := cM cyI cyZ ad n t md jd jn wm od bs ab be 197) C hW inlX5 tyX5 tyX5_ok nmX5 (by decide) cM_0 rfl 10 (by decide) mw_569 rfl rfl rfl (Nat.le_of_ble_eq_true rfl) cM_s0 dX5_digest_4 (fun H locs hW => ?_)
  refine lv_aload_n hx hb dX5_digest_7 rfl (lv_at hl 0 rfl) ?_
  refine lv_aload_n hx hb dX5_digest_8 rfl (lv_at hl 0 rfl) ?_
  refine u_get C hW inlX5 (by decide) cM_0 rfl 0 (by decide) mw_71 rfl dX5_digest_9 ?_
  refine lv_i2l hx hb dX5_digest_12 rfl ?_
  refine u_callV (cf' := cM cyI cyZ ad n t md jd jn wm od bs ab be (mxV 197 ((nI n).toInt64))) (As := [.long ((nI n).toInt64)]) (rest := []) (st1 := []) C hW (c_X5_mix l D cyI cO cyZ ad fa n t md jd jn wm od bs ab be 197 ((nI n).toInt64) ) mv_yX5_mix mw_570 rfl ⟨rfl, rfl, Nat.le_of_ble_eq_true rfl, Nat.le_of_ble_eq_true rfl⟩ (by decide) cM_0 rfl rfl hl (Nat.le_of_ble_eq_true rfl) rfl rfl dX5_digest_13 (fun H locs hW => ?_)
  refine lv_aload_n hx hb dX5_digest_16 rfl (lv_at hl 0 rfl) ?_
  refine lv_iconst (v := 0) hx hb dX5_digest_17 (by decide) ?_
  refine u_callV (cf' := cM cyI cyZ ad n t (mkV n t md 0) jd jn wm od bs ab be (mxV 197 ((nI n).toInt64))) (As := [.int 0]) (rest := []) (st1 := []) C hW (c_X5_make l D cyI cO cyZ ad fa n t md jd jn wm od bs ab be (mxV 197 ((nI n).toInt64)) 0 (by omega)) mv_yX5_make mw_218 rfl ⟨rfl, rfl, Nat.le_of_ble_eq_true rfl, Nat.le_of_ble_eq_true rfl⟩ (by decide) cM_0 rfl rfl hl (Nat.le_of_ble_eq_true rfl) rfl rfl dX5_digest_18 (fun H locs hW => ?_)
  refine lv_iconst (v := 0) hx hb dX5_digest_21 (by decide) ?_
  refine lv_istore_n (lv' := [(1, .int 0), (0, .ref (ad 0))]) hx hb dX5_digest_22 rfl hl (by decide) rfl (fun ls hl => ?_)
  have L23 : ∀ (k23 : Nat) (i : Nat) (h0 : Int64), i + k23 = n → lp (dmO n t (mkV n t md 0)) i k23 h0 = dmH n t (mkV n t md 0) → ∀ (H : Heap) (locs : List Loc), Wd D 7 ad (cM cyI cyZ ad n t (mkV n t md 0) jd jn wm od bs ab be h0) A s.heap H locs → ∀ ls : Array Slot, lv_has ls 3 [(1, .int (nI i)), (0, .ref (ad 0))] → W p l e ({ frames := 2, cells := 0, slots := 0, locals := 46 } : Room) s m args below meth c H locs 0 0 (MQ below (uQ D 7 ad (cM cyI cyZ ad n t (mkV n t md 0) jd jn wm od bs ab be (dmR n t (mkV n t md 0) bs)) (some (.long (dmR n t (mkV n t md 0) bs))) A) args s 0 0 A) (F0 m 23 ls []) := by
    intro k23
    induction k23 with
    | zero =>
      intro i h0 hi r23 H locs hW ls hl
      refine lv_iload_n hx hb dX5_digest_23 rfl (lv_at hl 0 rfl) ?_
      refine lv_aload_n hx hb dX5_digest_24 rfl (lv_at hl 1 rfl) ?_
      refine u_get C hW inlX5 (by decide) cM_0 rfl 0 (by decide) mw_71 rfl dX5_digest_25 ?_
      refine lv_icmp_ge (tgt := 82) hx hb dX5_digest_28 (by decide) (fun _ => ?_) (fun c9 => absurd (nI_le (by omega) (by omega)) c9)
      refine lv_aload_n hx hb dX5_digest_82 rfl (lv_at hl 1 rfl) ?_
      refine lv_aload_n hx hb dX5_digest_83 rfl (lv_at hl 1 rfl) ?_
      refine u_get C hW inlX5 (by decide) cM_0 rfl 2 (by decide) mw_412 rfl dX5_digest_84 ?_
      refine lv_i2l hx hb dX5_digest_87 rfl ?_
      refine u_callV (cf' := cM cyI cyZ ad n t (mkV n t md 0) jd jn wm od bs ab be (mxV h0 bs.toInt64)) (As := [.long bs.toInt64]) (rest := []) (st1 := []) C hW (c_X5_mix l D cyI cO cyZ ad fa n t (mkV n t md 0) jd jn wm od bs ab be h0 bs.toInt64 ) mv_yX5_mix mw_570 rfl ⟨rfl, rfl, Nat.le_of_ble_eq_true rfl, Nat.le_of_ble_eq_true rfl⟩ (by decide) cM_0 rfl rfl hl (Nat.le_of_ble_eq_true rfl) rfl rfl dX5_digest_88 (fun H locs hW => ?_)
      refine lv_aload_n hx hb dX5_digest_91 rfl (lv_at hl 1 rfl) ?_
      refine u_get C hW inlX5 (by decide) cM_0 rfl 10 (by decide) mw_569 rfl dX5_digest_92 ?_
      exact u_lret C hr hW dX5_digest_95 (by have h9 : h0 = _ := r23; rw [h9]; rfl) (by have h9 : h0 = _ := r23; rw [h9]; rfl)
    | succ k23 ih23 =>
      intro i h0 hi r23 H locs hW ls hl
      refine lv_iload_n hx hb dX5_digest_23 rfl (lv_at hl 0 rfl) ?_
      refine lv_aload_n hx hb dX5_digest_24 rfl (lv_at hl 1 rfl) ?_
      refine u_get C hW inlX5 (by decide) cM_0 rfl 0 (by decide) mw_71 rfl dX5_digest_25 ?_
      refine lv_icmp_ge (tgt := 82) hx hb dX5_digest_28 (by decide) (fun c9 => absurd c9 (nI_ge (by omega) (by omega))) (fun _ => ?_)
      refine lv_iload_n hx hb dX5_digest_31 rfl (lv_at hl 0 rfl) ?_
      refine lv_iconst (v := 1) hx hb dX5_digest_32 (by decide) ?_
      refine lv_iadd hx hb dX5_digest_33 ?_
      refine u_top (show (nI i) + 1 = nI (i + 1) from nI_add i 1) ?_
      refine lv_istore_n (lv' := [(2, .int (nI (i + 1))), (1, .int (nI i)), (0, .ref (ad 0))]) hx hb dX5_digest_34 rfl hl (by decide) rfl (fun ls hl => ?_)
      have L35 : ∀ (k35 : Nat) (j : Nat) (h0 : Int64), j + k35 = n → lp (dmO n t (mkV n t md 0)) (i + 1) k23 (lp (dmI t (mkV n t md 0) i) j k35 h0) = dmH n t (mkV n t md 0) → ∀ (H : Heap) (locs : List Loc), Wd D 7 ad (cM cyI cyZ ad n t (mkV n t md 0) jd jn wm od bs ab be h0) A s.heap H locs → ∀ ls : Array Slot, lv_has ls 3 [(2, .int (nI j)), (0, .ref (ad 0)), (1, .int (nI i))] → W p l e ({ frames := 2, cells := 0, slots := 0, locals := 46 } : Room) s m args below meth c H locs 0 0 (MQ below (uQ D 7 ad (cM cyI cyZ ad n t (mkV n t md 0) jd jn wm od bs ab be (dmR n t (mkV n t md 0) bs)) (some (.long (dmR n t (mkV n t md 0) bs))) A) args s 0 0 A) (F0 m 35 ls []) := by
        intro k35
        induction k35 with
        | zero =>
          intro j h0 hj r35 H locs hW ls hl
          refine lv_iload_n hx hb dX5_digest_35 rfl (lv_at hl 0 rfl) ?_
          refine lv_aload_n hx hb dX5_digest_36 rfl (lv_at hl 1 rfl) ?_
          refine u_get C hW inlX5 (by decide) cM_0 rfl 0 (by decide) mw_71 rfl dX5_digest_37 ?_
          refine lv_icmp_ge (tgt := 76) hx hb dX5_digest_40 (by decide) (fun _ => ?_) (fun c9 => absurd (nI_le (by omega) (by omega)) c9)
          refine lv_iinc (v := nI (i + 1)) (lv' := [(1, .int (nI (i + 1))), (2, .int (nI j)), (0, .ref (ad 0))]) hx hb dX5_digest_76 hl (k := 2) rfl (nI_1 _) (by decide) rfl (fun ls hl => ?_)
          refine lv_goto (tgt := 23) hx hb dX5_digest_79 (by decide) ?_
          exact ih23  (i + 1) h0 (by omega) r35 H locs hW ls (lv_sub hl [0, 2] rfl)
        | succ k35 ih35 =>
          intro j h0 hj r35 H locs hW ls hl
          refine lv_iload_n hx hb dX5_digest_35 rfl (lv_at hl 0 rfl) ?_
          refine lv_aload_n hx hb dX5_digest_36 rfl (lv_at hl 1 rfl) ?_
          refine u_get C hW inlX5 (by decide) cM_0 rfl 0 (by decide) mw_71 rfl dX5_digest_37 ?_
          refine lv_icmp_ge (tgt := 76) hx hb dX5_digest_40 (by decide) (fun c9 => absurd c9 (nI_ge (by omega) (by omega))) (fun _ => ?_)
          refine lv_aload_n hx hb dX5_digest_43 rfl (lv_at hl 1 rfl) ?_
          refine lv_aload_n hx hb dX5_digest_44 rfl (lv_at hl 1 rfl) ?_
          refine lv_iload_n hx hb dX5_digest_45 rfl (lv_at hl 2 rfl) ?_
          refine lv_iload_n hx hb dX5_digest_46 rfl (lv_at hl 0 rfl) ?_
          refine u_callV (cf' := cM cyI cyZ ad n t (mkV n t md 0) jd jn wm od bs ab be h0) (As := [.int (nI i), .int (nI j)]) (rest := [.ref (ad 0)]) (st1 := [.int (t (6 * i + j)), .ref (ad 0)]) C hW (c_X5_d l D cyI cO cyZ ad fa n t (mkV n t md 0) jd jn wm od bs ab be h0 i j (by omega) (by omega)) mv_yX5_d mw_126 rfl ⟨rfl, rfl, Nat.le_of_ble_eq_true rfl, Nat.le_of_ble_eq_true rfl⟩ (by decide) cM_0 rfl rfl hl (Nat.le_of_ble_eq_true rfl) rfl rfl dX5_digest_47 (fun H locs hW => ?_)
          refine lv_i2l hx hb dX5_digest_50 rfl ?_
          refine u_callV (cf' := cM cyI cyZ ad n t (mkV n t md 0) jd jn wm od bs ab be (mxV h0 ((t (6 * i + j)).toInt64))) (As := [.long ((t (6 * i + j)).toInt64)]) (rest := []) (st1 := []) C hW (c_X5_mix l D cyI cO cyZ ad fa n t (mkV n t md 0) jd jn wm od bs ab be h0 ((t (6 * i + j)).toInt64) ) mv_yX5_mix mw_570 rfl ⟨rfl, rfl, Nat.le_of_ble_eq_true rfl, Nat.le_of_ble_eq_true rfl⟩ (by decide) cM_0 rfl rfl hl (Nat.le_of_ble_eq_true rfl) rfl rfl dX5_digest_51 (fun H locs hW => ?_)
          refine lv_aload_n hx hb dX5_digest_54 rfl (lv_at hl 1 rfl) ?_
          refine lv_aload_n hx hb dX5_digest_55 rfl (lv_at hl 1 rfl) ?_
          refine u_get C hW inlX5 (by decide) cM_0 rfl 3 (by decide) mw_73 rfl dX5_digest_56 ?_
          refine lv_bipush (v := 6) hx hb dX5_digest_59 (by decide) ?_
          refine lv_iload_n hx hb dX5_digest_61 rfl (lv_at hl 2 rfl) ?_
          refine lv_imul hx hb dX5_digest_62 ?_
          refine u_top (show 6 * (nI i) = nI (6 * i) from pk_mul 6 i) ?_
          refine lv_iload_n hx hb dX5_digest_63 rfl (lv_at hl 0 rfl) ?_
          refine lv_iadd hx hb dX5_digest_64 ?_
          refine u_top (show (nI (6 * i)) + (nI j) = nI ((6 * i) + j) from nI_add (6 * i) j) ?_
          refine u_iald C hW (by decide) cM_2 0 rfl ((6 * i) + j) rfl (by omega) (by decide) dX5_digest_65 ?_
          refine lv_i2l hx hb dX5_digest_66 rfl ?_
          refine u_callV (cf' := cM cyI cyZ ad n t (mkV n t md 0) jd jn wm od bs ab be (mxV (mxV h0 ((t (6 * i + j)).toInt64)) ((mkV n t md 0 ((6 * i) + j)).toInt64))) (As := [.long ((mkV n t md 0 ((6 * i) + j)).toInt64)]) (rest := []) (st1 := []) C hW (c_X5_mix l D cyI cO cyZ ad fa n t (mkV n t md 0) jd jn wm od bs ab be (mxV h0 ((t (6 * i + j)).toInt64)) ((mkV n t md 0 ((6 * i) + j)).toInt64) ) mv_yX5_mix mw_570 rfl ⟨rfl, rfl, Nat.le_of_ble_eq_true rfl, Nat.le_of_ble_eq_true rfl⟩ (by decide) cM_0 rfl rfl hl (Nat.le_of_ble_eq_true rfl) rfl rfl dX5_digest_67 (fun H locs hW => ?_)
          refine lv_iinc (v := nI (j + 1)) (lv' := [(2, .int (nI (j + 1))), (0, .ref (ad 0)), (1, .int (nI i))]) hx hb dX5_digest_70 hl (k := 0) rfl (nI_1 _) (by decide) rfl (fun ls hl => ?_)
          refine lv_goto (tgt := 35) hx hb dX5_digest_73 (by decide) ?_
          exact ih35  (j + 1) (mxV (mxV h0 ((t (6 * i + j)).toInt64)) ((mkV n t md 0 ((6 * i) + j)).toInt64)) (by omega) r35 H locs hW ls (lv_sub hl [0, 1, 2] rfl)
      exact L35 (n - (i + 1)) (i + 1) h0 (by omega) r23 H locs hW ls (lv_sub hl [0, 2, 1] rfl)
  exact L23 n 0 (mxV 197 ((nI n).toInt64)) (by omega) rfl H locs hW ls (lv_sub hl [0, 1] rfl)
