set_option maxHeartbeats 4000000 in
set_option maxRecDepth 100000 in
theorem l_loop {p : Program} {l : Launch} {e : Env} {s : State} {m : MethodId} {below : List Frame} {meth : Method} {c : Code} {D : va_G} {cyI cO cyZ : ClassId} {aC aM : Nat → Nat} {fa b L : Nat} {xs : Nat → Int32} (C : Cx p s m #[Value.ref b] meth c code 4 RL D (ty3 cyI cO cyZ) fa (fun q => s.heap.size ≤ q)) (hr : meth.sig.returnType = ret) (hX : va_X b L xs s s.heap) (hbl : b < s.heap.size) (hL : L ≤ 2048) : ∀ (k i : Nat), L ≤ i + k → i ≤ 3000 → Nx p l e s m #[Value.ref b] below meth c (lw_Z below #[Value.ref b] s) D cyI cO cyZ aC aM (fun q => s.heap.size ≤ q) b i 18 := by
  have hx := C.1
  have hb := C.2.1
  have hbA : ¬ (fun q => s.heap.size ≤ q) b := fun q => absurd (show s.heap.size ≤ b from q) (by omega)
  have fin : ∀ (i : Nat), ¬ i + 4 ≤ L → i ≤ 3000 → Nx p l e s m #[Value.ref b] below meth c (lw_Z below #[Value.ref b] s) D cyI cO cyZ aC aM (fun q => s.heap.size ≤ q) b i 18 := by
    intro i hi hi2 n d md go ke ha wy ab be t m2 jd jn wm od ab2 be2 hh Dd sv hR hs H locs hW ls hl
    refine lv_iload_n hx hb dL_law_18 rfl (lv_at hl 0 rfl) ?_
    refine lv_aload_n hx hb dL_law_19 rfl (lv_at hl 3 rfl) ?_
    refine va_slen hx hb hX hbl hbA hW.2.2.2.2.2 dL_law_20 ?_
    refine lv_iconst (v := nI 4) hx hb dL_law_21 (by decide) ?_
    refine lv_isub hx hb dL_law_22 ?_
    have hlt : nI L - nI 4 < nI i := by
      by_cases h4 : 4 ≤ L
      · rw [pk_sub h4]; exact nI_lt (by omega) (by omega)
      · exact Int32.lt_of_lt_of_le (pk_sneg (by decide) (by omega)) (nI_pos' (by omega))
    refine lv_icmp_gt (tgt := 784) hx hb dL_law_23 (by decide) (fun _ => ?_) (fun c9 => absurd hlt c9)
    refine lv_iconst (v := 1) hx hb dL_law_784 (by decide) ?_
    refine W.widen (k := 600000) (n := 7302250) (Nat.le_of_ble_eq_true rfl) (Nat.le_of_ble_eq_true rfl) ?_
    refine va_forget (fun q hq => hW.2.2.2.2.2.2.2 q hq) ?_
    exact lw_ret hx hb hr C.2.2.2.2.2.2.2.1 dL_law_785
  intro k
  induction k with
  | zero => intro i hk hi; exact fin i (by omega) hi
  | succ k ih =>
    intro i hk hi2
    by_cases hi : i + 4 ≤ L
    · have NX : Nx p l e s m #[Value.ref b] below meth c (lw_Z below #[Value.ref b] s) D cyI cO cyZ aC aM (fun q => s.heap.size ≤ q) b i 778 := by
        intro n d md go ke ha wy ab be t m2 jd jn wm od ab2 be2 hh Dd sv hR hs H locs hW ls hl
        refine lv_iinc (v := nI (i + 4)) (lv' := [(3, .int (nI (i + 4))), (2, .ref (aM 0)), (1, .ref (aC 0)), (0, .ref b)]) hx hb dL_law_778 hl (k := 0) rfl (nI_add i 4) (by decide) rfl (fun ls hl => ?_)
        refine lv_goto (tgt := 18) hx hb dL_law_781 (by decide) ?_
        exact ih (i + 4) (by omega) (by omega) n d md go ke ha wy ab be t m2 jd jn wm od ab2 be2 hh Dd sv hR hs H locs hW ls hl
      intro n d md go ke ha wy ab be t m2 jd jn wm od ab2 be2 hh Dd sv hR hs H locs hW ls hl
      refine lv_iload_n hx hb dL_law_18 rfl (lv_at hl 0 rfl) ?_
      refine lv_aload_n hx hb dL_law_19 rfl (lv_at hl 3 rfl) ?_
      refine va_slen hx hb hX hbl hbA hW.2.2.2.2.2 dL_law_20 ?_
      refine lv_iconst (v := nI 4) hx hb dL_law_21 (by decide) ?_
      refine lv_isub hx hb dL_law_22 ?_
      refine u_top (show nI L - nI 4 = nI (L - 4) from pk_sub (by omega)) ?_
      refine lv_icmp_gt (tgt := 784) hx hb dL_law_23 (by decide) (fun c9 => absurd c9 (nI_nlt (by omega) (by omega))) (fun _ => ?_)
      refine lv_aload_n hx hb dL_law_26 rfl (lv_at hl 3 rfl) ?_
      refine lv_iload_n hx hb dL_law_27 rfl (lv_at hl 0 rfl) ?_
      refine va_sld hx hb hX hbl hbA hW.2.2.2.2.2 (vp_in_nI (show i < L by omega) (by omega)) dL_law_28 ?_
      refine lv_bipush (v := 31) hx hb dL_law_29 (by decide) ?_
      refine lv_iand hx hb dL_law_31 ?_
      obtain ⟨j, hj, ej⟩ := pk_andE (xs (nI i).toNatClampNeg) (m := 31) 5 (by decide)
      refine u_top ej ?_
      by_cases hj24 : j < 24
      · rcases (show j = 0 ∨ j = 1 ∨ j = 2 ∨ j = 3 ∨ j = 4 ∨ j = 5 ∨ j = 6 ∨ j = 7 ∨ j = 8 ∨ j = 9 ∨ j = 10 ∨ j = 11 ∨ j = 12 ∨ j = 13 ∨ j = 14 ∨ j = 15 ∨ j = 16 ∨ j = 17 ∨ j = 18 ∨ j = 19 ∨ j = 20 ∨ j = 21 ∨ j = 22 ∨ j = 23 by omega) with rfl | rfl | rfl | rfl | rfl | rfl | rfl | rfl | rfl | rfl | rfl | rfl | rfl | rfl | rfl | rfl | rfl | rfl | rfl | rfl | rfl | rfl | rfl | rfl
        · exact lv_tableIn (off := 112) (tgt := 144) hx hb dL_law_32 (by decide) (by decide) rfl (by decide) (op_points C hX hbl hbA hL hi NX n d md go ke ha wy ab be t m2 jd jn wm od ab2 be2 hh Dd sv hR hs H locs hW ls hl)
        · exact lv_tableIn (off := 135) (tgt := 167) hx hb dL_law_32 (by decide) (by decide) rfl (by decide) (op_set C hX hbl hbA hL hi NX n d md go ke ha wy ab be t m2 jd jn wm od ab2 be2 hh Dd sv hR hs H locs hW ls hl)
        · exact lv_tableIn (off := 178) (tgt := 210) hx hb dL_law_32 (by decide) (by decide) rfl (by decide) (op_get C hX hbl hbA hL hi NX n d md go ke ha wy ab be t m2 jd jn wm od ab2 be2 hh Dd sv hR hs H locs hW ls hl)
        · exact lv_tableIn (off := 211) (tgt := 243) hx hb dL_law_32 (by decide) (by decide) rfl (by decide) (op_is C hX hbl hbA hL hi NX n d md go ke ha wy ab be t m2 jd jn wm od ab2 be2 hh Dd sv hR hs H locs hW ls hl)
        · exact lv_tableIn (off := 234) (tgt := 266) hx hb dL_law_32 (by decide) (by decide) rfl (by decide) (op_broken C hX hbl hbA hL hi NX n d md go ke ha wy ab be t m2 jd jn wm od ab2 be2 hh Dd sv hR hs H locs hW ls hl)
        · exact lv_tableIn (off := 257) (tgt := 289) hx hb dL_law_32 (by decide) (by decide) rfl (by decide) (op_mend C hX hbl hbA hL hi NX n d md go ke ha wy ab be t m2 jd jn wm od ab2 be2 hh Dd sv hR hs H locs hW ls hl)
        · exact lv_tableIn (off := 270) (tgt := 302) hx hb dL_law_32 (by decide) (by decide) rfl (by decide) (op_low C hX hbl hbA hL hi NX n d md go ke ha wy ab be t m2 jd jn wm od ab2 be2 hh Dd sv hR hs H locs hW ls hl)
        · exact lv_tableIn (off := 303) (tgt := 335) hx hb dL_law_32 (by decide) (by decide) rfl (by decide) (op_gap C hX hbl hbA hL hi NX n d md go ke ha wy ab be t m2 jd jn wm od ab2 be2 hh Dd sv hR hs H locs hW ls hl)
        · exact lv_tableIn (off := 316) (tgt := 348) hx hb dL_law_32 (by decide) (by decide) rfl (by decide) (op_groups C hX hbl hbA hL hi NX n d md go ke ha wy ab be t m2 jd jn wm od ab2 be2 hh Dd sv hR hs H locs hW ls hl)
        · exact lv_tableIn (off := 339) (tgt := 371) hx hb dL_law_32 (by decide) (by decide) rfl (by decide) (op_lower C hX hbl hbA hL hi NX n d md go ke ha wy ab be t m2 jd jn wm od ab2 be2 hh Dd sv hR hs H locs hW ls hl)
        · exact lv_tableIn (off := 352) (tgt := 384) hx hb dL_law_32 (by decide) (by decide) rfl (by decide) (op_codes C hX hbl hbA hL hi NX n d md go ke ha wy ab be t m2 jd jn wm od ab2 be2 hh Dd sv hR hs H locs hW ls hl)
        · exact lv_tableIn (off := 365) (tgt := 397) hx hb dL_law_32 (by decide) (by decide) rfl (by decide) (op_joined C hX hbl hbA hL hi NX n d md go ke ha wy ab be t m2 jd jn wm od ab2 be2 hh Dd sv hR hs H locs hW ls hl)
        · exact lv_tableIn (off := 408) (tgt := 440) hx hb dL_law_32 (by decide) (by decide) rfl (by decide) (op_way C hX hbl hbA hL hi NX n d md go ke ha wy ab be t m2 jd jn wm od ab2 be2 hh Dd sv hR hs H locs hW ls hl)
        · exact lv_tableIn (off := 451) (tgt := 483) hx hb dL_law_32 (by decide) (by decide) rfl (by decide) (op_stretch C hX hbl hbA hL hi NX n d md go ke ha wy ab be t m2 jd jn wm od ab2 be2 hh Dd sv hR hs H locs hW ls hl)
        · exact lv_tableIn (off := 485) (tgt := 517) hx hb dL_law_32 (by decide) (by decide) rfl (by decide) (op_spread C hX hbl hbA hL hi NX n d md go ke ha wy ab be t m2 jd jn wm od ab2 be2 hh Dd sv hR hs H locs hW ls hl)
        · exact lv_tableIn (off := 508) (tgt := 540) hx hb dL_law_32 (by decide) (by decide) rfl (by decide) (op_best C hX hbl hbA hL hi NX n d md go ke ha wy ab be t m2 jd jn wm od ab2 be2 hh Dd sv hR hs H locs hW ls hl)
        · exact lv_tableIn (off := 531) (tgt := 563) hx hb dL_law_32 (by decide) (by decide) rfl (by decide) (op_grow C hX hbl hbA hL hi NX n d md go ke ha wy ab be t m2 jd jn wm od ab2 be2 hh Dd sv hR hs H locs hW ls hl)
        · exact lv_tableIn (off := 554) (tgt := 586) hx hb dL_law_32 (by decide) (by decide) rfl (by decide) (op_weight C hX hbl hbA hL hi NX n d md go ke ha wy ab be t m2 jd jn wm od ab2 be2 hh Dd sv hR hs H locs hW ls hl)
        · exact lv_tableIn (off := 577) (tgt := 609) hx hb dL_law_32 (by decide) (by decide) rfl (by decide) (op_parts C hX hbl hbA hL hi NX n d md go ke ha wy ab be t m2 jd jn wm od ab2 be2 hh Dd sv hR hs H locs hW ls hl)
        · exact lv_tableIn (off := 590) (tgt := 622) hx hb dL_law_32 (by decide) (by decide) rfl (by decide) (op_rest C hX hbl hbA hL hi NX n d md go ke ha wy ab be t m2 jd jn wm od ab2 be2 hh Dd sv hR hs H locs hW ls hl)
        · exact lv_tableIn (off := 623) (tgt := 655) hx hb dL_law_32 (by decide) (by decide) rfl (by decide) (op_drawn C hX hbl hbA hL hi NX n d md go ke ha wy ab be t m2 jd jn wm od ab2 be2 hh Dd sv hR hs H locs hW ls hl)
        · exact lv_tableIn (off := 666) (tgt := 698) hx hb dL_law_32 (by decide) (by decide) rfl (by decide) (op_goes C hX hbl hbA hL hi NX n d md go ke ha wy ab be t m2 jd jn wm od ab2 be2 hh Dd sv hR hs H locs hW ls hl)
        · exact lv_tableIn (off := 709) (tgt := 741) hx hb dL_law_32 (by decide) (by decide) rfl (by decide) (op_count C hX hbl hbA hL hi NX n d md go ke ha wy ab be t m2 jd jn wm od ab2 be2 hh Dd sv hR hs H locs hW ls hl)
        · exact lv_tableIn (off := 732) (tgt := 764) hx hb dL_law_32 (by decide) (by decide) rfl (by decide) (op_digest C hX hbl hbA hL hi NX n d md go ke ha wy ab be t m2 jd jn wm od ab2 be2 hh Dd sv hR hs H locs hW ls hl)
      · have hjt : (nI j).toInt = (j : Int) := nI_toInt (by omega)
        exact lv_tableOut (tgt := 778) hx hb dL_law_32 (Or.inr (by rw [hjt]; omega)) (by decide) (NX n d md go ke ha wy ab be t m2 jd jn wm od ab2 be2 hh Dd sv hR hs H locs hW ls hl)
    · exact fin i hi hi2
set_option maxHeartbeats 4000000 in
set_option maxRecDepth 100000 in
theorem whole_start {p : Program} {e : Env} {s : State} {m : MethodId} {below : List Frame} {meth : Method} {c : Code} (l : Launch) {b L : Nat} {xs : Nat → Int32} (hL : L ≤ 2048) (C0 : lw_At p s m meth c b L xs) : W p l e room_1 s m #[Value.ref b] below meth c s.heap [] 0 0 (lw_Z below #[Value.ref b] s) (entryFrame m ([Value.ref b] : List Value).toArray 4) := by
  obtain ⟨hx, hb, hr, hml, hown, hts0, hX, hbl, hlk, hgv⟩ := C0
  have hts : ∀ w ∈ wsL_law, w.before #[Value.ref b] s = true := fun w hw => hts0 w (t_all w hw)
  have hO : AO s := Jvm.Stand.arrayOver_alikeB (Vm.Alike.refl s.vm) (hts0 _ t_over)
  have hNW : NW s := fun w hw => va_Nw.of (nestW_tab w hw) (hts0 w (tn_all w hw))
  obtain ⟨D, cyI, cO, cyZ, hK⟩ := l_K hts hO
  obtain ⟨fa, hF⟩ := l_F hts0 (hts _ mw_2) hgv
  have C : Cx p s m #[Value.ref b] meth c code 4 RL D (ty3 cyI cO cyZ) fa (fun q => s.heap.size ≤ q) := ⟨hx, hb, hml, hown, hts, hK, hNW, hlk, fun q h => h, hF⟩
  rw [lg_entry_eq]
  have hl := lv_entry ([.ref b]) (n := 4) (Nat.le_of_ble_eq_true rfl)
  generalize (lg_sl ([.ref b]) ++ List.replicate (4 - (lg_sl ([.ref b])).length) Slot.unset).toArray = ls at hl ⊢
  have hl : lv_has ls 4 [(0, .ref b)] := hl
  have hW : Ld D [] (fun q => s.heap.size ≤ q) s.heap s.heap [] := ⟨fun k q hk => (by cases hk), ⟨fun i j x y hi => (by cases hi), fun k q hk => (by cases hk)⟩, va_S.rf⟩
  refine k_new (ci := 4) (fs := [.null, .null, .null, .null, .int 0]) C hW inlX4 tyX4 tyX4_ok mw_0 mw_1 mw_2 rfl (fun j hj => by rcases (show j = 0 ∨ j = 1 ∨ j = 2 ∨ j = 3 ∨ j = 4 by omega) with rfl | rfl | rfl | rfl | rfl <;> rfl) (Nat.le_of_ble_eq_true rfl) (Nat.le_of_ble_eq_true rfl) dL_law_0 (fun q1 H hW => ?_)
  refine lv_dup hx hb dL_law_3 rfl ?_
  refine k_callI (n := 0) (As := []) (rest := [.ref q1]) C hO hW (c_X4_init l D cyI cO cyZ fa q1) mw_2 mw_8 mw_7 rfl (by decide +kernel) mw_6 rfl ⟨rfl, rfl, Nat.le_of_ble_eq_true rfl, Nat.le_of_ble_eq_true rfl⟩ hl (Nat.le_of_ble_eq_true rfl) rfl dL_law_4 ⟨Nat.le_of_ble_eq_true rfl, Nat.le_of_ble_eq_true rfl⟩ (fun w1 H locs hSh hW5 => ?_)
  obtain ⟨aC, ea, rfl⟩ := hSh
  subst ea
  refine lv_astore_n (lv' := [(1, .ref (aC 0)), (0, .ref b)]) hx hb dL_law_7 rfl hl (by decide) rfl (fun ls hl => ?_)
  have hW : Ld D (uw 29 aC (cC0 cyI cO aC 2 (beginV (fun _ _ => 0)))) (fun q => s.heap.size ≤ q) s.heap H locs := hW5
  refine k_new (ci := 5) (fs := [.int 0, .null, .int 0, .null, .null, .null, .null, .long 0, .long 0, .null, .long 0]) C hW inlX5 tyX5 tyX5_ok mw_3 mw_4 mw_5 rfl (fun j hj => by rcases (show j = 0 ∨ j = 1 ∨ j = 2 ∨ j = 3 ∨ j = 4 ∨ j = 5 ∨ j = 6 ∨ j = 7 ∨ j = 8 ∨ j = 9 ∨ j = 10 by omega) with rfl | rfl | rfl | rfl | rfl | rfl | rfl | rfl | rfl | rfl | rfl <;> rfl) (Nat.le_of_ble_eq_true rfl) (Nat.le_of_ble_eq_true rfl) dL_law_8 (fun q2 H hW => ?_)
  refine lv_dup hx hb dL_law_11 rfl ?_
  refine k_callI (n := 0) (As := []) (rest := [.ref q2]) C hO hW (c_X5_init l D cyI cO cyZ fa q2) mw_5 mw_69 mw_68 rfl (by decide +kernel) mw_67 rfl ⟨rfl, rfl, Nat.le_of_ble_eq_true rfl, Nat.le_of_ble_eq_true rfl⟩ hl (Nat.le_of_ble_eq_true rfl) rfl dL_law_12 ⟨Nat.le_of_ble_eq_true rfl, Nat.le_of_ble_eq_true rfl⟩ (fun w1 H5 locs5 hSh hW6 => ?_)
  obtain ⟨aM, ea, rfl⟩ := hSh
  subst ea
  refine lv_astore_n (lv' := [(2, .ref (aM 0)), (1, .ref (aC 0)), (0, .ref b)]) hx hb dL_law_15 rfl hl (by decide) rfl (fun ls hl => ?_)
  refine lv_iconst (v := nI 0) hx hb dL_law_16 (by decide) ?_
  refine lv_istore_n (lv' := [(3, .int (nI 0)), (2, .ref (aM 0)), (1, .ref (aC 0)), (0, .ref b)]) hx hb dL_law_17 rfl hl (by decide) rfl (fun ls hl => ?_)
  refine W.widen (k := 36) (n := 328) (Nat.le_of_ble_eq_true rfl) (Nat.le_of_ble_eq_true rfl) ?_
  exact l_loop C hr hX hbl hL L 0 (by omega) (by omega) 2 (beginV (fun _ _ => 0)) (fun _ _ => 0) (fun _ => 0) (fun _ => 0) (fun _ => 0) (fun _ _ => 0) 1 1 (mbV (fun _ => 0)) (fun _ => 0) (fun _ => 0) (fun _ => 0) (fun _ => 0) (fun _ => 0) 0 0 0 beD 0 (Rl_begin (d := fun _ _ => 0) (t := fun _ => 0) (by decide) (by decide)) (by decide) H5 locs5 (L2.of hW6) ls hl
