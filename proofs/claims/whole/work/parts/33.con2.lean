set_option maxHeartbeats 4000000 in
set_option maxRecDepth 100000 in
theorem c_X2_init (l : Launch) (D : va_G) (cyI cO cyZ : ClassId) (fa : Nat) (h0 tb : Nat) : Cn l yX2_init (Cond.code yX2_init cX2_init 2 none :: wsL_law) ({ frames := 1, cells := 0, slots := 0, locals := 12 } : Room) D (ty3 cyI cO cyZ) fa [.ref h0, .ref tb] [(h0, .inr (2, [.null]))] (fun w => w = [(h0, .inr (2, [.ref tb]))]) 0 0 := by
  refine Cn.of (by decide) rfl (Nat.le_of_ble_eq_true rfl) ?_
  intro p e s m args below meth c A C hO hnm hr H locs hW ls hl
  have hx := C.1
  have hb := C.2.1
  have hl : lv_has ls 2 [(0, .ref h0), (1, .ref tb)] := hl
  refine lv_aload_n hx hb dX2_init_0 rfl (lv_at hl 0 rfl) ?_
  refine k_init C mw_51 hl (Nat.le_of_ble_eq_true rfl) (Nat.le_of_ble_eq_true rfl) dX2_init_1 ?_
  refine lv_aload_n hx hb dX2_init_4 rfl (lv_at hl 0 rfl) ?_
  refine lv_aload_n hx hb dX2_init_5 rfl (lv_at hl 1 rfl) ?_
  refine va_putF hx hb C.2.2.2.2.1 inlX2 tyX2 tyX2_ok nmX2 C.2.2.2.1 C.2.2.2.2.2.1 hW.1 hW.2.1 hW.2.2 0 rfl rfl 0 (by decide) (C.2.2.2.2.1 _ mw_52) (fun _ h => h) rfl hnm rfl (tyX2_ok 0 (by decide)) rfl rfl (Nat.le_of_ble_eq_true rfl) dX2_init_6 (fun H locs hP hD hS => ?_)
  have hW : Ld D [(h0, .inr (2, [.ref tb]))] A s.heap H locs := ⟨hP, hD, hS⟩
  exact k_vret C hr hW rfl (Nat.le_refl _) (Nat.le_refl _) dX2_init_9
set_option maxHeartbeats 4000000 in
set_option maxRecDepth 100000 in
theorem c_X0_init (l : Launch) (D : va_G) (cyI cO cyZ : ClassId) (fa : Nat) (h0 tb : Nat) : Cn l yX0_init (Cond.code yX0_init cX0_init 2 none :: wsL_law) ({ frames := 1, cells := 0, slots := 0, locals := 12 } : Room) D (ty3 cyI cO cyZ) fa [.ref h0, .ref tb] [(h0, .inr (0, [.null]))] (fun w => w = [(h0, .inr (0, [.ref tb]))]) 0 0 := by
  refine Cn.of (by decide) rfl (Nat.le_of_ble_eq_true rfl) ?_
  intro p e s m args below meth c A C hO hnm hr H locs hW ls hl
  have hx := C.1
  have hb := C.2.1
  have hl : lv_has ls 2 [(0, .ref h0), (1, .ref tb)] := hl
  refine lv_aload_n hx hb dX0_init_0 rfl (lv_at hl 0 rfl) ?_
  refine k_init C mw_56 hl (Nat.le_of_ble_eq_true rfl) (Nat.le_of_ble_eq_true rfl) dX0_init_1 ?_
  refine lv_aload_n hx hb dX0_init_4 rfl (lv_at hl 0 rfl) ?_
  refine lv_aload_n hx hb dX0_init_5 rfl (lv_at hl 1 rfl) ?_
  refine va_putF hx hb C.2.2.2.2.1 inlX0 tyX0 tyX0_ok nmX0 C.2.2.2.1 C.2.2.2.2.2.1 hW.1 hW.2.1 hW.2.2 0 rfl rfl 0 (by decide) (C.2.2.2.2.1 _ mw_57) (fun _ h => h) rfl hnm rfl (tyX0_ok 0 (by decide)) rfl rfl (Nat.le_of_ble_eq_true rfl) dX0_init_6 (fun H locs hP hD hS => ?_)
  have hW : Ld D [(h0, .inr (0, [.ref tb]))] A s.heap H locs := ⟨hP, hD, hS⟩
  exact k_vret C hr hW rfl (Nat.le_refl _) (Nat.le_refl _) dX0_init_9
def ShT (cyI cO : ClassId) (h0 : Nat) (w : va_W) : Prop := ∃ (q1 : Nat) (r1 : Nat → Nat) (q2 : Nat) (r2 : Nat → Nat), w = ([(h0, .inr (3, [.ref q1, .ref q2, .int 0]))] ++ ((q1, oQ cO r1) :: z6 cyI r1)) ++ ((q2, oQ cO r2) :: z6 cyI r2)
set_option maxHeartbeats 4000000 in
set_option maxRecDepth 100000 in
theorem c_X3_init (l : Launch) (D : va_G) (cyI cO cyZ : ClassId) (fa : Nat) (h0 : Nat) : Cn l yX3_init (Cond.code yX3_init cX3_init 1 none :: wsL_law) ({ frames := 1, cells := 14, slots := 84, locals := 12 } : Room) D (ty3 cyI cO cyZ) fa [.ref h0] [(h0, .inr (3, [.null, .null, .int 0]))] (ShT cyI cO h0) 14 84 := by
  refine Cn.of (by decide) rfl (Nat.le_of_ble_eq_true rfl) ?_
  intro p e s m args below meth c A C hO hnm hr H locs hW ls hl
  have hx := C.1
  have hb := C.2.1
  have hl : lv_has ls 1 [(0, .ref h0)] := hl
  refine lv_aload_n hx hb dX3_init_0 rfl (lv_at hl 0 rfl) ?_
  refine k_init C mw_31 hl (Nat.le_of_ble_eq_true rfl) (Nat.le_of_ble_eq_true rfl) dX3_init_1 ?_
  refine lv_aload_n hx hb dX3_init_4 rfl (lv_at hl 0 rfl) ?_
  refine lv_bipush (v := 6) hx hb dX3_init_5 (by decide) ?_
  refine lv_bipush (v := 6) hx hb dX3_init_7 (by decide) ?_
  refine k_mna C hO hW mw_32 (Nat.le_of_ble_eq_true rfl) (Nat.le_of_ble_eq_true rfl) dX3_init_9 (fun q1 r1 H hW => ?_)
  refine va_putF hx hb C.2.2.2.2.1 inlX3 tyX3 tyX3_ok nmX3 C.2.2.2.1 C.2.2.2.2.2.1 hW.1 hW.2.1 hW.2.2 0 rfl rfl 0 (by decide) (C.2.2.2.2.1 _ mw_34) (fun _ h => h) rfl hnm rfl (tyX3_ok 0 (by decide)) rfl rfl (Nat.le_of_ble_eq_true rfl) dX3_init_13 (fun H locs hP hD hS => ?_)
  have hW : Ld D ([(h0, .inr (3, [.ref q1, .null, .int 0]))] ++ ((q1, oQ cO r1) :: z6 cyI r1)) A s.heap H locs := ⟨hP, hD, hS⟩
  refine lv_aload_n hx hb dX3_init_16 rfl (lv_at hl 0 rfl) ?_
  refine lv_bipush (v := 6) hx hb dX3_init_17 (by decide) ?_
  refine lv_bipush (v := 6) hx hb dX3_init_19 (by decide) ?_
  refine k_mna C hO hW mw_32 (Nat.le_of_ble_eq_true rfl) (Nat.le_of_ble_eq_true rfl) dX3_init_21 (fun q2 r2 H hW => ?_)
  refine va_putF hx hb C.2.2.2.2.1 inlX3 tyX3 tyX3_ok nmX3 C.2.2.2.1 C.2.2.2.2.2.1 hW.1 hW.2.1 hW.2.2 0 rfl rfl 1 (by decide) (C.2.2.2.2.1 _ mw_35) (fun _ h => h) rfl hnm rfl (tyX3_ok 1 (by decide)) rfl rfl (Nat.le_of_ble_eq_true rfl) dX3_init_25 (fun H locs hP hD hS => ?_)
  have hW : Ld D (([(h0, .inr (3, [.ref q1, .ref q2, .int 0]))] ++ ((q1, oQ cO r1) :: z6 cyI r1)) ++ ((q2, oQ cO r2) :: z6 cyI r2)) A s.heap H locs := ⟨hP, hD, hS⟩
  exact k_vret C hr hW ⟨q1, r1, q2, r2, rfl⟩ (Nat.le_of_ble_eq_true rfl) (Nat.le_of_ble_eq_true rfl) dX3_init_28
def ShS (cyI cO : ClassId) (h0 tb : Nat) (w : va_W) : Prop := ∃ (a1 a2 a3 q : Nat) (r : Nat → Nat), w = [(h0, .inr (1, [.ref tb, .ref a1, .ref a2, .ref a3, .ref q, .int 1, .int 1])), (a1, iR cyI 6 (fun _ => 0)), (a2, iR cyI 6 (fun _ => 0)), (a3, iR cyI 6 (fun _ => 0))] ++ ((q, oQ cO r) :: z6 cyI r)
set_option maxHeartbeats 4000000 in
set_option maxRecDepth 100000 in
theorem c_X1_init (l : Launch) (D : va_G) (cyI cO cyZ : ClassId) (fa : Nat) (h0 tb : Nat) : Cn l yX1_init (Cond.code yX1_init cX1_init 2 none :: wsL_law) ({ frames := 1, cells := 10, slots := 60, locals := 12 } : Room) D (ty3 cyI cO cyZ) fa [.ref h0, .ref tb] [(h0, .inr (1, [.null, .null, .null, .null, .null, .int 0, .int 0]))] (ShS cyI cO h0 tb) 10 60 := by
  refine Cn.of (by decide) rfl (Nat.le_of_ble_eq_true rfl) ?_
  intro p e s m args below meth c A C hO hnm hr H locs hW ls hl
  have hx := C.1
  have hb := C.2.1
  have hl : lv_has ls 2 [(0, .ref h0), (1, .ref tb)] := hl
  refine lv_aload_n hx hb dX1_init_0 rfl (lv_at hl 0 rfl) ?_
  refine k_init C mw_39 hl (Nat.le_of_ble_eq_true rfl) (Nat.le_of_ble_eq_true rfl) dX1_init_1 ?_
  refine lv_aload_n hx hb dX1_init_4 rfl (lv_at hl 0 rfl) ?_
  refine lv_bipush (v := 6) hx hb dX1_init_5 (by decide) ?_
  refine k_newa (atype := .int) (ty := .int) (N' := 6) C hW rfl mw_33 0 rfl (fun _ h => h) (fun _ => rfl) (by decide) (by decide) (by decide) (Nat.le_of_ble_eq_true rfl) (Nat.le_of_ble_eq_true rfl) dX1_init_7 (fun a1 H hW => ?_)
  refine va_putF hx hb C.2.2.2.2.1 inlX1 tyX1 tyX1_ok nmX1 C.2.2.2.1 C.2.2.2.2.2.1 hW.1 hW.2.1 hW.2.2 0 rfl rfl 1 (by decide) (C.2.2.2.2.1 _ mw_40) (fun _ h => h) rfl hnm rfl (tyX1_ok 1 (by decide)) rfl rfl (Nat.le_of_ble_eq_true rfl) dX1_init_9 (fun H locs hP hD hS => ?_)
  have hW : Ld D ([(h0, .inr (1, [.null, .ref a1, .null, .null, .null, .int 0, .int 0])), (a1, iR cyI 6 (fun _ => 0))]) A s.heap H locs := ⟨hP, hD, hS⟩
  refine lv_aload_n hx hb dX1_init_12 rfl (lv_at hl 0 rfl) ?_
  refine lv_bipush (v := 6) hx hb dX1_init_13 (by decide) ?_
  refine k_newa (atype := .int) (ty := .int) (N' := 6) C hW rfl mw_33 0 rfl (fun _ h => h) (fun _ => rfl) (by decide) (by decide) (by decide) (Nat.le_of_ble_eq_true rfl) (Nat.le_of_ble_eq_true rfl) dX1_init_15 (fun a2 H hW => ?_)
  refine va_putF hx hb C.2.2.2.2.1 inlX1 tyX1 tyX1_ok nmX1 C.2.2.2.1 C.2.2.2.2.2.1 hW.1 hW.2.1 hW.2.2 0 rfl rfl 2 (by decide) (C.2.2.2.2.1 _ mw_41) (fun _ h => h) rfl hnm rfl (tyX1_ok 2 (by decide)) rfl rfl (Nat.le_of_ble_eq_true rfl) dX1_init_17 (fun H locs hP hD hS => ?_)
  have hW : Ld D ([(h0, .inr (1, [.null, .ref a1, .ref a2, .null, .null, .int 0, .int 0])), (a1, iR cyI 6 (fun _ => 0)), (a2, iR cyI 6 (fun _ => 0))]) A s.heap H locs := ⟨hP, hD, hS⟩
  refine lv_aload_n hx hb dX1_init_20 rfl (lv_at hl 0 rfl) ?_
  refine lv_bipush (v := 6) hx hb dX1_init_21 (by decide) ?_
  refine k_newa (atype := .int) (ty := .int) (N' := 6) C hW rfl mw_33 0 rfl (fun _ h => h) (fun _ => rfl) (by decide) (by decide) (by decide) (Nat.le_of_ble_eq_true rfl) (Nat.le_of_ble_eq_true rfl) dX1_init_23 (fun a3 H hW => ?_)
  refine va_putF hx hb C.2.2.2.2.1 inlX1 tyX1 tyX1_ok nmX1 C.2.2.2.1 C.2.2.2.2.2.1 hW.1 hW.2.1 hW.2.2 0 rfl rfl 3 (by decide) (C.2.2.2.2.1 _ mw_42) (fun _ h => h) rfl hnm rfl (tyX1_ok 3 (by decide)) rfl rfl (Nat.le_of_ble_eq_true rfl) dX1_init_25 (fun H locs hP hD hS => ?_)
  have hW : Ld D ([(h0, .inr (1, [.null, .ref a1, .ref a2, .ref a3, .null, .int 0, .int 0])), (a1, iR cyI 6 (fun _ => 0)), (a2, iR cyI 6 (fun _ => 0)), (a3, iR cyI 6 (fun _ => 0))]) A s.heap H locs := ⟨hP, hD, hS⟩
  refine lv_aload_n hx hb dX1_init_28 rfl (lv_at hl 0 rfl) ?_
  refine lv_bipush (v := 6) hx hb dX1_init_29 (by decide) ?_
  refine lv_bipush (v := 6) hx hb dX1_init_31 (by decide) ?_
  refine k_mna C hO hW mw_43 (Nat.le_of_ble_eq_true rfl) (Nat.le_of_ble_eq_true rfl) dX1_init_33 (fun q r H hW => ?_)
  refine va_putF hx hb C.2.2.2.2.1 inlX1 tyX1 tyX1_ok nmX1 C.2.2.2.1 C.2.2.2.2.2.1 hW.1 hW.2.1 hW.2.2 0 rfl rfl 4 (by decide) (C.2.2.2.2.1 _ mw_44) (fun _ h => h) rfl hnm rfl (tyX1_ok 4 (by decide)) rfl rfl (Nat.le_of_ble_eq_true rfl) dX1_init_37 (fun H locs hP hD hS => ?_)
  have hW : Ld D ([(h0, .inr (1, [.null, .ref a1, .ref a2, .ref a3, .ref q, .int 0, .int 0])), (a1, iR cyI 6 (fun _ => 0)), (a2, iR cyI 6 (fun _ => 0)), (a3, iR cyI 6 (fun _ => 0))] ++ ((q, oQ cO r) :: z6 cyI r)) A s.heap H locs := ⟨hP, hD, hS⟩
  refine lv_aload_n hx hb dX1_init_40 rfl (lv_at hl 0 rfl) ?_
  refine lv_iconst (v := 1) hx hb dX1_init_41 (by decide) ?_
  refine va_put hx hb C.2.2.2.2.1 inlX1 tyX1 tyX1_ok nmX1 C.2.2.2.1 C.2.2.2.2.2.1 hW.1 hW.2.1 hW.2.2 0 rfl rfl 5 (by decide) (C.2.2.2.2.1 _ mw_45) (fun _ h => h) rfl (tyX1_ok 5 (by decide)) rfl rfl (Nat.le_of_ble_eq_true rfl) dX1_init_42 (fun H locs hP hD hS => ?_)
  have hW : Ld D ([(h0, .inr (1, [.null, .ref a1, .ref a2, .ref a3, .ref q, .int 1, .int 0])), (a1, iR cyI 6 (fun _ => 0)), (a2, iR cyI 6 (fun _ => 0)), (a3, iR cyI 6 (fun _ => 0))] ++ ((q, oQ cO r) :: z6 cyI r)) A s.heap H locs := ⟨hP, hD, hS⟩
  refine lv_aload_n hx hb dX1_init_45 rfl (lv_at hl 0 rfl) ?_
  refine lv_iconst (v := 1) hx hb dX1_init_46 (by decide) ?_
  refine va_put hx hb C.2.2.2.2.1 inlX1 tyX1 tyX1_ok nmX1 C.2.2.2.1 C.2.2.2.2.2.1 hW.1 hW.2.1 hW.2.2 0 rfl rfl 6 (by decide) (C.2.2.2.2.1 _ mw_46) (fun _ h => h) rfl (tyX1_ok 6 (by decide)) rfl rfl (Nat.le_of_ble_eq_true rfl) dX1_init_47 (fun H locs hP hD hS => ?_)
  have hW : Ld D ([(h0, .inr (1, [.null, .ref a1, .ref a2, .ref a3, .ref q, .int 1, .int 1])), (a1, iR cyI 6 (fun _ => 0)), (a2, iR cyI 6 (fun _ => 0)), (a3, iR cyI 6 (fun _ => 0))] ++ ((q, oQ cO r) :: z6 cyI r)) A s.heap H locs := ⟨hP, hD, hS⟩
  refine lv_aload_n hx hb dX1_init_50 rfl (lv_at hl 0 rfl) ?_
  refine lv_aload_n hx hb dX1_init_51 rfl (lv_at hl 1 rfl) ?_
  refine va_putF hx hb C.2.2.2.2.1 inlX1 tyX1 tyX1_ok nmX1 C.2.2.2.1 C.2.2.2.2.2.1 hW.1 hW.2.1 hW.2.2 0 rfl rfl 0 (by decide) (C.2.2.2.2.1 _ mw_47) (fun _ h => h) rfl hnm rfl (tyX1_ok 0 (by decide)) rfl rfl (Nat.le_of_ble_eq_true rfl) dX1_init_52 (fun H locs hP hD hS => ?_)
  have hW : Ld D ([(h0, .inr (1, [.ref tb, .ref a1, .ref a2, .ref a3, .ref q, .int 1, .int 1])), (a1, iR cyI 6 (fun _ => 0)), (a2, iR cyI 6 (fun _ => 0)), (a3, iR cyI 6 (fun _ => 0))] ++ ((q, oQ cO r) :: z6 cyI r)) A s.heap H locs := ⟨hP, hD, hS⟩
  exact k_vret C hr hW ⟨a1, a2, a3, q, r, rfl⟩ (Nat.le_of_ble_eq_true rfl) (Nat.le_of_ble_eq_true rfl) dX1_init_55
def adC (h0 t q1 : Nat) (r1 : Nat → Nat) (q2 : Nat) (r2 : Nat → Nat) (u a1 a2 a3 q3 : Nat) (r3 : Nat → Nat) (v x : Nat) : Nat → Nat := fun k =>
  if k = 0 then h0 else if k = 1 then t else if k = 2 then q1 else if k < 9 then r1 (k - 3) else if k = 9 then q2 else if k < 16 then r2 (k - 10) else if k = 16 then u else if k = 17 then a1 else if k = 18 then a2 else if k = 19 then a3 else if k = 20 then q3 else if k < 27 then r3 (k - 21) else if k = 27 then v else x
theorem oR_oQ {cO : ClassId} {ad r : Nat → Nat} {b : Nat} (h : ∀ i, i < 6 → ad (b + i) = r i) : oR cO ad b = oQ cO r := by
  unfold oR oQ
  have : (fun i => if i < 6 then some (ad (b + i)) else none) = (fun i => if i < 6 then some (r i) else none) := funext fun i => by
    by_cases hi : i < 6
    · rw [if_pos hi, if_pos hi, h i hi]
    · rw [if_neg hi, if_neg hi]
  rw [this]
def cC0 (cyI cO : ClassId) (ad : Nat → Nat) (n : Nat) (d : Nat → Nat → Int32) : Nat → va_E := cC cyI cO ad n d (fun _ _ => 0) (fun _ => 0) (fun _ => 0) (fun _ => 0) (fun _ _ => 0) 1 1 0
def wC0 (cyI cO : ClassId) (h0 t q1 : Nat) (r1 : Nat → Nat) (q2 : Nat) (r2 : Nat → Nat) (u a1 a2 a3 q3 : Nat) (r3 : Nat → Nat) (v x : Nat) : va_W :=
  [(h0, .inr (4, [.ref t, .ref u, .ref v, .ref x, .int 0])), (t, .inr (3, [.ref q1, .ref q2, .int 0])), (q1, oQ cO r1)] ++ z6 cyI r1 ++ [(q2, oQ cO r2)] ++ z6 cyI r2 ++ [(u, .inr (1, [.ref t, .ref a1, .ref a2, .ref a3, .ref q3, .int 1, .int 1])), (a1, iR cyI 6 (fun _ => 0)), (a2, iR cyI 6 (fun _ => 0)), (a3, iR cyI 6 (fun _ => 0)), (q3, oQ cO r3)] ++ z6 cyI r3 ++ [(v, .inr (2, [.ref t])), (x, .inr (0, [.ref t]))]
set_option maxRecDepth 100000 in
theorem uw_C0 (cyI cO : ClassId) (h0 t q1 : Nat) (r1 : Nat → Nat) (q2 : Nat) (r2 : Nat → Nat) (u a1 a2 a3 q3 : Nat) (r3 : Nat → Nat) (v x : Nat) : wC0 cyI cO h0 t q1 r1 q2 r2 u a1 a2 a3 q3 r3 v x = uw 29 (adC h0 t q1 r1 q2 r2 u a1 a2 a3 q3 r3 v x) (cC0 cyI cO (adC h0 t q1 r1 q2 r2 u a1 a2 a3 q3 r3 v x) 0 (fun _ _ => 0)) := by
  have f1 : oR cO (adC h0 t q1 r1 q2 r2 u a1 a2 a3 q3 r3 v x) 3 = oQ cO r1 := oR_oQ fun i hi => by
    refine c6 (P := fun i => adC h0 t q1 r1 q2 r2 u a1 a2 a3 q3 r3 v x (3 + i) = r1 i) ?_ ?_ ?_ ?_ ?_ ?_ hi <;> rfl
  have f2 : oR cO (adC h0 t q1 r1 q2 r2 u a1 a2 a3 q3 r3 v x) 10 = oQ cO r2 := oR_oQ fun i hi => by
    refine c6 (P := fun i => adC h0 t q1 r1 q2 r2 u a1 a2 a3 q3 r3 v x (10 + i) = r2 i) ?_ ?_ ?_ ?_ ?_ ?_ hi <;> rfl
  have f3 : oR cO (adC h0 t q1 r1 q2 r2 u a1 a2 a3 q3 r3 v x) 21 = oQ cO r3 := oR_oQ fun i hi => by
    refine c6 (P := fun i => adC h0 t q1 r1 q2 r2 u a1 a2 a3 q3 r3 v x (21 + i) = r3 i) ?_ ?_ ?_ ?_ ?_ ?_ hi <;> rfl
  unfold wC0
  rw [← f1, ← f2, ← f3]
  rfl
def ShX (cyI cO : ClassId) (h0 : Nat) (w : va_W) : Prop := ∃ ad : Nat → Nat, ad 0 = h0 ∧ w = uw 29 ad (cC0 cyI cO ad 2 (beginV (fun _ _ => 0)))
set_option maxHeartbeats 4000000 in
set_option maxRecDepth 100000 in
theorem c_X4_init (l : Launch) (D : va_G) (cyI cO cyZ : ClassId) (fa : Nat) (h0 : Nat) : Cn l yX4_init (Cond.code yX4_init cX4_init 1 none :: wsL_law) ({ frames := 2, cells := 28, slots := 156, locals := 45 } : Room) D (ty3 cyI cO cyZ) fa [.ref h0] [(h0, .inr (4, [.null, .null, .null, .null, .int 0]))] (ShX cyI cO h0) 28 156 := by
  refine Cn.of (by decide) rfl (Nat.le_of_ble_eq_true rfl) ?_
  intro p e s m args below meth c A C hO hnm hr H locs hW ls hl
  have hx := C.1
  have hb := C.2.1
  have hl : lv_has ls 1 [(0, .ref h0)] := hl
  refine lv_aload_n hx hb dX4_init_0 rfl (lv_at hl 0 rfl) ?_
  refine k_init C mw_9 hl (Nat.le_of_ble_eq_true rfl) (Nat.le_of_ble_eq_true rfl) dX4_init_1 ?_
  refine lv_aload_n hx hb dX4_init_4 rfl (lv_at hl 0 rfl) ?_
  refine k_new (ci := 3) (fs := [.null, .null, .int 0]) C hW inlX3 tyX3 tyX3_ok mw_12 mw_13 mw_14 rfl (fun j hj => by rcases (show j = 0 ∨ j = 1 ∨ j = 2 by omega) with rfl | rfl | rfl <;> rfl) (Nat.le_of_ble_eq_true rfl) (Nat.le_of_ble_eq_true rfl) dX4_init_5 (fun t H hW => ?_)
  refine lv_dup hx hb dX4_init_8 rfl ?_
  refine k_callIN (n := 0) (As := []) (rest := [.ref t, .ref h0]) (host := "HugTrees") C hO hW (c_X3_init l D cyI cO cyZ fa t) mw_14 mw_30 mw_29 rfl (by decide +kernel) (List.mem_of_getElem? (i := 12) rfl) rfl ⟨rfl, rfl, Nat.le_of_ble_eq_true rfl, Nat.le_of_ble_eq_true rfl⟩ hl (Nat.le_of_ble_eq_true rfl) rfl dX4_init_9 ⟨Nat.le_of_ble_eq_true rfl, Nat.le_of_ble_eq_true rfl⟩ (fun w1 H locs hSh hW => ?_)
  obtain ⟨q1, r1, q2, r2, rfl⟩ := hSh
  refine va_putF hx hb C.2.2.2.2.1 inlX4 tyX4 tyX4_ok nmX4 C.2.2.2.1 C.2.2.2.2.2.1 hW.1 hW.2.1 hW.2.2 0 rfl rfl 0 (by decide) (C.2.2.2.2.1 _ mw_15) (fun _ h => h) rfl hnm rfl (tyX4_ok 0 (by decide)) rfl rfl (Nat.le_of_ble_eq_true rfl) dX4_init_12 (fun H locs hP hD hS => ?_)
  have hW : Ld D ([(h0, .inr (4, [.ref t, .null, .null, .null, .int 0]))] ++ (([(t, .inr (3, [.ref q1, .ref q2, .int 0]))] ++ ((q1, oQ cO r1) :: z6 cyI r1)) ++ ((q2, oQ cO r2) :: z6 cyI r2))) A s.heap H locs := ⟨hP, hD, hS⟩
  refine lv_aload_n hx hb dX4_init_15 rfl (lv_at hl 0 rfl) ?_
  refine k_new (ci := 1) (fs := [.null, .null, .null, .null, .null, .int 0, .int 0]) C hW inlX1 tyX1 tyX1_ok mw_16 mw_17 mw_18 rfl (fun j hj => by rcases (show j = 0 ∨ j = 1 ∨ j = 2 ∨ j = 3 ∨ j = 4 ∨ j = 5 ∨ j = 6 by omega) with rfl | rfl | rfl | rfl | rfl | rfl | rfl <;> rfl) (Nat.le_of_ble_eq_true rfl) (Nat.le_of_ble_eq_true rfl) dX4_init_16 (fun u H hW => ?_)
  refine lv_dup hx hb dX4_init_19 rfl ?_
  refine lv_aload_n hx hb dX4_init_20 rfl (lv_at hl 0 rfl) ?_
  refine va_get hx hb C.2.2.2.2.1 inlX4 C.2.2.2.1 C.2.2.2.2.2.1 hW.1 0 rfl rfl 0 (by decide) (C.2.2.2.2.1 _ mw_15) (fun _ h => h) rfl dX4_init_21 ?_
  refine k_callI (n := 1) (As := [.ref t]) (rest := [.ref u, .ref h0]) C hO hW (c_X1_init l D cyI cO cyZ fa u t) mw_18 mw_38 mw_37 rfl (by decide +kernel) mw_36 rfl ⟨rfl, rfl, Nat.le_of_ble_eq_true rfl, Nat.le_of_ble_eq_true rfl⟩ hl (Nat.le_of_ble_eq_true rfl) rfl dX4_init_24 ⟨Nat.le_of_ble_eq_true rfl, Nat.le_of_ble_eq_true rfl⟩ (fun w1 H locs hSh hW => ?_)
  obtain ⟨a1, a2, a3, q3, r3, rfl⟩ := hSh
  refine va_putF hx hb C.2.2.2.2.1 inlX4 tyX4 tyX4_ok nmX4 C.2.2.2.1 C.2.2.2.2.2.1 hW.1 hW.2.1 hW.2.2 0 rfl rfl 1 (by decide) (C.2.2.2.2.1 _ mw_19) (fun _ h => h) rfl hnm rfl (tyX4_ok 1 (by decide)) rfl rfl (Nat.le_of_ble_eq_true rfl) dX4_init_27 (fun H locs hP hD hS => ?_)
  have hW : Ld D ([(h0, .inr (4, [.ref t, .ref u, .null, .null, .int 0]))] ++ (([(t, .inr (3, [.ref q1, .ref q2, .int 0]))] ++ ((q1, oQ cO r1) :: z6 cyI r1)) ++ ((q2, oQ cO r2) :: z6 cyI r2)) ++ ([(u, .inr (1, [.ref t, .ref a1, .ref a2, .ref a3, .ref q3, .int 1, .int 1])), (a1, iR cyI 6 (fun _ => 0)), (a2, iR cyI 6 (fun _ => 0)), (a3, iR cyI 6 (fun _ => 0))] ++ ((q3, oQ cO r3) :: z6 cyI r3))) A s.heap H locs := ⟨hP, hD, hS⟩
  refine lv_aload_n hx hb dX4_init_30 rfl (lv_at hl 0 rfl) ?_
  refine k_new (ci := 2) (fs := [.null]) C hW inlX2 tyX2 tyX2_ok mw_20 mw_21 mw_22 rfl (fun j hj => by rcases (show j = 0 by omega) with rfl <;> rfl) (Nat.le_of_ble_eq_true rfl) (Nat.le_of_ble_eq_true rfl) dX4_init_31 (fun v H hW => ?_)
  refine lv_dup hx hb dX4_init_34 rfl ?_
  refine lv_aload_n hx hb dX4_init_35 rfl (lv_at hl 0 rfl) ?_
  refine va_get hx hb C.2.2.2.2.1 inlX4 C.2.2.2.1 C.2.2.2.2.2.1 hW.1 0 rfl rfl 0 (by decide) (C.2.2.2.2.1 _ mw_15) (fun _ h => h) rfl dX4_init_36 ?_
  refine k_callI (n := 1) (As := [.ref t]) (rest := [.ref v, .ref h0]) C hO hW (c_X2_init l D cyI cO cyZ fa v t) mw_22 mw_50 mw_49 rfl (by decide +kernel) mw_48 rfl ⟨rfl, rfl, Nat.le_of_ble_eq_true rfl, Nat.le_of_ble_eq_true rfl⟩ hl (Nat.le_of_ble_eq_true rfl) rfl dX4_init_39 ⟨Nat.le_of_ble_eq_true rfl, Nat.le_of_ble_eq_true rfl⟩ (fun w1 H locs hSh hW => ?_)
  subst hSh
  refine va_putF hx hb C.2.2.2.2.1 inlX4 tyX4 tyX4_ok nmX4 C.2.2.2.1 C.2.2.2.2.2.1 hW.1 hW.2.1 hW.2.2 0 rfl rfl 2 (by decide) (C.2.2.2.2.1 _ mw_23) (fun _ h => h) rfl hnm rfl (tyX4_ok 2 (by decide)) rfl rfl (Nat.le_of_ble_eq_true rfl) dX4_init_42 (fun H locs hP hD hS => ?_)
  have hW : Ld D ([(h0, .inr (4, [.ref t, .ref u, .ref v, .null, .int 0]))] ++ (([(t, .inr (3, [.ref q1, .ref q2, .int 0]))] ++ ((q1, oQ cO r1) :: z6 cyI r1)) ++ ((q2, oQ cO r2) :: z6 cyI r2)) ++ ([(u, .inr (1, [.ref t, .ref a1, .ref a2, .ref a3, .ref q3, .int 1, .int 1])), (a1, iR cyI 6 (fun _ => 0)), (a2, iR cyI 6 (fun _ => 0)), (a3, iR cyI 6 (fun _ => 0))] ++ ((q3, oQ cO r3) :: z6 cyI r3)) ++ [(v, .inr (2, [.ref t]))]) A s.heap H locs := ⟨hP, hD, hS⟩
  refine lv_aload_n hx hb dX4_init_45 rfl (lv_at hl 0 rfl) ?_
  refine k_new (ci := 0) (fs := [.null]) C hW inlX0 tyX0 tyX0_ok mw_24 mw_25 mw_26 rfl (fun j hj => by rcases (show j = 0 by omega) with rfl <;> rfl) (Nat.le_of_ble_eq_true rfl) (Nat.le_of_ble_eq_true rfl) dX4_init_46 (fun x H hW => ?_)
  refine lv_dup hx hb dX4_init_49 rfl ?_
  refine lv_aload_n hx hb dX4_init_50 rfl (lv_at hl 0 rfl) ?_
  refine va_get hx hb C.2.2.2.2.1 inlX4 C.2.2.2.1 C.2.2.2.2.2.1 hW.1 0 rfl rfl 0 (by decide) (C.2.2.2.2.1 _ mw_15) (fun _ h => h) rfl dX4_init_51 ?_
  refine k_callI (n := 1) (As := [.ref t]) (rest := [.ref x, .ref h0]) C hO hW (c_X0_init l D cyI cO cyZ fa x t) mw_26 mw_55 mw_54 rfl (by decide +kernel) mw_53 rfl ⟨rfl, rfl, Nat.le_of_ble_eq_true rfl, Nat.le_of_ble_eq_true rfl⟩ hl (Nat.le_of_ble_eq_true rfl) rfl dX4_init_54 ⟨Nat.le_of_ble_eq_true rfl, Nat.le_of_ble_eq_true rfl⟩ (fun w1 H locs hSh hW => ?_)
  subst hSh
  refine va_putF hx hb C.2.2.2.2.1 inlX4 tyX4 tyX4_ok nmX4 C.2.2.2.1 C.2.2.2.2.2.1 hW.1 hW.2.1 hW.2.2 0 rfl rfl 3 (by decide) (C.2.2.2.2.1 _ mw_27) (fun _ h => h) rfl hnm rfl (tyX4_ok 3 (by decide)) rfl rfl (Nat.le_of_ble_eq_true rfl) dX4_init_57 (fun H locs hP hD hS => ?_)
  have hW : Ld D ([(h0, .inr (4, [.ref t, .ref u, .ref v, .ref x, .int 0]))] ++ (([(t, .inr (3, [.ref q1, .ref q2, .int 0]))] ++ ((q1, oQ cO r1) :: z6 cyI r1)) ++ ((q2, oQ cO r2) :: z6 cyI r2)) ++ ([(u, .inr (1, [.ref t, .ref a1, .ref a2, .ref a3, .ref q3, .int 1, .int 1])), (a1, iR cyI 6 (fun _ => 0)), (a2, iR cyI 6 (fun _ => 0)), (a3, iR cyI 6 (fun _ => 0))] ++ ((q3, oQ cO r3) :: z6 cyI r3)) ++ [(v, .inr (2, [.ref t]))] ++ [(x, .inr (0, [.ref t]))]) A s.heap H locs := ⟨hP, hD, hS⟩
  refine lv_aload_n hx hb dX4_init_60 rfl (lv_at hl 0 rfl) ?_
  refine lv_iconst (v := 0) hx hb dX4_init_61 (by decide) ?_
  refine va_put hx hb C.2.2.2.2.1 inlX4 tyX4 tyX4_ok nmX4 C.2.2.2.1 C.2.2.2.2.2.1 hW.1 hW.2.1 hW.2.2 0 rfl rfl 4 (by decide) (C.2.2.2.2.1 _ mw_28) (fun _ h => h) rfl (tyX4_ok 4 (by decide)) rfl rfl (Nat.le_of_ble_eq_true rfl) dX4_init_62 (fun H locs hP hD hS => ?_)
  have hW : Ld D ([(h0, .inr (4, [.ref t, .ref u, .ref v, .ref x, .int 0]))] ++ (([(t, .inr (3, [.ref q1, .ref q2, .int 0]))] ++ ((q1, oQ cO r1) :: z6 cyI r1)) ++ ((q2, oQ cO r2) :: z6 cyI r2)) ++ ([(u, .inr (1, [.ref t, .ref a1, .ref a2, .ref a3, .ref q3, .int 1, .int 1])), (a1, iR cyI 6 (fun _ => 0)), (a2, iR cyI 6 (fun _ => 0)), (a3, iR cyI 6 (fun _ => 0))] ++ ((q3, oQ cO r3) :: z6 cyI r3)) ++ [(v, .inr (2, [.ref t]))] ++ [(x, .inr (0, [.ref t]))]) A s.heap H locs := ⟨hP, hD, hS⟩
  refine lv_aload_n hx hb dX4_init_65 rfl (lv_at hl 0 rfl) ?_
  refine va_get hx hb C.2.2.2.2.1 inlX4 C.2.2.2.1 C.2.2.2.2.2.1 hW.1 0 rfl rfl 0 (by decide) (C.2.2.2.2.1 _ mw_15) (fun _ h => h) rfl dX4_init_66 ?_
  refine lv_iconst (v := nI 2) hx hb dX4_init_69 (by decide) ?_
  have hW : Ld D (wC0 cyI cO h0 t q1 r1 q2 r2 u a1 a2 a3 q3 r3 v x) A s.heap H locs := hW
  have hW : Wd D 29 (adC h0 t q1 r1 q2 r2 u a1 a2 a3 q3 r3 v x) (cC0 cyI cO (adC h0 t q1 r1 q2 r2 u a1 a2 a3 q3 r3 v x) 0 (fun _ _ => 0)) A s.heap H locs := hW.to (uw_C0 cyI cO h0 t q1 r1 q2 r2 u a1 a2 a3 q3 r3 v x)
  refine k_callV (k := 1) (ad := (adC h0 t q1 r1 q2 r2 u a1 a2 a3 q3 r3 v x)) (cf' := cC0 cyI cO (adC h0 t q1 r1 q2 r2 u a1 a2 a3 q3 r3 v x) 2 (beginV (fun _ _ => 0))) (As := [.int (nI 2)]) (rest := []) (st1 := []) C hW (c_X3_begin l D cyI cO cyZ (adC h0 t q1 r1 q2 r2 u a1 a2 a3 q3 r3 v x) fa 0 (fun _ _ => 0) (fun _ _ => 0) (fun _ => 0) (fun _ => 0) (fun _ => 0) (fun _ _ => 0) 1 1 0 2) mv_yX3_begin mw_58 rfl ⟨rfl, rfl, Nat.le_of_ble_eq_true rfl, Nat.le_of_ble_eq_true rfl⟩ (by decide) cC_1 rfl rfl hl (Nat.le_of_ble_eq_true rfl) rfl rfl dX4_init_70 ⟨Nat.le_of_ble_eq_true rfl, Nat.le_of_ble_eq_true rfl⟩ (fun H locs hW _ _ => ?_)
  exact k_vret C hr (show Ld D (uw 29 (adC h0 t q1 r1 q2 r2 u a1 a2 a3 q3 r3 v x) _) A s.heap H locs from hW) ⟨(adC h0 t q1 r1 q2 r2 u a1 a2 a3 q3 r3 v x), rfl, rfl⟩ (Nat.le_of_ble_eq_true rfl) (Nat.le_of_ble_eq_true rfl) dX4_init_73
def adM (h0 a1 a2 a3 a4 a5 a6 : Nat) : Nat → Nat := fun k => if k = 0 then h0 else if k = 1 then a1 else if k = 2 then a2 else if k = 3 then a3 else if k = 4 then a4 else if k = 5 then a5 else a6
def cM0 (cyI cyZ : ClassId) (ad : Nat → Nat) (n : Nat) (t : Nat → Int32) : Nat → va_E := cM cyI cyZ ad n t (fun _ => 0) (fun _ => 0) (fun _ => 0) (fun _ => 0) (fun _ => 0) 0 0 0 0
def ShM (cyI cyZ : ClassId) (h0 : Nat) (w : va_W) : Prop := ∃ ad : Nat → Nat, ad 0 = h0 ∧ w = uw 7 ad (cM0 cyI cyZ ad 2 (mbV (fun _ => 0)))
set_option maxHeartbeats 4000000 in
set_option maxRecDepth 100000 in
theorem c_X5_init (l : Launch) (D : va_G) (cyI cO cyZ : ClassId) (fa : Nat) (h0 : Nat) : Cn l yX5_init (Cond.code yX5_init cX5_init 1 none :: wsL_law) ({ frames := 1, cells := 6, slots := 156, locals := 22 } : Room) D (ty3 cyI cO cyZ) fa [.ref h0] [(h0, .inr (5, [.int 0, .null, .int 0, .null, .null, .null, .null, .long 0, .long 0, .null, .long 0]))] (ShM cyI cyZ h0) 6 156 := by
  refine Cn.of (by decide) rfl (Nat.le_of_ble_eq_true rfl) ?_
  intro p e s m args below meth c A C hO hnm hr H locs hW ls hl
  have hx := C.1
  have hb := C.2.1
  have hl : lv_has ls 1 [(0, .ref h0)] := hl
  refine lv_aload_n hx hb dX5_init_0 rfl (lv_at hl 0 rfl) ?_
  refine k_init C mw_70 hl (Nat.le_of_ble_eq_true rfl) (Nat.le_of_ble_eq_true rfl) dX5_init_1 ?_
  refine lv_aload_n hx hb dX5_init_4 rfl (lv_at hl 0 rfl) ?_
  refine lv_iconst (v := nI 2) hx hb dX5_init_5 (by decide) ?_
  refine va_put hx hb C.2.2.2.2.1 inlX5 tyX5 tyX5_ok nmX5 C.2.2.2.1 C.2.2.2.2.2.1 hW.1 hW.2.1 hW.2.2 0 rfl rfl 0 (by decide) (C.2.2.2.2.1 _ mw_71) (fun _ h => h) rfl (tyX5_ok 0 (by decide)) rfl rfl (Nat.le_of_ble_eq_true rfl) dX5_init_6 (fun H locs hP hD hS => ?_)
  have hW : Ld D [(h0, .inr (5, [.int (nI 2), .null, .int 0, .null, .null, .null, .null, .long 0, .long 0, .null, .long 0]))] A s.heap H locs := ⟨hP, hD, hS⟩
  refine lv_aload_n hx hb dX5_init_9 rfl (lv_at hl 0 rfl) ?_
  refine lv_bipush (v := 36) hx hb dX5_init_10 (by decide) ?_
  refine k_newa (atype := .int) (ty := .int) (N' := 36) C hW rfl mw_33 0 rfl (fun _ h => h) (fun _ => rfl) (by decide) (by decide) (by decide) (Nat.le_of_ble_eq_true rfl) (Nat.le_of_ble_eq_true rfl) dX5_init_12 (fun a1 H hW => ?_)
  refine va_putF hx hb C.2.2.2.2.1 inlX5 tyX5 tyX5_ok nmX5 C.2.2.2.1 C.2.2.2.2.2.1 hW.1 hW.2.1 hW.2.2 0 rfl rfl 1 (by decide) (C.2.2.2.2.1 _ mw_72) (fun _ h => h) rfl hnm rfl (tyX5_ok 1 (by decide)) rfl rfl (Nat.le_of_ble_eq_true rfl) dX5_init_14 (fun H locs hP hD hS => ?_)
  have hW : Ld D [(h0, .inr (5, [.int (nI 2), .ref a1, .int 0, .null, .null, .null, .null, .long 0, .long 0, .null, .long 0])), (a1, iR cyI 36 (fun _ => 0))] A s.heap H locs := ⟨hP, hD, hS⟩
  refine lv_aload_n hx hb dX5_init_17 rfl (lv_at hl 0 rfl) ?_
  refine lv_bipush (v := 36) hx hb dX5_init_18 (by decide) ?_
  refine k_newa (atype := .int) (ty := .int) (N' := 36) C hW rfl mw_33 0 rfl (fun _ h => h) (fun _ => rfl) (by decide) (by decide) (by decide) (Nat.le_of_ble_eq_true rfl) (Nat.le_of_ble_eq_true rfl) dX5_init_20 (fun a2 H hW => ?_)
  refine va_putF hx hb C.2.2.2.2.1 inlX5 tyX5 tyX5_ok nmX5 C.2.2.2.1 C.2.2.2.2.2.1 hW.1 hW.2.1 hW.2.2 0 rfl rfl 3 (by decide) (C.2.2.2.2.1 _ mw_73) (fun _ h => h) rfl hnm rfl (tyX5_ok 3 (by decide)) rfl rfl (Nat.le_of_ble_eq_true rfl) dX5_init_22 (fun H locs hP hD hS => ?_)
  have hW : Ld D [(h0, .inr (5, [.int (nI 2), .ref a1, .int 0, .ref a2, .null, .null, .null, .long 0, .long 0, .null, .long 0])), (a1, iR cyI 36 (fun _ => 0)), (a2, iR cyI 36 (fun _ => 0))] A s.heap H locs := ⟨hP, hD, hS⟩
  refine lv_aload_n hx hb dX5_init_25 rfl (lv_at hl 0 rfl) ?_
  refine lv_bipush (v := 36) hx hb dX5_init_26 (by decide) ?_
  refine k_newa (atype := .boolean) (ty := .boolean) (N' := 36) C hW rfl mw_74 2 rfl (fun _ h => h) (fun _ => rfl) (by decide) (by decide) (by decide) (Nat.le_of_ble_eq_true rfl) (Nat.le_of_ble_eq_true rfl) dX5_init_28 (fun a3 H hW => ?_)
  refine va_putF hx hb C.2.2.2.2.1 inlX5 tyX5 tyX5_ok nmX5 C.2.2.2.1 C.2.2.2.2.2.1 hW.1 hW.2.1 hW.2.2 0 rfl rfl 4 (by decide) (C.2.2.2.2.1 _ mw_75) (fun _ h => h) rfl hnm rfl (tyX5_ok 4 (by decide)) rfl rfl (Nat.le_of_ble_eq_true rfl) dX5_init_30 (fun H locs hP hD hS => ?_)
  have hW : Ld D [(h0, .inr (5, [.int (nI 2), .ref a1, .int 0, .ref a2, .ref a3, .null, .null, .long 0, .long 0, .null, .long 0])), (a1, iR cyI 36 (fun _ => 0)), (a2, iR cyI 36 (fun _ => 0)), (a3, iR cyZ 36 (fun _ => 0))] A s.heap H locs := ⟨hP, hD, hS⟩
  refine lv_aload_n hx hb dX5_init_33 rfl (lv_at hl 0 rfl) ?_
  refine lv_bipush (v := 6) hx hb dX5_init_34 (by decide) ?_
  refine k_newa (atype := .int) (ty := .int) (N' := 6) C hW rfl mw_33 0 rfl (fun _ h => h) (fun _ => rfl) (by decide) (by decide) (by decide) (Nat.le_of_ble_eq_true rfl) (Nat.le_of_ble_eq_true rfl) dX5_init_36 (fun a4 H hW => ?_)
  refine va_putF hx hb C.2.2.2.2.1 inlX5 tyX5 tyX5_ok nmX5 C.2.2.2.1 C.2.2.2.2.2.1 hW.1 hW.2.1 hW.2.2 0 rfl rfl 5 (by decide) (C.2.2.2.2.1 _ mw_76) (fun _ h => h) rfl hnm rfl (tyX5_ok 5 (by decide)) rfl rfl (Nat.le_of_ble_eq_true rfl) dX5_init_38 (fun H locs hP hD hS => ?_)
  have hW : Ld D [(h0, .inr (5, [.int (nI 2), .ref a1, .int 0, .ref a2, .ref a3, .ref a4, .null, .long 0, .long 0, .null, .long 0])), (a1, iR cyI 36 (fun _ => 0)), (a2, iR cyI 36 (fun _ => 0)), (a3, iR cyZ 36 (fun _ => 0)), (a4, iR cyI 6 (fun _ => 0))] A s.heap H locs := ⟨hP, hD, hS⟩
  refine lv_aload_n hx hb dX5_init_41 rfl (lv_at hl 0 rfl) ?_
  refine lv_bipush (v := 36) hx hb dX5_init_42 (by decide) ?_
  refine k_newa (atype := .int) (ty := .int) (N' := 36) C hW rfl mw_33 0 rfl (fun _ h => h) (fun _ => rfl) (by decide) (by decide) (by decide) (Nat.le_of_ble_eq_true rfl) (Nat.le_of_ble_eq_true rfl) dX5_init_44 (fun a5 H hW => ?_)
  refine va_putF hx hb C.2.2.2.2.1 inlX5 tyX5 tyX5_ok nmX5 C.2.2.2.1 C.2.2.2.2.2.1 hW.1 hW.2.1 hW.2.2 0 rfl rfl 6 (by decide) (C.2.2.2.2.1 _ mw_77) (fun _ h => h) rfl hnm rfl (tyX5_ok 6 (by decide)) rfl rfl (Nat.le_of_ble_eq_true rfl) dX5_init_46 (fun H locs hP hD hS => ?_)
  have hW : Ld D [(h0, .inr (5, [.int (nI 2), .ref a1, .int 0, .ref a2, .ref a3, .ref a4, .ref a5, .long 0, .long 0, .null, .long 0])), (a1, iR cyI 36 (fun _ => 0)), (a2, iR cyI 36 (fun _ => 0)), (a3, iR cyZ 36 (fun _ => 0)), (a4, iR cyI 6 (fun _ => 0)), (a5, iR cyI 36 (fun _ => 0))] A s.heap H locs := ⟨hP, hD, hS⟩
  refine lv_aload_n hx hb dX5_init_49 rfl (lv_at hl 0 rfl) ?_
  refine lv_bipush (v := 6) hx hb dX5_init_50 (by decide) ?_
  refine k_newa (atype := .int) (ty := .int) (N' := 6) C hW rfl mw_33 0 rfl (fun _ h => h) (fun _ => rfl) (by decide) (by decide) (by decide) (Nat.le_of_ble_eq_true rfl) (Nat.le_of_ble_eq_true rfl) dX5_init_52 (fun a6 H hW => ?_)
  refine va_putF hx hb C.2.2.2.2.1 inlX5 tyX5 tyX5_ok nmX5 C.2.2.2.1 C.2.2.2.2.2.1 hW.1 hW.2.1 hW.2.2 0 rfl rfl 9 (by decide) (C.2.2.2.2.1 _ mw_78) (fun _ h => h) rfl hnm rfl (tyX5_ok 9 (by decide)) rfl rfl (Nat.le_of_ble_eq_true rfl) dX5_init_54 (fun H locs hP hD hS => ?_)
  have hW : Ld D [(h0, .inr (5, [.int (nI 2), .ref a1, .int 0, .ref a2, .ref a3, .ref a4, .ref a5, .long 0, .long 0, .ref a6, .long 0])), (a1, iR cyI 36 (fun _ => 0)), (a2, iR cyI 36 (fun _ => 0)), (a3, iR cyZ 36 (fun _ => 0)), (a4, iR cyI 6 (fun _ => 0)), (a5, iR cyI 36 (fun _ => 0)), (a6, iR cyI 6 (fun _ => 0))] A s.heap H locs := ⟨hP, hD, hS⟩
  refine lv_aload_n hx hb dX5_init_57 rfl (lv_at hl 0 rfl) ?_
  have hW : Wd D 7 (adM h0 a1 a2 a3 a4 a5 a6) (cM0 cyI cyZ (adM h0 a1 a2 a3 a4 a5 a6) 2 (fun _ => 0)) A s.heap H locs := hW
  refine k_callV (k := 0) (ad := (adM h0 a1 a2 a3 a4 a5 a6)) (cf' := cM0 cyI cyZ (adM h0 a1 a2 a3 a4 a5 a6) 2 (mbV (fun _ => 0))) (As := []) (rest := []) (st1 := []) C hW (c_X5_begin l D cyI cO cyZ (adM h0 a1 a2 a3 a4 a5 a6) fa 2 (fun _ => 0) (fun _ => 0) (fun _ => 0) (fun _ => 0) (fun _ => 0) (fun _ => 0) 0 0 0 0) mv_yX5_begin mw_79 rfl ⟨rfl, rfl, Nat.le_of_ble_eq_true rfl, Nat.le_of_ble_eq_true rfl⟩ (by decide) cM_0 rfl rfl hl (Nat.le_of_ble_eq_true rfl) rfl rfl dX5_init_58 ⟨Nat.le_of_ble_eq_true rfl, Nat.le_of_ble_eq_true rfl⟩ (fun H locs hW _ _ => ?_)
  exact k_vret C hr (show Ld D (uw 7 (adM h0 a1 a2 a3 a4 a5 a6) _) A s.heap H locs from hW) ⟨(adM h0 a1 a2 a3 a4 a5 a6), rfl, rfl⟩ (Nat.le_of_ble_eq_true rfl) (Nat.le_of_ble_eq_true rfl) dX5_init_61
