/-! the law: two sides beside one another -/
def L2 (D : va_G) (aC : Nat → Nat) (fC : Nat → va_E) (aM : Nat → Nat) (fM : Nat → va_E) (A : Nat → Prop) (H0 H : Heap) (locs : List Loc) : Prop := va_P D vwCl (uw 29 aC fC) H ∧ va_P D vwCl (uw 7 aM fM) H ∧ va_D A (uw 29 aC fC) ∧ va_D A (uw 7 aM fM) ∧ (∀ i j, i < 29 → j < 7 → aC i ≠ aM j) ∧ va_S A H0 H locs
theorem uw_len (N : Nat) (ad : Nat → Nat) (cf : Nat → va_E) : (uw N ad cf).length = N := by simp [uw]
theorem L2.of {D : va_G} {aC : Nat → Nat} {fC : Nat → va_E} {aM : Nat → Nat} {fM : Nat → va_E} {A : Nat → Prop} {H0 H : Heap} {locs : List Loc} (h : Ld D (uw 29 aC fC ++ uw 7 aM fM) A H0 H locs) : L2 D aC fC aM fM A H0 H locs := by
  have l1 : ∀ {k : Nat} {x : Nat × va_E}, (uw 29 aC fC)[k]? = some x → (uw 29 aC fC ++ uw 7 aM fM)[k]? = some x := fun {k x} h => by
    rw [List.getElem?_append_left (List.getElem?_eq_some_iff.mp h).1]; exact h
  have l2 : ∀ {k : Nat} {x : Nat × va_E}, (uw 7 aM fM)[k]? = some x → (uw 29 aC fC ++ uw 7 aM fM)[29 + k]? = some x := fun {k x} h => by
    rw [List.getElem?_append_right (by rw [uw_len]; omega), uw_len, show 29 + k - 29 = k by omega]; exact h
  refine ⟨fun k x hx => h.1 k x (l1 hx), fun k x hx => h.1 (29 + k) x (l2 hx), ⟨fun i j x y hi hj => h.2.1.1 i j x y (l1 hi) (l1 hj), fun k x hx => h.2.1.2 k x (l1 hx)⟩, ⟨fun i j x y hi hj hxy => ?_, fun k x hx => h.2.1.2 _ x (l2 hx)⟩, fun i j hi hj e => ?_, h.2.2⟩
  · have := h.2.1.1 _ _ x y (l2 hi) (l2 hj) hxy
    omega
  · have := h.2.1.1 i (29 + j) _ _ (l1 (uw_get hi)) (l2 (uw_get hj)) e
    omega
section LROWS
variable {p : Program} {l : Launch} {e : Env} {R : Room} {s : State} {m : MethodId} {args : Array Value} {below : List Frame} {meth : Method} {c : Code} {H : Heap} {locs : List Loc} {cells slots : Nat} {Q : State → Prop}
variable {cc : ByteArray} {nL pc : Nat} {own : String} {ls : Array Slot} {rest : List Value} {D : va_G} {A : Nat → Prop} {tys : List (ClassId × FieldType)} {fa : Nat} {aC aM : Nat → Nat} {fC fC' fM fM' : Nat → va_E} {o : Option Value}
theorem l_callC {y : MethodName} {b : ByteArray} {maxL : Nat} {ret : Option FieldType} {rm : Room} {index n : Nat} {As : List Value} {fs : List Value} {st0 st1 : List Value} (C : Cx p s m args meth c cc nL own D tys fa A) (h2 : L2 D aC fC aM fM A s.heap H locs) (he : fC 0 = .inr (4, fs))
    (hM : Ct l y (Cond.code y b maxL ret :: wsL_law) rm D tys 29 aC fa (.ref (aC 0) :: As) fC fC' o) (mv : MV y b maxL ret n) (hl : Cond.methodLink own index y ∈ wsL_law) (hn : As.length = n)
    (hR : rm.cells = 0 ∧ rm.slots = 0 ∧ rm.frames + 1 ≤ R.frames ∧ 8 + (maxL + 11) + rm.locals ≤ R.locals) (hy : RX4 = y.cls) {lv : List (Nat × Value)} (hls : lv_has ls nL lv) (hroom : (rest.map fun v => v.category).sum ≤ 8)
    (hst : st0 = As.reverse ++ .ref (aC 0) :: rest) (hst1 : o.toList ++ rest = st1) (hdg : decode cc pc = .ok (.invokevirtual index, 3)) (hf : cells ≤ R.cells ∧ slots ≤ R.slots)
    (kk : ∀ (H1 : Heap) (locs1 : List Loc), L2 D aC fC' aM fM A s.heap H1 locs1 → W p l e R s m args below meth c H1 locs1 cells slots Q (F0 m (pc + 3) ls st1)) : W p l e R s m args below meth c H locs cells slots Q (F0 m pc ls st0) := by
  refine k_callV (ci := 4) (q := (RX4, TX4, 5)) C (show Wd D 29 aC fC A s.heap H locs from ⟨h2.1, h2.2.2.1, h2.2.2.2.2.2⟩) hM mv hl hn hR (by decide) he rfl hy hls hroom hst hst1 hdg hf (fun H1 locs1 hW hz hk => kk H1 locs1 ⟨hW.1, fun k x hx => ?_, hW.2.1, h2.2.2.2.1, h2.2.2.2.2.1, hW.2.2⟩)
  have hx2 := h2.2.1 k x hx
  have hlt := hx2.lt
  obtain ⟨hk7, rfl⟩ := uw_lt hx
  exact hx2.kept (hk _ hlt (fun z => by
    rcases z with ⟨j, hj, e9⟩ | z
    · exact h2.2.2.2.2.1 j k hj hk7 e9.symm
    · omega))
theorem l_callM {y : MethodName} {b : ByteArray} {maxL : Nat} {ret : Option FieldType} {rm : Room} {index n : Nat} {As : List Value} {fs : List Value} {st0 st1 : List Value} (C : Cx p s m args meth c cc nL own D tys fa A) (h2 : L2 D aC fC aM fM A s.heap H locs) (he : fM 0 = .inr (5, fs))
    (hM : Ct l y (Cond.code y b maxL ret :: wsL_law) rm D tys 7 aM fa (.ref (aM 0) :: As) fM fM' o) (mv : MV y b maxL ret n) (hl : Cond.methodLink own index y ∈ wsL_law) (hn : As.length = n)
    (hR : rm.cells = 0 ∧ rm.slots = 0 ∧ rm.frames + 1 ≤ R.frames ∧ 8 + (maxL + 11) + rm.locals ≤ R.locals) (hy : RX5 = y.cls) {lv : List (Nat × Value)} (hls : lv_has ls nL lv) (hroom : (rest.map fun v => v.category).sum ≤ 8)
    (hst : st0 = As.reverse ++ .ref (aM 0) :: rest) (hst1 : o.toList ++ rest = st1) (hdg : decode cc pc = .ok (.invokevirtual index, 3)) (hf : cells ≤ R.cells ∧ slots ≤ R.slots)
    (kk : ∀ (H1 : Heap) (locs1 : List Loc), L2 D aC fC aM fM' A s.heap H1 locs1 → W p l e R s m args below meth c H1 locs1 cells slots Q (F0 m (pc + 3) ls st1)) : W p l e R s m args below meth c H locs cells slots Q (F0 m pc ls st0) := by
  refine k_callV (ci := 5) (q := (RX5, TX5, 11)) C (show Wd D 7 aM fM A s.heap H locs from ⟨h2.2.1, h2.2.2.2.1, h2.2.2.2.2.2⟩) hM mv hl hn hR (by decide) he rfl hy hls hroom hst hst1 hdg hf (fun H1 locs1 hW hz hk => kk H1 locs1 ⟨fun k x hx => ?_, hW.1, h2.2.2.1, hW.2.1, h2.2.2.2.2.1, hW.2.2⟩)
  have hx2 := h2.1 k x hx
  have hlt := hx2.lt
  obtain ⟨hk7, rfl⟩ := uw_lt hx
  exact hx2.kept (hk _ hlt (fun z => by
    rcases z with ⟨j, hj, e9⟩ | z
    · exact h2.2.2.2.2.1 k j hk7 hj e9
    · omega))
theorem s_ld (hx : p.tables.exec = Jvm.exec) (hb : c.code = cc) {b L : Nat} {xs : Nat → Int32} (hX : va_X b L xs s s.heap) (hbl : b < s.heap.size) (hbA : ¬ A b) (hS : va_S A s.heap H locs) {i k : Nat} (hik : i + k < L) (hL : L ≤ 2048) {ki : Int} (l0 : ls[0]? = some (.val (.ref b))) (l3 : ls[3]? = some (.val (.int (nI i))))
    (d0 : decode cc pc = .ok (.aload_n 0, 1)) (d1 : decode cc (pc + 1) = .ok (.iload_n 3, 1)) (d2 : decode cc (pc + 1 + 1) = .ok (.iconst ki, 1)) (hki : Int32.ofInt ki = nI k) (d3 : decode cc (pc + 1 + 1 + 1) = .ok (.iadd, 1)) (d4 : decode cc (pc + 1 + 1 + 1 + 1) = .ok (.iaload, 1))
    (kk : W p l e R s m args below meth c H locs cells slots Q (F0 m (pc + 5) ls (.int (xs (i + k)) :: rest))) : W p l e R s m args below meth c H locs cells slots Q (F0 m pc ls rest) := by
  refine lv_aload_n hx hb d0 rfl l0 ?_
  refine lv_iload_n hx hb d1 rfl l3 ?_
  refine lv_iconst (v := nI k) hx hb d2 hki ?_
  refine lv_iadd hx hb d3 ?_
  refine u_top (nI_add i k) ?_
  refine va_sld hx hb hX hbl hbA hS (vp_in_nI hik (by omega)) d4 ?_
  rw [nI_clamp (by omega)]
  exact kk
end LROWS
theorem lg_same {x y : Int64} (h : x = y) : lg_cmp x y = 0 := by
  subst h
  unfold lg_cmp
  rw [if_neg (show ¬ x > x from Int64.lt_irrefl), if_pos rfl]
/-- from a place of the law's body, in any state where the two sides agree -/
def Nx (p : Program) (l : Launch) (e : Env) (s : State) (m : MethodId) (args : Array Value) (below : List Frame) (meth : Method) (c : Code) (Q : State → Prop) (D : va_G) (cyI cO cyZ : ClassId) (aC aM : Nat → Nat) (A : Nat → Prop) (b i pc : Nat) : Prop :=
  ∀ (n : Nat) (d md : Nat → Nat → Int32) (go ke ha : Nat → Int32) (wy : Nat → Nat → Int32) (ab be : Int32) (t m2 jd jn wm od : Nat → Int32) (ab2 be2 hh : Int64) (Dd : Nat → Nat → Nat) (sv : Nat), Rl n d t Dd → sv ≤ 60 → ∀ (H : Heap) (locs : List Loc), L2 D aC (cC cyI cO aC n d md go ke ha wy ab be (nI sv)) aM (cM cyI cyZ aM n t m2 jd jn wm od (nI sv) ab2 be2 hh) A s.heap H locs → ∀ ls : Array Slot, lv_has ls 4 [(3, .int (nI i)), (2, .ref (aM 0)), (1, .ref (aC 0)), (0, .ref b)] → W p l e room_1 s m args below meth c H locs 36 328 Q (F0 m pc ls [])
theorem l_K {s : State} {args : Array Value} (hts : ∀ w ∈ wsL_law, w.before args s = true) (hO : AO s) : ∃ (D : va_G) (cyI cO cyZ : ClassId), va_K D vwCl (ty3 cyI cO cyZ) s := by
  obtain ⟨c0, i0, k0⟩ := u_known (n := 1) hts inlX0 (hts _ mw_25)
  obtain ⟨c1, i1, k1⟩ := u_known (n := 7) hts inlX1 (hts _ mw_17)
  obtain ⟨c2, i2, k2⟩ := u_known (n := 1) hts inlX2 (hts _ mw_21)
  obtain ⟨c3, i3, k3⟩ := u_known (n := 3) hts inlX3 (hts _ mw_13)
  obtain ⟨c4, i4, k4⟩ := u_known (n := 5) hts inlX4 (hts _ mw_1)
  obtain ⟨c5, i5, k5⟩ := u_known (n := 11) hts inlX5 (hts _ mw_4)
  obtain ⟨cI, kI, pI, a1, a2, a3⟩ := Cond.arrayClass_spec (hts _ mw_33)
  obtain ⟨cZ, kZ, pZ, b1, b2, b3⟩ := Cond.arrayClass_spec (hts _ mw_74)
  obtain ⟨pO, cO, kO, e1, _, e2, e3, e4⟩ := Jvm.Stand.arrayOver_specB hO
  refine ⟨(fun k => if k = 0 then c0 else if k = 1 then c1 else if k = 2 then c2 else if k = 3 then c3 else if k = 4 then c4 else c5, fun k => if k = 0 then i0 else if k = 1 then i1 else if k = 2 then i2 else if k = 3 then i3 else if k = 4 then i4 else i5), cI, cO, cZ, fun k q hq => ?_, fun k q hq => ?_⟩
  · have hk : k < 6 := (List.getElem?_eq_some_iff.mp hq).1
    rcases (show k = 0 ∨ k = 1 ∨ k = 2 ∨ k = 3 ∨ k = 4 ∨ k = 5 by omega) with rfl | rfl | rfl | rfl | rfl | rfl <;> cases hq
    · exact k0
    · exact k1
    · exact k2
    · exact k3
    · exact k4
    · exact k5
  · have hk : k < 3 := (List.getElem?_eq_some_iff.mp hq).1
    rcases (show k = 0 ∨ k = 1 ∨ k = 2 by omega) with rfl | rfl | rfl <;> cases hq
    · exact ⟨fun n z => ⟨fun k h => (by cases h), kI, a2, pI, a3⟩, a1⟩
    · exact ⟨fun n z => ⟨fun k h => (by cases h), kO, e2, pO, e3⟩, e4⟩
    · exact ⟨fun n z => ⟨fun k h => (by cases h), kZ, b2, pZ, b3⟩, b1⟩
theorem l_F {s : State} {b : Nat} (hts : ∀ w ∈ lw_tbl, w.before #[Value.ref b] s = true) (hini : (Cond.initialized "HugTrees").before #[Value.ref b] s = true) (hg : (Jvm.Cond.and given_1 narrow_1).before #[Value.ref b] s = true) : ∃ fa : Nat, Fc fa (fun q => s.heap.size ≤ q) s s.heap := by
  have hs := flat_of_before _ hg
  have hA : ∀ a : Nat, a < s.heap.size → ¬ (fun q => s.heap.size ≤ q) a := fun a h q => absurd (show s.heap.size ≤ a from q) (by omega)
  have harr : (Cond.arrayOf (.static "HugTrees" "FACTORIALS" "[I") .int).before #[Value.ref b] s = true := hs _ (by decide +kernel)
  have hlen : (Cond.eq (.length (.static "HugTrees" "FACTORIALS" "[I")) (.int 7)).before #[Value.ref b] s = true := hs _ (by decide +kernel)
  have h0 : (Cond.eq (.elem (.static "HugTrees" "FACTORIALS" "[I") (.int 0)) (.int 1)).before #[Value.ref b] s = true := hs _ (by decide +kernel)
  have h1 : (Cond.eq (.elem (.static "HugTrees" "FACTORIALS" "[I") (.int 1)) (.int 1)).before #[Value.ref b] s = true := hs _ (by decide +kernel)
  have h2 : (Cond.eq (.elem (.static "HugTrees" "FACTORIALS" "[I") (.int 2)) (.int 2)).before #[Value.ref b] s = true := hs _ (by decide +kernel)
  have h3 : (Cond.eq (.elem (.static "HugTrees" "FACTORIALS" "[I") (.int 3)) (.int 6)).before #[Value.ref b] s = true := hs _ (by decide +kernel)
  have h4 : (Cond.eq (.elem (.static "HugTrees" "FACTORIALS" "[I") (.int 4)) (.int 24)).before #[Value.ref b] s = true := hs _ (by decide +kernel)
  have h5 : (Cond.eq (.elem (.static "HugTrees" "FACTORIALS" "[I") (.int 5)) (.int 120)).before #[Value.ref b] s = true := hs _ (by decide +kernel)
  have h6 : (Cond.eq (.elem (.static "HugTrees" "FACTORIALS" "[I") (.int 6)) (.int 720)).before #[Value.ref b] s = true := hs _ (by decide +kernel)
  obtain ⟨fa, e1, e2⟩ := va_Tof (N := 7) (f := facV) (A := fun q => s.heap.size ≤ q) (by decide) harr (va_eqt hlen) (fun j hj => by
    rcases (show j = 0 ∨ j = 1 ∨ j = 2 ∨ j = 3 ∨ j = 4 ∨ j = 5 ∨ j = 6 by omega) with rfl | rfl | rfl | rfl | rfl | rfl | rfl
    · exact va_eqt h0
    · exact va_eqt h1
    · exact va_eqt h2
    · exact va_eqt h3
    · exact va_eqt h4
    · exact va_eqt h5
    · exact va_eqt h6) hA
  exact ⟨fa, va_Zof (hts _ t_fac) hini e1 hA, e2⟩
