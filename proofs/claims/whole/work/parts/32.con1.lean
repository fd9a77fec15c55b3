/-! making objects: worlds as lists -/
def AO (U : State) : Prop := (Cond.arrayOver (.array .int)).before #[] U = true
theorem AO.moved {u U : State} (h : u.vm.Alike U.vm) (q : AO u) : AO U := Jvm.Stand.arrayOver_alikeB h q
theorem AO.use {U : State} (q : AO U) {args : Array Value} : (Cond.arrayOver (.array .int)).before args U = true := Jvm.Stand.arrayOver_alikeB (Vm.Alike.refl U.vm) q
def LPw (D : va_G) (tys : List (ClassId × FieldType)) (fa : Nat) (w0 : va_W) (U : State) : Prop := va_P D vwCl w0 U.heap ∧ va_K D vwCl tys U ∧ va_D (fun _ => True) w0 ∧ NW U ∧ AO U ∧ Fc fa (va_A w0 U.heap.size) U U.heap
def cQ (D : va_G) (w0 : va_W) (Sh : va_W → Prop) (sz : Nat) : Array Value → State → Outcome → State → Prop := fun _ st oc t => (oc = .returned none ∧ ∃ w1, Sh w1 ∧ va_P D vwCl w1 t.heap ∧ va_D (va_A w0 sz) w1) ∧ va_F (va_A w0 sz) st t
/-- the contract of a maker: the cells w0 become cells of the shape Sh -/
def Cn (l : Launch) (y : MethodName) (ws : List Cond) (rm : Room) (D : va_G) (tys : List (ClassId × FieldType)) (fa : Nat) (As : List Value) (w0 : va_W) (Sh : va_W → Prop) (mc ms : Nat) : Prop :=
  ∀ sz : Nat, Met l y ws rm (va_Pc As (fun U => U.heap.size = sz ∧ LPw D tys fa w0 U)) (cQ D w0 Sh sz) mc ms (va_A w0 sz)
def Ld (D : va_G) (w : va_W) (A : Nat → Prop) (H0 H : Heap) (locs : List Loc) : Prop := va_P D vwCl w H ∧ va_D A w ∧ va_S A H0 H locs
theorem Ld.to {D : va_G} {w w' : va_W} {A : Nat → Prop} {H0 H : Heap} {locs : List Loc} (h : Ld D w A H0 H locs) (e : w = w') : Ld D w' A H0 H locs := e ▸ h
theorem Cn.of {l : Launch} {y : MethodName} {cc : ByteArray} {nL : Nat} {rm : Room} {D : va_G} {tys : List (ClassId × FieldType)} {fa : Nat} {As : List Value} {w0 : va_W} {Sh : va_W → Prop} {mc ms : Nat}
    (hy : plainName y.cls = true) (hyn : y.name = "<init>") (hn : (lg_sl As).length ≤ nL)
    (body : ∀ (p : Program) (e : Env) (s : State) (m : MethodId) (args : Array Value) (below : List Frame) (meth : Method) (c : Code) (A : Nat → Prop), Cx p s m args meth c cc nL y.cls D tys fa A → AO s → meth.name = "<init>" → meth.sig.returnType = none →
      ∀ (H : Heap) (locs : List Loc), Ld D w0 A s.heap H locs → ∀ ls : Array Slot, lv_has ls nL (lv_args 0 As) → W p l e rm s m args below meth c H locs 0 0 (MQ below (fun _ st oc t => (oc = .returned none ∧ ∃ w1, Sh w1 ∧ va_P D vwCl w1 t.heap ∧ va_D A w1) ∧ va_F A st t) args s mc ms A) (F0 m 0 ls [])) :
    Cn l y (Cond.code y cc nL none :: wsL_law) rm D tys fa As w0 Sh mc ms := by
  intro sz
  refine Met.ofW (cc := cc) (maxL := nL) (ret := none) hy rfl ?_
  intro p e s m args below meth c s₁ B hml hv
  obtain ⟨rfl, rfl, hP, hK, hD0, hNW, hO, hF⟩ := hv
  have hts := atoms_spec (ws := Cond.code y cc nL none :: wsL_law) B.pre
  rw [lg_entry_eq]
  refine body p e s m _ below meth c (va_A w0 s.heap.size) ⟨B.exec, B.bytes, hml, findClass_of_methodNamed B.named, fun w h => hts w (List.mem_cons_of_mem _ h), hK, hNW, B.notSynchronized, fun q h => Or.inr h, hF⟩ hO ((name_of_methodNamed B.named B.method).1.trans hyn) B.returns s.heap [] ⟨hP, hD0.self, va_S.rf⟩ _ (lv_entry As hn)
theorem kr_outer (c : ClassId) (N h0 : Nat) : ∀ i : Nat, Jvm.Free.Multi.outerC c N h0 i = arrV c N (fun j => va_rf (if j < i then some (h0 + 1 + j) else none))
  | 0 => by
    show ({ cls := c, slots := Array.replicate N .null, vm := .none } : Cell) = _
    rw [arrV_new]
    refine congrArg (arrV c N) (funext fun j => ?_)
    simp [va_rf]
  | i + 1 => by
    show (Jvm.Free.Multi.outerC c N h0 i).setSlot i (.ref (h0 + 1 + i)) = _
    rw [kr_outer c N h0 i, arrV_store]
    refine congrArg (arrV c N) (funext fun j => ?_)
    by_cases e : j = i
    · subst e
      simp [updV, va_rf]
    · by_cases h : j < i
      · simp [updV, e, h, Nat.lt_succ_of_lt h]
      · simp [updV, e, h, show ¬ j < i + 1 by omega]
def oQ (cO : ClassId) (r : Nat → Nat) : va_E := .inl (cO, 6, .inr (.inr (.inr (.inr (fun i => if i < 6 then some (r i) else none)))))
def z6 (cyI : ClassId) (r : Nat → Nat) : va_W := [(r 0, iR cyI 6 (fun _ => 0)), (r 1, iR cyI 6 (fun _ => 0)), (r 2, iR cyI 6 (fun _ => 0)), (r 3, iR cyI 6 (fun _ => 0)), (r 4, iR cyI 6 (fun _ => 0)), (r 5, iR cyI 6 (fun _ => 0))]
theorem z6_at {cyI : ClassId} {r : Nat → Nat} {k : Nat} {x : Nat × va_E} (h : (z6 cyI r)[k]? = some x) : k < 6 ∧ x = (r k, iR cyI 6 (fun _ => 0)) := by
  have hk : k < 6 := (List.getElem?_eq_some_iff.mp h).1
  refine ⟨hk, ?_⟩
  have : k = 0 ∨ k = 1 ∨ k = 2 ∨ k = 3 ∨ k = 4 ∨ k = 5 := by omega
  rcases this with rfl | rfl | rfl | rfl | rfl | rfl <;> exact (Option.some.inj h).symm
section KROWS
variable {p : Program} {l : Launch} {e : Env} {R : Room} {s : State} {m : MethodId} {args : Array Value} {below : List Frame} {meth : Method} {c : Code} {H : Heap} {locs : List Loc} {cells slots : Nat} {Q : State → Prop}
variable {cc : ByteArray} {nL pc : Nat} {own : String} {ls : Array Slot} {rest : List Value} {D : va_G} {A : Nat → Prop} {tys : List (ClassId × FieldType)} {fa : Nat} {ws : va_W}
theorem k_init (C : Cx p s m args meth c cc nL own D tys fa A) {index : Nat} (hl : Cond.methodLink own index Lib.objectInit ∈ wsL_law) {lv : List (Nat × Value)} (hls : lv_has ls nL lv) {a : Nat} (hf : 1 ≤ R.frames) (hlo : 2 * (F0 m pc ls (.ref a :: rest)).monitorRoom + (rest.map fun v => v.category).sum + 12 ≤ R.locals) (hdg : decode cc pc = .ok (.invokespecial index, 3))
    (kk : W p l e R s m args below meth c H locs cells slots Q (F0 m (pc + 3) ls rest)) : W p l e R s m args below meth c H locs cells slots Q (F0 m pc ls (.ref a :: rest)) := by
  refine W.objInit C.1 C.2.1 C.2.2.2.1 (C.2.2.2.2.1 _ hl) (C.2.2.2.2.1 _ mw_10) (C.2.2.2.2.1 _ mw_11) rfl (by rw [C.2.2.1]; exact hls.1) rfl hdg hf hlo ?_
  exact kk
theorem k_new (C : Cx p s m args meth c cc nL own D tys fa A) (hW : Ld D ws A s.heap H locs) {Cm : String} {T : u_T} {NF ci index : Nat} (hin : ∀ w ∈ u_ws Cm T NF, w ∈ wsL_law) (ty : Nat → FieldType) (hty : ∀ k, k < NF → parseFieldDescriptor (T k).2.2.1 = some (ty k)) (hcl : Cond.classLink own index Cm ∈ wsL_law) (hinst : Cond.instantiable Cm NF ∈ wsL_law) (hini : Cond.initialized Cm ∈ wsL_law) (hc : vwCl[ci]? = some (Cm, T, NF)) {fs : List Value} (hfs : ∀ j, j < NF → defaultValue (ty j) = vp_V fs j) (hcells : cells + 1 ≤ R.cells) (hslots : slots + NF ≤ R.slots) (hdg : decode cc pc = .ok (.new index, 3))
    (kk : ∀ (q : Nat) (H1 : Heap), Ld D (ws ++ [(q, .inr (ci, fs))]) A s.heap H1 locs → W p l e R s m args below meth c H1 locs (cells + 1) (slots + NF) Q (F0 m (pc + 3) ls (.ref q :: rest))) : W p l e R s m args below meth c H locs cells slots Q (F0 m pc ls rest) :=
  va_new C.1 C.2.1 C.2.2.2.2.1 hin ty hty C.2.2.2.1 (C.2.2.2.2.1 _ hcl) (C.2.2.2.2.1 _ hinst) (C.2.2.2.2.1 _ hini) C.2.2.2.2.2.1 hW.1 hW.2.1 hW.2.2 C.2.2.2.2.2.2.2.2.1 hc hfs hcells hslots hdg (fun q H1 hP hD hS => kk q H1 ⟨hP, hD, hS⟩)
theorem k_newa (C : Cx p s m args meth c cc nL own D tys fa A) (hW : Ld D ws A s.heap H locs) {atype : ArrayType} {ty : FieldType} {cy : ClassId} (hty : newarray.typeOf atype = ty) (harr : Cond.arrayClass (newarray.typeOf atype) ∈ wsL_law) (t0 : Nat) (ht : tys[t0]? = some (cy, ty)) (hra : ∀ c, va_RA s c ty → s.vm.findClass ("[" ++ ty.toString) = some c) {n : Int32} {N' : Nat} (ha : ∀ cA : ClassId, vp_cell cA (N', .inl (fun _ => 0)) = arrV cA N' (fun _ => defaultValue ty)) (hn : ¬ n < 0) (hN : n.toNatClampNeg = N') (hbytes : N' * componentBytes ty ≤ 536870912) (hcells : cells + 1 ≤ R.cells) (hslots : slots + N' ≤ R.slots) (hdg : decode cc pc = .ok (.newarray atype, 2))
    (kk : ∀ (q : Nat) (H1 : Heap), Ld D (ws ++ [(q, iR cy N' (fun _ => 0))]) A s.heap H1 locs → W p l e R s m args below meth c H1 locs (cells + 1) (slots + N') Q (F0 m (pc + 2) ls (.ref q :: rest))) : W p l e R s m args below meth c H locs cells slots Q (F0 m pc ls (.int n :: rest)) := by
  refine va_newa (a0 := (N', .inl (fun _ => 0))) C.1 C.2.1 (C.2.2.2.2.1 _ harr) hty C.2.2.2.2.2.1 hW.1 hW.2.1 hW.2.2 C.2.2.2.2.2.2.2.2.1 ha hn hN hbytes hcells hslots hdg (fun q cA H1 hK hP hD hS => ?_)
  have e1 := hra _ (hK.2 tys.length (cA, ty) (by rw [List.getElem?_append_right (Nat.le_refl _), Nat.sub_self]; rfl)).2
  have e2 := hra _ (C.2.2.2.2.2.1.2 t0 _ ht).2
  have ec : cA = cy := Option.some.inj (e1.symm.trans e2)
  subst ec
  exact kk q H1 ⟨hP, hD, hS⟩
theorem k_mna {cyI cO cyZ : ClassId} (C : Cx p s m args meth c cc nL own D (ty3 cyI cO cyZ) fa A) (hO : AO s) (hW : Ld D ws A s.heap H locs) {index : Nat} (hcl : Cond.classLink own index "[[I" ∈ wsL_law) (hcells : cells + 7 ≤ R.cells) (hslots : slots + 42 ≤ R.slots) (hdg : decode cc pc = .ok (.multianewarray index 2, 4))
    (kk : ∀ (q : Nat) (r : Nat → Nat) (H1 : Heap), Ld D (ws ++ ((q, oQ cO r) :: z6 cyI r)) A s.heap H1 locs → W p l e R s m args below meth c H1 locs (cells + 7) (slots + 42) Q (F0 m (pc + 4) ls (.ref q :: rest))) : W p l e R s m args below meth c H locs cells slots Q (F0 m pc ls (.int 6 :: .int 6 :: rest)) := by
  intro T hT Xs
  obtain ⟨hP, hD, hS⟩ := hW
  have hA := C.2.2.2.2.2.2.2.2.1
  have nI6 : (6 : Int32).toNatClampNeg = 6 := by decide
  obtain ⟨vm₁, cA, comp, -, fA, fC, -, -, X', step⟩ := Xs.multianewarray2F (ty := .int) C.1 C.2.2.2.1 (C.2.2.2.2.1 _ hcl) hO.use (C.2.2.2.2.1 _ mw_33) (g := F0 m pc ls (.int 6 :: .int 6 :: rest)) rfl (by rw [C.2.1]; exact hdg) rfl (by decide) (by decide) (by decide) (by decide) (by decide) rfl rfl (by rw [nI6]; omega) (by rw [nI6]; omega)
  rw [nI6] at X' step
  have hc1 : comp = cyI := Option.some.inj (fC.symm.trans (C.2.2.2.2.2.1.2 0 _ rfl).2)
  have hc2 : cA = cO := Option.some.inj (fA.symm.trans (C.2.2.2.2.2.1.2 1 _ rfl).2)
  subst hc1; subst hc2
  generalize hF : Jvm.Free.Multi.fill (T.setVm vm₁) cA comp 6 6 (defaultValue .int) 6 = F at X' step
  have hTh : (T.setVm vm₁).heap = H := hT
  obtain ⟨f1, f2, -, -⟩ := Jvm.Free.Multi.fill_facts (T.setVm vm₁) cA comp 6 6 (defaultValue .int) 6
  rw [hF, hTh] at f1 f2
  have hold : ∀ x : Nat, x < H.size → F.heap[x]? = H[x]? := fun x hx => by
    have := Jvm.Free.Multi.fill_old (T.setVm vm₁) cA comp 6 6 (defaultValue .int) (a := x) (by rw [hTh]; exact hx) 6
    rw [hF, hTh] at this
    exact this
  have hz : Jvm.Free.Multi.innerC comp 6 (defaultValue .int) = vp_cell comp (6, .inl (fun _ => 0)) := rfl
  have hrow : ∀ j : Nat, j < 6 → F.heap[H.size + 1 + j]? = some (vp_cell comp (6, .inl (fun _ => 0))) := fun j hj => by
    have := Jvm.Free.Multi.fill_inner (T.setVm vm₁) cA comp 6 6 (defaultValue .int) 6 j hj
    rw [hF, hTh, hz] at this
    exact this
  have hout : Jvm.Free.Multi.outerC cA 6 H.size 6 = vp_cell cA (6, .inr (.inr (.inr (.inr (fun i => if i < 6 then some (H.size + 1 + i) else none))))) := by
    rw [vp_cell_q]
    exact kr_outer cA 6 H.size 6
  rw [hout] at f2
  have hP0 : va_P D vwCl ws F.heap := hP.kept (fun k9 x hx => hold x.1 ((hP k9 x hx).lt))
  have hP1 : va_P D vwCl ((H.size, oQ cA (fun i => H.size + 1 + i)) :: z6 comp (fun i => H.size + 1 + i)) F.heap := fun k9 x hx => by
    cases k9 with
    | zero => cases hx; exact f2
    | succ k9 =>
      obtain ⟨h6, rfl⟩ := z6_at (show (z6 comp (fun i => H.size + 1 + i))[k9]? = some x from hx)
      exact hrow k9 h6
  have hnew : ∀ (k9 : Nat) (x : Nat × va_E), ((H.size, oQ cA (fun i => H.size + 1 + i)) :: z6 comp (fun i => H.size + 1 + i))[k9]? = some x → x.1 = H.size + k9 := fun k9 x hx => by
    cases k9 with
    | zero => cases hx; rfl
    | succ k9 =>
      obtain ⟨h6, rfl⟩ := z6_at (show (z6 comp (fun i => H.size + 1 + i))[k9]? = some x from hx)
      show H.size + 1 + k9 = H.size + (k9 + 1)
      omega
  have hD1 : va_D A ((H.size, oQ cA (fun i => H.size + 1 + i)) :: z6 comp (fun i => H.size + 1 + i)) := ⟨fun i j x y hi hj hxy => by
      have := hnew i x hi
      have := hnew j y hj
      omega, fun k9 x hx => hA _ (by have := hnew k9 x hx; have := hS.1; omega)⟩
  have hD2 := hD.app hD1 (fun i j x y hi hj hxy => by
    have := (hP i x hi).lt
    have := hnew j y hj
    omega)
  obtain ⟨t, a1, b1⟩ := kk H.size (fun i => H.size + 1 + i) F.heap ⟨hP0.app hP1, hD2, ⟨by rw [f1]; have := hS.1; omega, fun x h1 h2 => (hold x (Nat.lt_of_lt_of_le h1 hS.1)).trans (hS.2.1 x h1 h2), hS.2.2⟩⟩ F rfl X'
  refine ⟨t, step t ?_, b1⟩
  have e : T.heap.size = H.size := by rw [hT]
  rw [e]
  exact a1
theorem k_vret {Sh : va_W → Prop} {mc ms : Nat} (C : Cx p s m args meth c cc nL own D tys fa A) (hr : meth.sig.returnType = none) (hW : Ld D ws A s.heap H locs) (hSh : Sh ws) (h1 : cells ≤ mc) (h2 : slots ≤ ms) (hd : decode cc pc = .ok (.return_, 1)) :
    W p l e R s m args below meth c H locs cells slots (MQ below (fun _ st oc t => (oc = .returned none ∧ ∃ w1, Sh w1 ∧ va_P D vwCl w1 t.heap ∧ va_D A w1) ∧ va_F A st t) args s mc ms A) (F0 m pc ls []) := by
  refine W.widen h1 h2 ?_
  exact W.vret C.1 C.2.1 hr (fun t ht _ => ⟨⟨rfl, ws, hSh, by rw [ht]; exact hW.1, hW.2.1⟩, hW.2.2.F ht⟩) hW.2.2.2.2 hd C.2.2.2.2.2.2.2.1
theorem k_sub (C : Cx p s m args meth c cc nL own D tys fa A) {x : Nat × va_E} (hW : Ld D (ws ++ [x]) A s.heap H locs) : ∀ q, va_A [x] H.size q → A q := by
  intro q h
  rcases h with ⟨k, e9, h⟩ | h
  · have h0 : k < 1 := (List.getElem?_eq_some_iff.mp h).1
    rw [show k = 0 by omega] at h
    have hx : x = (q, e9) := Option.some.inj h
    subst hx
    exact hW.2.1.2 ws.length (q, e9) (by rw [List.getElem?_append_right (Nat.le_refl _), Nat.sub_self]; rfl)
  · exact C.2.2.2.2.2.2.2.2.1 q (Nat.le_trans hW.2.2.1 h)
theorem k_LP (C : Cx p s m args meth c cc nL own D tys fa A) (hO : AO s) {x : Nat × va_E} (hW : Ld D (ws ++ [x]) A s.heap H locs) {U : State} (hU : U.heap = H) (hw : s.WarmedH U.vm) : LPw D tys fa [x] U := by
  subst hU
  have hsub := k_sub C hW
  have hkeep : ∀ a : Nat, a < s.heap.size → ¬ A a → U.heap[a]? = s.heap[a]? := hW.2.2.2.1
  have hF := C.2.2.2.2.2.2.2.2.2
  have hl : (ws ++ [x])[ws.length]? = some x := by rw [List.getElem?_append_right (Nat.le_refl _), Nat.sub_self]; rfl
  have one : ∀ (k : Nat) (y : Nat × va_E), [x][k]? = some y → k = 0 ∧ x = y := fun k y h => by
    have h0 : k < 1 := (List.getElem?_eq_some_iff.mp h).1
    rw [show k = 0 by omega] at h
    exact ⟨by omega, Option.some.inj h⟩
  refine ⟨fun k y h => ?_, va_K.moved hw.alike C.2.2.2.2.2.1, ⟨fun i j a b hi hj _ => ?_, fun _ _ _ => trivial⟩, C.2.2.2.2.2.2.1.warm hw, hO.moved hw.alike, ((hF.1.kept hkeep).moved hw.alike).narrow hsub, ((hF.2.kept hkeep).moved hw.alike).narrow hsub⟩
  · obtain ⟨_, rfl⟩ := one k y h
    exact hW.1 ws.length x hl
  · rw [(one i a hi).1, (one j b hj).1]
theorem k_blind {As : List Value} {sz : Nat} {w0 : va_W} : FrameBlind (va_Pc As (fun U => U.heap.size = sz ∧ LPw D tys fa w0 U)) := fun a U g mk q => by
  obtain ⟨q1, q2, h1, h2, h3, h4, h5, h6, h7⟩ := q
  exact ⟨q1, q2, h1, va_K.moved (u := U) (U := U.calling g mk a) (Vm.Alike.refl U.vm) h2, h3, NW.same (u := U) (U := U.calling g mk a) rfl h4, AO.moved (u := U) (U := U.calling g mk a) (Vm.Alike.refl U.vm) h5, va_Z.moved (u := U) (U := U.calling g mk a) (Vm.Alike.refl U.vm) h6, va_T.moved (u := U) (U := U.calling g mk a) (Vm.Alike.refl U.vm) h7⟩
theorem k_runI {Sh : va_W → Prop} {mc ms : Nat} {st0 : List Value} {a : Array Value} {x : Nat × va_E} (C : Cx p s m args meth c cc nL own D tys fa A) (hr : va_Run p l e R s m args below meth c H locs cells slots mc ms (F0 m pc ls st0) rest (cQ D [x] Sh H.size a) (va_A [x] H.size)) (hW : Ld D (ws ++ [x]) A s.heap H locs)
    (kk : ∀ (w1 : va_W) (H1 : Heap) (locs1 : List Loc), Sh w1 → Ld D (ws ++ w1) A s.heap H1 locs1 → W p l e R s m args below meth c H1 locs1 (cells + mc) (slots + ms) Q (F0 m (pc + 3) ls rest)) : W p l e R s m args below meth c H locs cells slots Q (F0 m pc ls st0) := by
  have hsub := k_sub C hW
  intro T hT X
  obtain ⟨v, st₀, t, T', L, h0, X', hL, e1, e2, ⟨⟨hv, w1, hs, hp, hd⟩, hz, hk⟩, st⟩ := hr T hT X
  cases hv
  rw [h0] at hz hk
  have inl : ∀ {i : Nat} {y : Nat × va_E}, ws[i]? = some y → (ws ++ [x])[i]? = some y := fun {i y} h => by rw [List.getElem?_append_left (List.getElem?_eq_some_iff.mp h).1]; exact h
  have hl : (ws ++ [x])[ws.length]? = some x := by rw [List.getElem?_append_right (Nat.le_refl _), Nat.sub_self]; rfl
  have far : ∀ (i : Nat) (y : Nat × va_E), ws[i]? = some y → y.1 < H.size ∧ ¬ va_A [x] H.size y.1 := fun i y h => by
    have hlt := (hW.1 i y (inl h)).lt
    refine ⟨hlt, fun hq => ?_⟩
    rcases hq with ⟨k, e9, h9⟩ | h9
    · have h0 : k < 1 := (List.getElem?_eq_some_iff.mp h9).1
      rw [show k = 0 by omega] at h9
      have hx : x = (y.1, e9) := Option.some.inj h9
      have := hW.2.1.1 i ws.length y x (inl h) hl (by rw [hx])
      have := (List.getElem?_eq_some_iff.mp h).1
      omega
    · omega
  have hPr : va_P D vwCl ws t.heap := fun i y h => (hW.1 i y (inl h)).kept (hk y.1 (far i y h).1 (far i y h).2)
  have hDr : va_D A ws := ⟨fun i j a b hi hj => hW.2.1.1 i j a b (inl hi) (inl hj), fun i y h => hW.2.1.2 i y (inl h)⟩
  have hDn : va_D A (ws ++ w1) := hDr.app ⟨hd.1, fun i y h => hsub _ (hd.2 i y h)⟩ (fun i j a b hi hj hab => (far i a hi).2 (by rw [hab]; exact hd.2 j b hj))
  obtain ⟨t2, a1, b1⟩ := kk w1 T'.heap (locs ++ L) hs ⟨by rw [e1]; exact hPr.app hp, hDn, ⟨Nat.le_trans hW.2.2.1 (by rw [e1]; exact hz), fun q h1 h2 => by rw [e1, hk q (Nat.lt_of_lt_of_le h1 hW.2.2.1) (fun z => h2 (hsub q z))]; exact hW.2.2.2.1 q h1 h2, fun q hq => (List.mem_append.mp hq).elim (hW.2.2.2.2 q) (fun h => hsub _ (hL q h))⟩⟩ T' rfl X'
  exact ⟨t2, st t2 a1, b1⟩
/-- a maker called: its object is the last cell -/
theorem k_callI {y : MethodName} {b : ByteArray} {maxL mc ms : Nat} {rm : Room} {index n a : Nat} {x : va_E} {As : List Value} {Sh : va_W → Prop} {st0 : List Value} (C : Cx p s m args meth c cc nL own D tys fa A) (hO : AO s) (hW : Ld D (ws ++ [(a, x)]) A s.heap H locs)
    (hM : Cn l y (Cond.code y b maxL none :: wsL_law) rm D tys fa (.ref a :: As) [(a, x)] Sh mc ms) (hini : Cond.initialized y.cls ∈ wsL_law) (hcode : Cond.code y b maxL none ∈ wsL_law) (hinst : Cond.instanceMethod y ∈ wsL_law) (hyn : y.name = "<init>")
    (hd : y.cls ≠ "java/lang/invoke/MethodHandle" ∧ y.cls ≠ "java/lang/invoke/VarHandle" ∧ (parseMethodDescriptor y.desc).map (fun d => d.parameters.length) = some n) (hl : Cond.methodLink own index y ∈ wsL_law) (hn : As.length = n)
    (hR : rm.cells = mc ∧ rm.slots = ms ∧ rm.frames + 1 ≤ R.frames ∧ 8 + (maxL + 11) + rm.locals ≤ R.locals) {lv : List (Nat × Value)} (hls : lv_has ls nL lv) (hroom : (rest.map fun v => v.category).sum ≤ 8)
    (hst : st0 = As.reverse ++ .ref a :: rest) (hdg : decode cc pc = .ok (.invokespecial index, 3)) (hf : cells + mc ≤ R.cells ∧ slots + ms ≤ R.slots)
    (kk : ∀ (w1 : va_W) (H1 : Heap) (locs1 : List Loc), Sh w1 → Ld D (ws ++ w1) A s.heap H1 locs1 → W p l e R s m args below meth c H1 locs1 (cells + mc) (slots + ms) Q (F0 m (pc + 3) ls rest)) : W p l e R s m args below meth c H locs cells slots Q (F0 m pc ls st0) := by
  subst hst
  have hts := C.2.2.2.2.1
  have hrun := va_runI (e := e) (below := below) (meth := meth) (As := As) (rest := rest) (b := a) (H := H) (locs := locs) (g := F0 m pc ls (As.reverse ++ .ref a :: rest)) ⟨C.1, C.2.1, C.2.2.1, C.2.2.2.1, hts⟩ (hM H.size) (cwI n hts (wU_good hcode) rfl hR.1 hR.2.1 (hts _ hini) (hts _ hl) (hts _ hinst) hyn hd hR.2.2) ⟨k_blind, fun U hU hw => ⟨rfl, by rw [hU], k_LP C hO hW hU hw⟩⟩ rfl hn hls.1 rfl (lv_room hroom) hdg hf
  exact k_runI C hrun hW kk
theorem k_callIN {y : MethodName} {b : ByteArray} {maxL mc ms : Nat} {rm : Room} {index n a : Nat} {host : String} {x : va_E} {As : List Value} {Sh : va_W → Prop} {st0 : List Value} (C : Cx p s m args meth c cc nL own D tys fa A) (hO : AO s) (hW : Ld D (ws ++ [(a, x)]) A s.heap H locs)
    (hM : Cn l y (Cond.code y b maxL none :: wsL_law) rm D tys fa (.ref a :: As) [(a, x)] Sh mc ms) (hini : Cond.initialized y.cls ∈ wsL_law) (hcode : Cond.code y b maxL none ∈ wsL_law) (hinst : Cond.instanceMethod y ∈ wsL_law) (hyn : y.name = "<init>")
    (hd : y.cls ≠ "java/lang/invoke/MethodHandle" ∧ y.cls ≠ "java/lang/invoke/VarHandle" ∧ (parseMethodDescriptor y.desc).map (fun d => d.parameters.length) = some n) (hl : Cond.methodLinkNest own index y host ∈ nestW) (hn : As.length = n)
    (hR : rm.cells = mc ∧ rm.slots = ms ∧ rm.frames + 1 ≤ R.frames ∧ 8 + (maxL + 11) + rm.locals ≤ R.locals) {lv : List (Nat × Value)} (hls : lv_has ls nL lv) (hroom : (rest.map fun v => v.category).sum ≤ 8)
    (hst : st0 = As.reverse ++ .ref a :: rest) (hdg : decode cc pc = .ok (.invokespecial index, 3)) (hf : cells + mc ≤ R.cells ∧ slots + ms ≤ R.slots)
    (kk : ∀ (w1 : va_W) (H1 : Heap) (locs1 : List Loc), Sh w1 → Ld D (ws ++ w1) A s.heap H1 locs1 → W p l e R s m args below meth c H1 locs1 (cells + mc) (slots + ms) Q (F0 m (pc + 3) ls rest)) : W p l e R s m args below meth c H locs cells slots Q (F0 m pc ls st0) := by
  subst hst
  have hts := C.2.2.2.2.1
  have hcb := va_cnB (R := R) (host := host) (own := own) (index := index) (bytes := b) (maxL := maxL) (ret := none) n hts (wU_good hcode) rfl hR.1 hR.2.1 (C.2.2.2.2.2.2.1 _ hl) (hts _ hini) hd hR.2.2
  have hrun := va_runIN (e := e) (below := below) (meth := meth) (As := As) (rest := rest) (b := a) (H := H) (locs := locs) (g := F0 m pc ls (As.reverse ++ .ref a :: rest)) ⟨C.1, C.2.1, C.2.2.1, C.2.2.2.1, hts⟩ (hM H.size) ⟨hcb, hyn, hts _ hinst⟩ ⟨k_blind, fun U hU hw => ⟨rfl, by rw [hU], k_LP C hO hW hU hw⟩⟩ rfl hn hls.1 rfl (lv_room hroom) hdg hf
  exact k_runI C hrun hW kk
/-- a call over one side's world, whatever was made before; what is not of that world stays -/
theorem k_callV {N : Nat} {ad : Nat → Nat} {cf cf' : Nat → va_E} {o : Option Value} {y : MethodName} {b : ByteArray} {maxL : Nat} {ret : Option FieldType} {rm : Room} {index k ci n : Nat} {q : vw_C} {As : List Value} {fs : List Value} {st0 st1 : List Value} (C : Cx p s m args meth c cc nL own D tys fa A) (hW : Wd D N ad cf A s.heap H locs)
    (hM : Ct l y (Cond.code y b maxL ret :: wsL_law) rm D tys N ad fa (.ref (ad k) :: As) cf cf' o) (mv : MV y b maxL ret n) (hl : Cond.methodLink own index y ∈ wsL_law) (hn : As.length = n)
    (hR : rm.cells = 0 ∧ rm.slots = 0 ∧ rm.frames + 1 ≤ R.frames ∧ 8 + (maxL + 11) + rm.locals ≤ R.locals) (hk : k < N) (he : cf k = .inr (ci, fs)) (hc : vwCl[ci]? = some q) (hq : q.1 = y.cls) {lv : List (Nat × Value)} (hls : lv_has ls nL lv) (hroom : (rest.map fun v => v.category).sum ≤ 8)
    (hst : st0 = As.reverse ++ .ref (ad k) :: rest) (hst1 : o.toList ++ rest = st1) (hdg : decode cc pc = .ok (.invokevirtual index, 3)) (hf : cells ≤ R.cells ∧ slots ≤ R.slots)
    (kk : ∀ (H1 : Heap) (locs1 : List Loc), Wd D N ad cf' A s.heap H1 locs1 → H.size ≤ H1.size → (∀ q : Nat, q < H.size → ¬ UA N ad H.size q → H1[q]? = H[q]?) → W p l e R s m args below meth c H1 locs1 cells slots Q (F0 m (pc + 3) ls st1)) : W p l e R s m args below meth c H locs cells slots Q (F0 m pc ls st0) := by
  subst hst; subst hst1
  obtain ⟨⟨w1, w2, w3⟩, w4, w5⟩ := mv
  have hts := C.2.2.2.2.1
  have hcb : CallB R s args own index y b maxL ret (Cond.code y b maxL ret :: wsL_law) rm 0 0 n := callB_of n hts (wU_good w2) rfl hR.1 hR.2.1 (hts _ w1) (hts _ hl) w3 hR.2.2
  have hrecv := va_recv (q := q) C.2.2.2.2.2.1 hW.1 hc ((uw_get hk).trans (by rw [he]))
  rw [hq] at hrecv
  have hrun := va_runV (e := e) (below := below) (meth := meth) (cells := cells) (slots := slots) (As := As) (rest := rest) (b := ad k) (C := y.cls) (H := H) (locs := locs) (g := F0 m pc ls (As.reverse ++ .ref (ad k) :: rest)) ⟨C.1, C.2.1, C.2.2.1, C.2.2.2.1, hts⟩ (hM H.size) ⟨hcb, hts _ w4, hts _ w5⟩ ⟨u_blind, hrecv, fun U hU hw => ⟨rfl, by rw [hU], Cx.up C hW hU hw⟩⟩ rfl hn hls.1 rfl (lv_room hroom) hdg hf
  have hsub := Cx.sub C hW
  intro T hT X
  obtain ⟨v, st₀, t, T', L, h0, X', hL, e1, e2, ⟨⟨hv, hp⟩, hz, hk9⟩, st⟩ := hrun T hT X
  cases hv
  rw [h0] at hz hk9
  obtain ⟨t2, a1, b1⟩ := kk T'.heap (locs ++ L) ⟨by rw [e1]; exact hp, uw_D hW.2.1, ⟨Nat.le_trans hW.2.2.1 (by rw [e1]; exact hz), fun q h1 h2 => by rw [e1, hk9 q (Nat.lt_of_lt_of_le h1 hW.2.2.1) (fun z => h2 (hsub q z))]; exact hW.2.2.2.1 q h1 h2, fun q hq => (List.mem_append.mp hq).elim (hW.2.2.2.2 q) (fun h => hsub _ (hL q h))⟩⟩ (by rw [e1]; exact hz) (fun q h1 h2 => by rw [e1]; exact hk9 q h1 h2) T' rfl X'
  exact ⟨t2, st t2 a1, b1⟩
end KROWS
