/-! the one world of a side: N cells, cell k at the address ad k, holding cf k -/
def uw (N : Nat) (ad : Nat → Nat) (cf : Nat → va_E) : va_W := (List.range N).map (fun k => (ad k, cf k))
theorem uw_get {N : Nat} {ad : Nat → Nat} {cf : Nat → va_E} {k : Nat} (hk : k < N) : (uw N ad cf)[k]? = some (ad k, cf k) := by
  simp [uw, hk]
theorem uw_lt {N : Nat} {ad : Nat → Nat} {cf : Nat → va_E} {k : Nat} {q : Nat × va_E} (h : (uw N ad cf)[k]? = some q) : k < N ∧ q = (ad k, cf k) := by
  by_cases hk : k < N
  · rw [uw_get hk] at h
    exact ⟨hk, (Option.some.inj h).symm⟩
  · simp [uw, hk] at h
theorem uw_set {N : Nat} {ad : Nat → Nat} {cf : Nat → va_E} {k : Nat} {e : va_E} (hk : k < N) : (uw N ad cf).set k (ad k, e) = uw N ad (va_up cf k e) := by
  apply List.ext_getElem?
  intro j
  by_cases hj : j < N
  · rw [uw_get hj, List.getElem?_set]
    by_cases e1 : k = j
    · subst e1
      simp [uw, va_up, hk]
    · rw [if_neg e1, uw_get hj]
      simp [va_up, Ne.symm e1]
  · have h1 : (uw N ad (va_up cf k e))[j]? = none := by simp [uw, hj]
    rw [h1, List.getElem?_set]
    have : k ≠ j := by omega
    rw [if_neg this]
    simp [uw, hj]
theorem uw_D {N : Nat} {ad : Nat → Nat} {cf cf' : Nat → va_E} {A : Nat → Prop} (h : va_D A (uw N ad cf)) : va_D A (uw N ad cf') := by
  refine ⟨fun i j p q hi hj hpq => ?_, fun k q hk => ?_⟩
  · obtain ⟨hi1, rfl⟩ := uw_lt hi
    obtain ⟨hj1, rfl⟩ := uw_lt hj
    exact h.1 i j _ _ (uw_get hi1) (uw_get hj1) hpq
  · obtain ⟨hk1, rfl⟩ := uw_lt hk
    exact h.2 k (ad k, cf k) (uw_get hk1)
/-- what a method may change: the world's cells, and what is new -/
def UA (N : Nat) (ad : Nat → Nat) (sz : Nat) : Nat → Prop := fun q => (∃ k, k < N ∧ q = ad k) ∨ sz ≤ q
def nestW : List Cond := [
  Cond.fieldLinkNest "HugTrees" 108 "HugTrees$SpanningTree" "ways" "[[I" "HugTrees",
  Cond.fieldLinkNest "HugTrees" 116 "HugTrees$SpanningTree" "above" "I" "HugTrees",
  Cond.fieldLinkNest "HugTrees" 119 "HugTrees$SpanningTree" "below" "I" "HugTrees",
  Cond.fieldLinkNest "HugTrees" 161 "HugTrees$Table" "n" "I" "HugTrees",
  Cond.fieldLinkNest "HugTrees" 51 "HugTrees$Table" "d" "[[I" "HugTrees",
  Cond.fieldLinkNest "HugTrees$Lots" 13 "HugTrees" "FACTORIALS" "[I" "HugTrees",
  Cond.fieldLinkNest "HugTrees$Lots" 19 "HugTrees$Table" "n" "I" "HugTrees",
  Cond.fieldLinkNest "HugTrees$Lots" 39 "HugTrees$Table" "d" "[[I" "HugTrees",
  Cond.fieldLinkNest "HugTrees$SpanningTree" 37 "HugTrees$Table" "n" "I" "HugTrees",
  Cond.fieldLinkNest "HugTrees$SpanningTree" 63 "HugTrees$Table" "d" "[[I" "HugTrees",
  Cond.fieldLinkNest "HugTrees$Splits" 15 "HugTrees$Table" "n" "I" "HugTrees",
  Cond.fieldLinkNest "HugTrees$Splits" 43 "HugTrees$Table" "d" "[[I" "HugTrees",
  Cond.methodLinkNest "HugTrees" 11 yX3_init "HugTrees",
  Cond.methodLinkNest "HugTrees$Splits" 54 yX4_asAnswer "HugTrees",
  Cond.methodLinkNest "HugTrees$Table" 70 yX4_asAnswer "HugTrees"]

def NW (U : State) : Prop := ∀ w ∈ nestW, va_Nw w U
theorem NW.warm {s U : State} (hW : s.WarmedH U.vm) (h : NW s) : NW U := by
  intro w hw
  have h0 := h w hw
  simp only [nestW, List.mem_cons, List.not_mem_nil, or_false] at hw
  rcases hw with rfl | rfl | rfl | rfl | rfl | rfl | rfl | rfl | rfl | rfl | rfl | rfl | rfl | rfl | rfl <;> first | exact va_Nw.warmF hW h0 | exact va_Nw.warmM hW h0
theorem nestW_tab : ∀ w ∈ nestW, w.onTables = true := by decide +kernel
theorem NW.same {u U : State} (hv : u.vm = U.vm) (h : NW u) : NW U := fun w hw => va_Nw.same (nestW_tab w hw) hv (h w hw)
def facV : Nat → Value := fun j => .int (([1, 1, 2, 6, 24, 120, 720] : List Int32).getD j 0)
def Fc (fa : Nat) (A : Nat → Prop) (U : State) (H : Heap) : Prop := va_Z "HugTrees" "FACTORIALS" "[I" (.ref fa) A U H ∧ va_T .int fa 7 facV A U H
def UP (D : va_G) (tys : List (ClassId × FieldType)) (N : Nat) (ad : Nat → Nat) (fa : Nat) (cf : Nat → va_E) (U : State) : Prop :=
  va_P D vwCl (uw N ad cf) U.heap ∧ va_K D vwCl tys U ∧ va_D (fun _ => True) (uw N ad cf) ∧ NW U ∧ Fc fa (UA N ad U.heap.size) U U.heap
def uQ (D : va_G) (N : Nat) (ad : Nat → Nat) (cf' : Nat → va_E) (o : Option Value) (A : Nat → Prop) : Array Value → State → Outcome → State → Prop :=
  fun _ st oc t => (oc = .returned o ∧ va_P D vwCl (uw N ad cf') t.heap) ∧ va_F A st t
/-- the contract of a method: the world cf becomes cf', the answer is o -/
def Ct (l : Launch) (y : MethodName) (ws : List Cond) (rm : Room) (D : va_G) (tys : List (ClassId × FieldType)) (N : Nat) (ad : Nat → Nat) (fa : Nat) (As : List Value) (cf cf' : Nat → va_E) (o : Option Value) : Prop :=
  ∀ sz : Nat, Met l y ws rm (va_Pc As (fun U => U.heap.size = sz ∧ UP D tys N ad fa cf U)) (uQ D N ad cf' o (UA N ad sz)) 0 0 (UA N ad sz)
def Wd (D : va_G) (N : Nat) (ad : Nat → Nat) (cf : Nat → va_E) (A : Nat → Prop) (H0 H : Heap) (locs : List Loc) : Prop :=
  va_P D vwCl (uw N ad cf) H ∧ va_D A (uw N ad cf) ∧ va_S A H0 H locs
def Cx (p : Program) (s : State) (m : MethodId) (args : Array Value) (meth : Method) (c : Code) (cc : ByteArray) (nL : Nat) (own : String) (D : va_G) (tys : List (ClassId × FieldType)) (fa : Nat) (A : Nat → Prop) : Prop :=
  p.tables.exec = Jvm.exec ∧ c.code = cc ∧ c.maxLocals = nL ∧ s.vm.findClass own = some m.cls ∧ (∀ w ∈ wsL_law, w.before args s = true) ∧ va_K D vwCl tys s ∧ NW s ∧ meth.locks = false ∧ (∀ q : Nat, s.heap.size ≤ q → A q) ∧ Fc fa A s s.heap
theorem wsL_good : GoodIn wsL_law wsL_law := goodIn_sub (fun _ h => h) (by decide +kernel)
theorem wU_good {y : MethodName} {b : ByteArray} {n : Nat} {r : Option FieldType} (h : Cond.code y b n r ∈ wsL_law) : GoodIn wsL_law (Cond.code y b n r :: wsL_law) := fun w hw => (List.mem_cons.mp hw).elim (fun e => e ▸ wsL_good _ h) (wsL_good w)
theorem Ct.of {l : Launch} {y : MethodName} {cc : ByteArray} {nL : Nat} {ret : Option FieldType} {rm : Room} {D : va_G} {tys : List (ClassId × FieldType)} {N : Nat} {ad : Nat → Nat} {fa : Nat} {As : List Value} {cf cf' : Nat → va_E} {o : Option Value}
    (hy : plainName y.cls = true) (hn : (lg_sl As).length ≤ nL)
    (body : ∀ (p : Program) (e : Env) (s : State) (m : MethodId) (args : Array Value) (below : List Frame) (meth : Method) (c : Code) (A : Nat → Prop), Cx p s m args meth c cc nL y.cls D tys fa A → meth.sig.returnType = ret →
      ∀ (H : Heap) (locs : List Loc), Wd D N ad cf A s.heap H locs → ∀ ls : Array Slot, lv_has ls nL (lv_args 0 As) → W p l e rm s m args below meth c H locs 0 0 (MQ below (uQ D N ad cf' o A) args s 0 0 A) (F0 m 0 ls [])) :
    Ct l y (Cond.code y cc nL ret :: wsL_law) rm D tys N ad fa As cf cf' o := by
  intro sz
  refine Met.ofW (cc := cc) (maxL := nL) (ret := ret) hy rfl ?_
  intro p e s m args below meth c s₁ B hml hv
  obtain ⟨rfl, rfl, hP, hK, hD0, hNW, hF⟩ := hv
  have hts := atoms_spec (ws := Cond.code y cc nL ret :: wsL_law) B.pre
  rw [lg_entry_eq]
  refine body p e s m _ below meth c (UA N ad s.heap.size) ⟨B.exec, B.bytes, hml, findClass_of_methodNamed B.named, fun w h => hts w (List.mem_cons_of_mem _ h), hK, hNW, B.notSynchronized, fun q h => Or.inr h, hF⟩ B.returns s.heap [] ⟨hP, ⟨hD0.1, fun k q hk => ?_⟩, va_S.rf⟩ _ (lv_entry As hn)
  obtain ⟨hk1, rfl⟩ := uw_lt hk
  exact Or.inl ⟨k, hk1, rfl⟩
section UROWS
variable {p : Program} {l : Launch} {e : Env} {R : Room} {s : State} {m : MethodId} {args : Array Value} {below : List Frame} {meth : Method} {c : Code} {H : Heap} {locs : List Loc} {cells slots : Nat} {Q : State → Prop}
variable {cc : ByteArray} {nL pc : Nat} {own : String} {ls : Array Slot} {rest : List Value} {D : va_G} {A : Nat → Prop} {tys : List (ClassId × FieldType)} {N : Nat} {ad : Nat → Nat} {fa : Nat} {cf cf' : Nat → va_E} {o : Option Value}
theorem Wd.to (h : cf = cf') {H0 : Heap} (hW : Wd D N ad cf A H0 H locs) : Wd D N ad cf' A H0 H locs := h ▸ hW
theorem u_iret (C : Cx p s m args meth c cc nL own D tys fa A) (hr : meth.sig.returnType = some .int) (hW : Wd D N ad cf A s.heap H locs) (hd : decode cc pc = .ok (.ireturn, 1)) {v : Int32} {r : Int32} (ho : v = r) (hc : cf = cf') :
    W p l e R s m args below meth c H locs 0 0 (MQ below (uQ D N ad cf' (some (.int r)) A) args s 0 0 A) (F0 m pc ls [.int v]) := by
  subst ho; subst hc
  exact W.iret (v := v) C.1 C.2.1 hr (fun t ht _ => ⟨⟨rfl, by rw [ht]; exact hW.1⟩, hW.2.2.F ht⟩) hW.2.2.2.2 hd C.2.2.2.2.2.2.2.1
theorem u_zret (C : Cx p s m args meth c cc nL own D tys fa A) (hr : meth.sig.returnType = some .boolean) (hW : Wd D N ad cf A s.heap H locs) (hd : decode cc pc = .ok (.ireturn, 1)) {v : Int32} (hv : v = 0 ∨ v = 1) {r : Int32} (ho : v = r) (hc : cf = cf') :
    W p l e R s m args below meth c H locs 0 0 (MQ below (uQ D N ad cf' (some (.int r)) A) args s 0 0 A) (F0 m pc ls [.int v]) := by
  subst ho; subst hc
  exact W.zret (v := v) C.1 C.2.1 hr (by rcases hv with rfl | rfl <;> decide +kernel) (fun t ht _ => ⟨⟨rfl, by rw [ht]; exact hW.1⟩, hW.2.2.F ht⟩) hW.2.2.2.2 hd C.2.2.2.2.2.2.2.1
theorem u_lret (C : Cx p s m args meth c cc nL own D tys fa A) (hr : meth.sig.returnType = some .long) (hW : Wd D N ad cf A s.heap H locs) (hd : decode cc pc = .ok (.lreturn, 1)) {v : Int64} {r : Int64} (ho : v = r) (hc : cf = cf') :
    W p l e R s m args below meth c H locs 0 0 (MQ below (uQ D N ad cf' (some (.long r)) A) args s 0 0 A) (F0 m pc ls [.long v]) := by
  subst ho; subst hc
  exact W.lret (v := v) C.1 C.2.1 hr (fun t ht _ => ⟨⟨rfl, by rw [ht]; exact hW.1⟩, hW.2.2.F ht⟩) hW.2.2.2.2 hd C.2.2.2.2.2.2.2.1
theorem u_vret (C : Cx p s m args meth c cc nL own D tys fa A) (hr : meth.sig.returnType = none) (hW : Wd D N ad cf A s.heap H locs) (hd : decode cc pc = .ok (.return_, 1)) (hc : cf = cf') :
    W p l e R s m args below meth c H locs 0 0 (MQ below (uQ D N ad cf' none A) args s 0 0 A) (F0 m pc ls []) := by
  subst hc
  exact W.vret C.1 C.2.1 hr (fun t ht _ => ⟨⟨rfl, by rw [ht]; exact hW.1⟩, hW.2.2.F ht⟩) hW.2.2.2.2 hd C.2.2.2.2.2.2.2.1
theorem u_aret (C : Cx p s m args meth c cc nL own D tys fa A) {rt : FieldType} (hr : meth.sig.returnType = some rt) (hrt : (∃ n, rt = .object n) ∨ ∃ t, rt = .array t) (hW : Wd D N ad cf A s.heap H locs) (hd : decode cc pc = .ok (.areturn, 1)) {a : Nat} (hc : cf = cf') :
    W p l e R s m args below meth c H locs 0 0 (MQ below (uQ D N ad cf' (some (.ref a)) A) args s 0 0 A) (F0 m pc ls [.ref a]) := by
  subst hc
  exact W.aret C.1 C.2.1 hr hrt (Or.inr ⟨a, rfl⟩) (fun t ht _ => ⟨⟨rfl, by rw [ht]; exact hW.1⟩, hW.2.2.F ht⟩) hW.2.2.2.2 hd C.2.2.2.2.2.2.2.1
/-- another name for the number on top -/
theorem u_top {x y : Int32} (h : x = y) (kk : W p l e R s m args below meth c H locs cells slots Q (F0 m pc ls (.int y :: rest))) : W p l e R s m args below meth c H locs cells slots Q (F0 m pc ls (.int x :: rest)) := by
  subst h; exact kk
theorem u_topl {x y : Int64} (h : x = y) (kk : W p l e R s m args below meth c H locs cells slots Q (F0 m pc ls (.long y :: rest))) : W p l e R s m args below meth c H locs cells slots Q (F0 m pc ls (.long x :: rest)) := by
  subst h; exact kk
theorem u_get (C : Cx p s m args meth c cc nL own D tys fa A) (hW : Wd D N ad cf A s.heap H locs) {Cn : String} {T : u_T} {NF ci index k : Nat} {fs : List Value} {v : Value} (hin : ∀ w ∈ u_ws Cn T NF, w ∈ wsL_law) (hk : k < N) (he : cf k = .inr (ci, fs)) (hc : vwCl[ci]? = some (Cn, T, NF)) (f : Nat) (hf : f < NF) (hlink : Cond.fieldLink own index (T f).1 (T f).2.1 (T f).2.2.1 ∈ wsL_law) (hv : fs[f]? = some v) (hdg : decode cc pc = .ok (.getfield index, 3))
    (kk : W p l e R s m args below meth c H locs cells slots Q (F0 m (pc + 3) ls (v :: rest))) : W p l e R s m args below meth c H locs cells slots Q (F0 m pc ls (.ref (ad k) :: rest)) :=
  va_get C.1 C.2.1 C.2.2.2.2.1 hin C.2.2.2.1 C.2.2.2.2.2.1 hW.1 k ((uw_get hk).trans (by rw [he])) hc f hf (C.2.2.2.2.1 _ hlink) (fun _ h => h) hv hdg kk
theorem u_getN (C : Cx p s m args meth c cc nL own D tys fa A) (hW : Wd D N ad cf A s.heap H locs) {Cn host : String} {T : u_T} {NF ci index k : Nat} {fs : List Value} {v : Value} (hin : ∀ w ∈ u_ws Cn T NF, w ∈ wsL_law) (hk : k < N) (he : cf k = .inr (ci, fs)) (hc : vwCl[ci]? = some (Cn, T, NF)) (f : Nat) (hf : f < NF) (hlink : Cond.fieldLinkNest own index (T f).1 (T f).2.1 (T f).2.2.1 host ∈ nestW) (hv : fs[f]? = some v) (hdg : decode cc pc = .ok (.getfield index, 3))
    (kk : W p l e R s m args below meth c H locs cells slots Q (F0 m (pc + 3) ls (v :: rest))) : W p l e R s m args below meth c H locs cells slots Q (F0 m pc ls (.ref (ad k) :: rest)) :=
  va_getN C.1 C.2.1 C.2.2.2.2.1 hin C.2.2.2.1 C.2.2.2.2.2.1 hW.1 k ((uw_get hk).trans (by rw [he])) hc f hf (va_Nw.use (nestW_tab _ hlink) (C.2.2.2.2.2.2.1 _ hlink)) (fun _ h => h) hv hdg kk
theorem u_put (C : Cx p s m args meth c cc nL own D tys fa A) (hW : Wd D N ad cf A s.heap H locs) {Cn : String} {T : u_T} {NF ci index k : Nat} {fs : List Value} {v : Value} (hin : ∀ w ∈ u_ws Cn T NF, w ∈ wsL_law) (ty0 : Nat → FieldType) (hty : ∀ k, k < NF → parseFieldDescriptor (T k).2.2.1 = some (ty0 k)) (hnm : ∀ a, a < NF → ∀ b, b < NF → a ≠ b → (T a).2.1 ≠ (T b).2.1)
    (hk : k < N) (he : cf k = .inr (ci, fs)) (hc : vwCl[ci]? = some (Cn, T, NF)) (f : Nat) (hf : f < NF) (hlink : Cond.fieldLink own index (T f).1 (T f).2.1 (T f).2.2.1 ∈ wsL_law) (hfin : (T f).2.2.2 = false) (hn : narrow (ty0 f) v = v) (hfit : fits (ty0 f) v = true) (hl : f < fs.length) (hcf : va_up cf k (.inr (ci, fs.set f v)) = cf') (hdg : decode cc pc = .ok (.putfield index, 3))
    (kk : ∀ (H1 : Heap) (locs1 : List Loc), Wd D N ad cf' A s.heap H1 locs1 → W p l e R s m args below meth c H1 locs1 cells slots Q (F0 m (pc + 3) ls rest)) : W p l e R s m args below meth c H locs cells slots Q (F0 m pc ls (v :: .ref (ad k) :: rest)) := by
  refine va_put C.1 C.2.1 C.2.2.2.2.1 hin ty0 hty hnm C.2.2.2.1 C.2.2.2.2.2.1 hW.1 hW.2.1 hW.2.2 k ((uw_get hk).trans (by rw [he])) hc f hf (C.2.2.2.2.1 _ hlink) (fun _ h => h) hfin (hty f hf) hn hfit hl hdg (fun H1 locs1 hP hD hS => ?_)
  rw [uw_set hk, hcf] at hP hD
  exact kk H1 locs1 ⟨hP, hD, hS⟩
theorem u_iald (C : Cx p s m args meth c cc nL own D tys fa A) (hW : Wd D N ad cf A s.heap H locs) {k n : Nat} {cA : ClassId} {f : Nat → Int32} (hk : k < N) (he : cf k = .inl (cA, n, .inl f)) (t0 : Nat) (ht : tys[t0]? = some (cA, .int)) {i : Int32} (a : Nat) (hi : i = nI a) (ha : a < n) (hn : n < 2 ^ 31) (hdg : decode cc pc = .ok (.iaload, 1))
    (kk : W p l e R s m args below meth c H locs cells slots Q (F0 m (pc + 1) ls (.int (f a) :: rest))) : W p l e R s m args below meth c H locs cells slots Q (F0 m pc ls (.int i :: .ref (ad k) :: rest)) := by
  subst hi
  refine va_iald C.1 C.2.1 C.2.2.2.2.2.1 hW.1 k t0 ((uw_get hk).trans (by rw [he])) ht (vp_in_nI ha hn) hdg ?_
  rw [nI_clamp (by omega)]
  exact kk
theorem u_zald (C : Cx p s m args meth c cc nL own D tys fa A) (hW : Wd D N ad cf A s.heap H locs) {k n : Nat} {cA : ClassId} {f : Nat → Int32} (hk : k < N) (he : cf k = .inl (cA, n, .inl f)) (t0 : Nat) (ht : tys[t0]? = some (cA, .boolean)) {i : Int32} (a : Nat) (hi : i = nI a) (ha : a < n) (hn : n < 2 ^ 31) (hdg : decode cc pc = .ok (.baload, 1))
    (kk : W p l e R s m args below meth c H locs cells slots Q (F0 m (pc + 1) ls (.int (f a) :: rest))) : W p l e R s m args below meth c H locs cells slots Q (F0 m pc ls (.int i :: .ref (ad k) :: rest)) := by
  subst hi
  refine va_zald C.1 C.2.1 C.2.2.2.2.2.1 hW.1 k t0 ((uw_get hk).trans (by rw [he])) ht (vp_in_nI ha hn) hdg ?_
  rw [nI_clamp (by omega)]
  exact kk
theorem u_aald (C : Cx p s m args meth c cc nL own D tys fa A) (hW : Wd D N ad cf A s.heap H locs) {k n : Nat} {cA : ClassId} {f : Nat → Option Nat} (hk : k < N) (he : cf k = .inl (cA, n, .inr (.inr (.inr (.inr f))))) (t0 : Nat) (ht : tys[t0]? = some (cA, .array .int)) {i : Int32} (a : Nat) (hi : i = nI a) (ha : a < n) (hn : n < 2 ^ 31) {q : Nat} (hq : f a = some q) (hdg : decode cc pc = .ok (.aaload, 1))
    (kk : W p l e R s m args below meth c H locs cells slots Q (F0 m (pc + 1) ls (.ref q :: rest))) : W p l e R s m args below meth c H locs cells slots Q (F0 m pc ls (.int i :: .ref (ad k) :: rest)) := by
  subst hi
  have hin : vp_in (nI a) n := vp_in_nI ha hn
  have hlt : (nI a).toNatClampNeg < n := by rw [nI_clamp (by omega)]; exact ha
  have hc := hW.1 k _ ((uw_get hk).trans (by rw [he]))
  refine W.aald (v := va_rf (f (nI a).toNatClampNeg)) (ty := .array .int) C.1 C.2.1 hc ((C.2.2.2.2.2.1.2 t0 _ ht).1 n (fun j => va_rf (f j))) rfl (fun q => by cases q) (by show ¬ (nI a < 0 ∨ (arrV _ _ _).slots.size ≤ _); rw [arrV_size]; exact hin) (by show (arrV _ _ _).slots[_]? = _; rw [arrV_read _ _ hlt]) rfl rfl hdg ?_
  rw [nI_clamp (by omega), hq]
  exact kk
theorem u_iast (C : Cx p s m args meth c cc nL own D tys fa A) (hW : Wd D N ad cf A s.heap H locs) {k n : Nat} {cA : ClassId} {f : Nat → Int32} (hk : k < N) (he : cf k = .inl (cA, n, .inl f)) (t0 : Nat) (ht : tys[t0]? = some (cA, .int)) {i x : Int32} (a : Nat) (hi : i = nI a) (ha : a < n) (hn : n < 2 ^ 31) (hcf : va_up cf k (.inl (cA, n, .inl (upd f a x))) = cf') (hdg : decode cc pc = .ok (.iastore, 1))
    (kk : ∀ (H1 : Heap) (locs1 : List Loc), Wd D N ad cf' A s.heap H1 locs1 → W p l e R s m args below meth c H1 locs1 cells slots Q (F0 m (pc + 1) ls rest)) : W p l e R s m args below meth c H locs cells slots Q (F0 m pc ls (.int x :: .int i :: .ref (ad k) :: rest)) := by
  subst hi
  refine va_iast C.1 C.2.1 C.2.2.2.2.2.1 hW.1 hW.2.1 hW.2.2 k t0 ((uw_get hk).trans (by rw [he])) ht (vp_in_nI ha hn) hdg (fun H1 locs1 hP hD hS => ?_)
  rw [nI_clamp (by omega), uw_set hk, hcf] at hP hD
  exact kk H1 locs1 ⟨hP, hD, hS⟩
theorem u_zast (C : Cx p s m args meth c cc nL own D tys fa A) (hW : Wd D N ad cf A s.heap H locs) {k n : Nat} {cA : ClassId} {f : Nat → Int32} (hk : k < N) (he : cf k = .inl (cA, n, .inl f)) (t0 : Nat) (ht : tys[t0]? = some (cA, .boolean)) {i x : Int32} (a : Nat) (hi : i = nI a) (ha : a < n) (hn : n < 2 ^ 31) (hx : vp_nar .boolean x = x) (hcf : va_up cf k (.inl (cA, n, .inl (upd f a x))) = cf') (hdg : decode cc pc = .ok (.bastore, 1))
    (kk : ∀ (H1 : Heap) (locs1 : List Loc), Wd D N ad cf' A s.heap H1 locs1 → W p l e R s m args below meth c H1 locs1 cells slots Q (F0 m (pc + 1) ls rest)) : W p l e R s m args below meth c H locs cells slots Q (F0 m pc ls (.int x :: .int i :: .ref (ad k) :: rest)) := by
  subst hi
  refine va_zast C.1 C.2.1 C.2.2.2.2.2.1 hW.1 hW.2.1 hW.2.2 k t0 ((uw_get hk).trans (by rw [he])) ht (vp_in_nI ha hn) hdg (fun H1 locs1 hP hD hS => ?_)
  rw [nI_clamp (by omega), hx, uw_set hk, hcf] at hP hD
  exact kk H1 locs1 ⟨hP, hD, hS⟩
theorem u_alen (C : Cx p s m args meth c cc nL own D tys fa A) (hW : Wd D N ad cf A s.heap H locs) {k n : Nat} {cA : ClassId} {f : Nat → Int32} (hk : k < N) (he : cf k = .inl (cA, n, .inl f)) (t0 : Nat) (ht : tys[t0]? = some (cA, .int)) (hdg : decode cc pc = .ok (.arraylength, 1))
    (kk : W p l e R s m args below meth c H locs cells slots Q (F0 m (pc + 1) ls (.int (nI n) :: rest))) : W p l e R s m args below meth c H locs cells slots Q (F0 m pc ls (.ref (ad k) :: rest)) :=
  va_alen (x := (n, .inl f)) C.1 C.2.1 C.2.2.2.2.2.1 hW.1 k t0 ((uw_get hk).trans (by rw [he])) ht rfl hdg kk
end UROWS
