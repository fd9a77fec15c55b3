/-! the class's table, as functions of its numbers -/
def fillR (d : Nat → Nat → Int32) (i : Nat) (v : Int32) : Nat → Nat → Int32 := lp (fun dd j => u2 dd i j v) 0 6 d
def fillA (f : Nat → Int32) (v : Int32) : Nat → Int32 := lp (fun g j => upd g j v) 0 6 f
def beginV (d : Nat → Nat → Int32) : Nat → Nat → Int32 := lp (fun dd i => u2 (fillR dd i 1) i i 0) 0 6 d
def putV (d : Nat → Nat → Int32) (i j : Nat) (v : Int32) : Nat → Nat → Int32 := u2 (u2 d i j v) j i v
def togV (x y k : Int32) : Int32 := if k = 0 then x + y else mx x y
def sbV (n : Nat) (d : Nat → Nat → Int32) (i j : Nat) (kind : Int32) : Int32 := lp (fun a k => if d i j ≤ togV (d i k) (d k j) kind then a else a + 1) 0 n 0
def btV (n : Nat) (d : Nat → Nat → Int32) (kind : Int32) : Int32 := lp (fun a i => lp (fun a j => a + sbV n d i j kind) (i + 1) (n - (i + 1)) a) 0 n 0
def tgaV (a b c : Int32) : Int32 := if a = b then (if a = mx a (mx b c) then 1 else if a = c then (if a = mx a (mx b c) then 1 else if b = c then (if b = mx a (mx b c) then 1 else 0) else 0) else if b = c then (if b = mx a (mx b c) then 1 else 0) else 0) else if a = c then (if a = mx a (mx b c) then 1 else if b = c then (if b = mx a (mx b c) then 1 else 0) else 0) else if b = c then (if b = mx a (mx b c) then 1 else 0) else 0
def bffV (n : Nat) (d : Nat → Nat → Int32) (i j k : Nat) : Int32 := lp (fun a l => if tgaV (d i j + d k l) (d i k + d j l) (d i l + d j k) = 0 then a + 1 else a) (k + 1) (n - (k + 1)) 0
def bfV (n : Nat) (d : Nat → Nat → Int32) : Int32 := lp (fun a i => lp (fun a j => lp (fun a k => a + bffV n d i j k) (j + 1) (n - (j + 1)) a) (i + 1) (n - (i + 1)) a) 0 n 0
def cpV (n : Nat) (d md : Nat → Nat → Int32) : Nat → Nat → Int32 := lp (fun mm i => va_up mm i (va_cpy (d i) (mm i) 0 0 n)) 0 n md
def shV (n : Nat) (md : Nat → Nat → Int32) (k : Nat) (kind : Int32) : Nat → Nat → Int32 := lp (fun mm i => lp (fun mm j => u2 mm i j (mn (mm i j) (togV (mm i k) (mm k j) kind))) 0 n mm) 0 n md
def clV (n : Nat) (d md : Nat → Nat → Int32) (kind : Int32) : Nat → Nat → Int32 := lp (fun mm k => shV n mm k kind) 0 n (cpV n d md)
def bcV (n : Nat) (d : Nat → Nat → Int32) (x : Nat → Nat → Int32) : Int32 × (Nat → Nat → Int32) := lp (fun p i => lp (fun p j => if p.2 i j = x i j then p else (p.1 + 1, putV p.2 i j (x i j))) (i + 1) (n - (i + 1)) p) 0 n (0, d)
def gaV (n : Nat) (d : Nat → Nat → Int32) (x : Nat → Nat → Int32) : Int32 := lp (fun a i => lp (fun a j => mx a (d i j - x i j)) (i + 1) (n - (i + 1)) a) 0 n 0
def asA (b : Int32) : Int32 := if b = 0 then 0 else 1
def grI (md : Nat → Nat → Int32) (r : Int32) (i : Nat) : Int32 := lp (fun b j => if b = 0 then 0 else if md i j ≤ r then 0 else 1) 0 i 1
def grV (n : Nat) (md : Nat → Nat → Int32) (r : Int32) : Int32 := lp (fun a i => a + asA (grI md r i)) 0 n 0
def suV (n : Nat) (x : Nat → Nat → Int32) : Int32 := lp (fun a i => lp (fun a j => a + x i j) (i + 1) (n - (i + 1)) a) 0 n 0
def goV (n : Nat) (x : Nat → Nat → Int32) : Int32 := lp (fun a i => lp (fun a j => mx a (x i j)) (i + 1) (n - (i + 1)) a) 0 n 0
section UCOPY
variable {p : Program} {l : Launch} {e : Env} {R : Room} {s : State} {m : MethodId} {args : Array Value} {below : List Frame} {meth : Method} {c : Code} {H : Heap} {locs : List Loc} {Q : State → Prop}
variable {cc : ByteArray} {nL pc : Nat} {own : String} {ls : Array Slot} {rest : List Value} {D : va_G} {A : Nat → Prop} {tys : List (ClassId × FieldType)} {N : Nat} {ad : Nat → Nat} {fa : Nat} {cf cf' : Nat → va_E}
theorem u_copy {index : Nat} (C : Cx p s m args meth c cc nL own D tys fa A) (hW : Wd D N ad cf A s.heap H locs) (hl : Cond.methodLink own index arraycopyName ∈ wsL_law) (h1 : Cond.native arraycopyName ∈ wsL_law) (h2 : Cond.static arraycopyName ∈ wsL_law) (h3 : Cond.initialized "java/lang/System" ∈ wsL_law) {lv : List (Nat × Value)} (hls : lv_has ls nL lv)
    {k0 k1 a : Nat} {cA : ClassId} {f g : Nat → Int32} (hk0 : k0 < N) (hk1 : k1 < N) (he0 : cf k0 = .inl (cA, 6, .inl f)) (he1 : cf k1 = .inl (cA, 6, .inl g)) (t0 : Nat) (ht : tys[t0]? = some (cA, .int)) (ha : a ≤ 6) (hcf : va_up cf k1 (.inl (cA, 6, .inl (va_cpy f g 0 0 a))) = cf') (hf : 1 ≤ R.frames) (hlo : (rest.map fun v => v.category).sum + (nativeFrameWords "java/lang/System" "arraycopy" 5 + 11) ≤ R.locals) (hdg : decode cc pc = .ok (.invokestatic index, 3))
    (kk : ∀ (H1 : Heap) (locs1 : List Loc), Wd D N ad cf' A s.heap H1 locs1 → W p l e R s m args below meth c H1 locs1 0 0 Q (F0 m (pc + 3) ls rest)) : W p l e R s m args below meth c H locs 0 0 Q (F0 m pc ls (.int (nI a) :: .int 0 :: .ref (ad k1) :: .int 0 :: .ref (ad k0) :: rest)) := by
  have ht2 := C.2.2.2.2.1
  have hc : (nI a).toNatClampNeg = a := nI_clamp (by omega)
  have h0 : (0 : Int32).toNatClampNeg = 0 := sb_cl0
  refine va_copyi C.1 C.2.1 (C.2.2.1.trans hls.1.symm) C.2.2.2.1 (ht2 _ hl) (ht2 _ h1) (ht2 _ h2) (ht2 _ h3) C.2.2.2.2.2.1 hW.1 hW.2.1 hW.2.2 k0 k1 t0 t0 ((uw_get hk0).trans (by rw [he0])) ((uw_get hk1).trans (by rw [he1])) ht ht rfl (by decide) (by decide) (nI_pos (by omega)) (by rw [hc, h0]; omega) (by rw [hc, h0]; omega) (fun _ _ => rfl) hf hlo hdg (fun H1 locs1 hP hD hS => ?_)
  rw [hc, h0, uw_set hk1, hcf] at hP hD
  exact kk H1 locs1 ⟨hP, hD, hS⟩
end UCOPY
