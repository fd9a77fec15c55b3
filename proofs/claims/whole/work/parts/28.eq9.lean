/-! ways in the tree, and the reference's way of finding them -/
def s2 (w : Nat → Nat → Nat) (i j x : Nat) : Nat → Nat → Nat := fun a b => if a = i ∧ b = j then x else w a b
def lwN (D w : Nat → Nat → Nat) (f k t : Nat) : Nat → Nat → Nat := s2 (s2 w f t (D f k + w k t)) t f (D f k + w k t)
def lyIN (D : Nat → Nat → Nat) (G P : Nat → Nat) (s : Nat) (w : Nat → Nat → Nat) (q : Nat) : Nat → Nat → Nat := lwN D w (G s) (P s) (G q)
def lySN (n : Nat) (D : Nat → Nat → Nat) (G P : Nat → Nat) (w : Nat → Nat → Nat) (s : Nat) : Nat → Nat → Nat := lp (lyIN D G P s) (s + 1) (n - 2 - s) (lwN D (s2 w (G s) (G s) 0) (G s) (P s) (P (n - 2)))
def lyVN (n : Nat) (D : Nat → Nat → Nat) (G P : Nat → Nat) (w : Nat → Nat → Nat) : Nat → Nat → Nat := lpd (lySN n D G P) (n - 1) (s2 w (P (n - 2)) (P (n - 2)) 0)
theorem lwN_at (D w : Nat → Nat → Nat) (f k t a b : Nat) : lwN D w f k t a b = if (a = t ∧ b = f) ∨ (a = f ∧ b = t) then D f k + w k t else w a b := by
  unfold lwN s2
  by_cases h1 : a = t ∧ b = f
  · rw [if_pos h1, if_pos (Or.inl h1)]
  · rw [if_neg h1]
    by_cases h2 : a = f ∧ b = t
    · rw [if_pos h2, if_pos (Or.inr h2)]
    · rw [if_neg h2, if_neg (fun q => q.elim h1 h2)]
section WAY
variable {n : Nat} {D : Nat → Nat → Nat} {G P : Nat → Nat}
def inS (n : Nat) (G P : Nat → Nat) (k x : Nat) : Prop := x = P (n - 2) ∨ ∃ t, k ≤ t ∧ t ≤ n - 2 ∧ G t = x
def RR (n : Nat) (D : Nat → Nat → Nat) (G P : Nat → Nat) (R : Nat → Nat → Nat) : Prop := (∀ x, x < n → R x x = 0) ∧ (∀ x y z, x < n → y < n → z < n → R x y ≤ R x z + R z y) ∧ ∀ t, t ≤ n - 2 → R (G t) (P t) ≤ D (G t) (P t) ∧ R (P t) (G t) ≤ D (G t) (P t)
def Iv (n : Nat) (D : Nat → Nat → Nat) (G P : Nat → Nat) (k : Nat) (w : Nat → Nat → Nat) : Prop :=
  (∀ x, inS n G P k x → w x x = 0) ∧ (∀ x y, inS n G P k x → inS n G P k y → w x y = w y x) ∧ (∀ x y z, inS n G P k x → inS n G P k y → inS n G P k z → w x y ≤ w x z + w z y) ∧ (∀ x y, inS n G P k x → inS n G P k y → w x y ≤ 1000 * (n - 1 - k)) ∧ (∀ x y, inS n G P k x → inS n G P k y → x ≠ y → 1 ≤ w x y) ∧ (∀ t, k ≤ t → t ≤ n - 2 → w (G t) (P t) = D (G t) (P t)) ∧ ∀ R, RR n D G P R → ∀ x y, inS n G P k x → inS n G P k y → R x y ≤ w x y
theorem inS_lt (hT : TreeOK n G P) {k x : Nat} (h : inS n G P k x) : x < n := by
  rcases h with rfl | ⟨t, _, _, rfl⟩
  · exact (hT.1 _).2
  · exact (hT.1 t).1
theorem inS_s {k x : Nat} (hk : k ≤ n - 2) (h : inS n G P k x) : inS n G P (k + 1) x ∨ x = G k := by
  rcases h with rfl | ⟨t, h1, h2, rfl⟩
  · exact Or.inl (Or.inl rfl)
  · by_cases e : t = k
    · subst e; exact Or.inr rfl
    · exact Or.inl (Or.inr ⟨t, by omega, h2, rfl⟩)
theorem inS_new (hT : TreeOK n G P) {k : Nat} (hk : k ≤ n - 2) : ¬ inS n G P (k + 1) (G k) := by
  rintro (e | ⟨t, h1, h2, e⟩)
  · exact hT.2.2.1 k hk e
  · exact hT.2.1 k t (by omega) h2 e.symm
theorem inS_par (hT : TreeOK n G P) {k : Nat} (hk : k ≤ n - 2) : inS n G P (k + 1) (P k) := by
  rcases hT.2.2.2.2 (P k) (hT.1 k).2 with e | ⟨t, h1, e⟩
  · exact Or.inl e
  · rcases Nat.lt_or_ge k t with q | q
    · exact Or.inr ⟨t, q, h1, e⟩
    · exact absurd e.symm (hT.2.2.2.1 t k q hk)
theorem lyS_at (hT : TreeOK n G P) {s : Nat} (hs : s ≤ n - 2) (w : Nat → Nat → Nat) : (∀ x y, inS n G P (s + 1) x → inS n G P (s + 1) y → lySN n D G P w s x y = w x y) ∧ lySN n D G P w s (G s) (G s) = 0 ∧ ∀ x, inS n G P (s + 1) x → lySN n D G P w s (G s) x = D (G s) (P s) + w (P s) x ∧ lySN n D G P w s x (G s) = D (G s) (P s) + w (P s) x := by
  have hg := inS_new hT hs
  have hc := inS_par hT hs
  have hne : ∀ {x}, inS n G P (s + 1) x → x ≠ G s := fun hx e => hg (e ▸ hx)
  have hb : inS n G P (s + 1) (P (n - 2)) := Or.inl rfl
  have key := lp_ix (fun q (v : Nat → Nat → Nat) => (∀ x y, inS n G P (s + 1) x → inS n G P (s + 1) y → v x y = w x y) ∧ v (G s) (G s) = 0 ∧ ∀ x, (x = P (n - 2) ∨ ∃ t, s < t ∧ t < q ∧ t ≤ n - 2 ∧ G t = x) → v (G s) x = D (G s) (P s) + w (P s) x ∧ v x (G s) = D (G s) (P s) + w (P s) x) (f := lyIN D G P s) (n - 2 - s) (s + 1) (lwN D (s2 w (G s) (G s) 0) (G s) (P s) (P (n - 2))) (fun q v hq0 hq hv => by
    obtain ⟨v1, v2, v3⟩ := hv
    have hq2 : q ≤ n - 2 := by omega
    have hgq : inS n G P (s + 1) (G q) := Or.inr ⟨q, hq0, hq2, rfl⟩
    unfold lyIN
    refine ⟨fun x y hx hy => ?_, ?_, fun x hx => ?_⟩
    · rw [lwN_at, if_neg (fun z => z.elim (fun z => hne hy z.2) (fun z => hne hx z.1))]; exact v1 x y hx hy
    · rw [lwN_at, if_neg (fun z => z.elim (fun z => hne hgq z.1.symm) (fun z => hne hgq z.2.symm))]; exact v2
    · rw [lwN_at, lwN_at, v1 (P s) (G q) hc hgq]
      by_cases e : x = G q
      · subst e
        rw [if_pos (Or.inr ⟨rfl, rfl⟩), if_pos (Or.inl ⟨rfl, rfl⟩)]
        exact ⟨rfl, rfl⟩
      · have hx2 : x = P (n - 2) ∨ ∃ t, s < t ∧ t < q ∧ t ≤ n - 2 ∧ G t = x := by
          rcases hx with hx | ⟨t, h1, h2, h3, h4⟩
          · exact Or.inl hx
          · by_cases z : t = q
            · subst z; exact absurd h4.symm e
            · exact Or.inr ⟨t, h1, by omega, h3, h4⟩
        have hxS : inS n G P (s + 1) x := by
          rcases hx2 with hx | ⟨t, h1, h2, h3, h4⟩
          · exact Or.inl hx
          · exact Or.inr ⟨t, h1, h3, h4⟩
        rw [if_neg (fun z => z.elim (fun z => hne hxS z.2) (fun z => e z.2)), if_neg (fun z => z.elim (fun z => e z.1) (fun z => hne hxS z.1))]
        exact v3 x hx2) (by
    have e0 : ∀ {x y}, inS n G P (s + 1) x → inS n G P (s + 1) y → s2 w (G s) (G s) 0 x y = w x y := fun hx hy => if_neg (fun z => hne hx z.1)
    refine ⟨fun x y hx hy => ?_, ?_, fun x hx => ?_⟩
    · rw [lwN_at, if_neg (fun z => z.elim (fun z => hne hy z.2) (fun z => hne hx z.1))]; exact e0 hx hy
    · rw [lwN_at, if_neg (fun z => z.elim (fun z => hne hb z.1.symm) (fun z => hne hb z.2.symm))]
      show (if G s = G s ∧ G s = G s then 0 else _) = 0
      rw [if_pos ⟨rfl, rfl⟩]
    · rcases hx with hx | ⟨t, h1, h2, _⟩
      · subst hx
        rw [lwN_at, lwN_at, if_pos (Or.inr ⟨rfl, rfl⟩), if_pos (Or.inl ⟨rfl, rfl⟩), e0 hc hb]
        exact ⟨rfl, rfl⟩
      · omega)
  rw [show s + 1 + (n - 2 - s) = n - 2 + 1 by omega] at key
  obtain ⟨k1, k2, k3⟩ := key
  refine ⟨k1, k2, fun x hx => k3 x ?_⟩
  rcases hx with hx | ⟨t, h1, h2, h3⟩
  · exact Or.inl hx
  · exact Or.inr ⟨t, h1, by omega, h2, h3⟩
theorem Iv_step (hT : TreeOK n G P) (h2n : 2 ≤ n) (hD : ∀ i j, i < n → j < n → i ≠ j → 1 ≤ D i j ∧ D i j ≤ 1000) {s : Nat} (hs : s ≤ n - 2) {w : Nat → Nat → Nat} (h : Iv n D G P (s + 1) w) : Iv n D G P s (lySN n D G P w s) := by
  obtain ⟨a1, a2, a3, a4, a5, a6, a7⟩ := h
  obtain ⟨e1, e2, e3⟩ := lyS_at (D := D) hT hs w
  have hg := inS_new hT hs
  have hc := inS_par hT hs
  have hgl := (hT.1 s).1
  have hcl := (hT.1 s).2
  obtain ⟨d1, d2⟩ := hD (G s) (P s) hgl hcl (fun e => hg (e ▸ hc))
  have em : 1000 * (n - 1 - s) = 1000 * (n - 1 - (s + 1)) + 1000 := by
    by_cases q : s + 1 ≤ n - 1
    · rw [show n - 1 - s = (n - 1 - (s + 1)) + 1 by omega]; omega
    · omega
  generalize lySN n D G P w s = v at e1 e2 e3
  refine ⟨fun x hx => ?_, fun x y hx hy => ?_, fun x y z hx hy hz => ?_, fun x y hx hy => ?_, fun x y hx hy hxy => ?_, fun t h1 h2 => ?_, fun R hR x y hx hy => ?_⟩
  · rcases inS_s hs hx with hx | rfl
    · rw [e1 x x hx hx]; exact a1 x hx
    · exact e2
  · rcases inS_s hs hx with hx | rfl <;> rcases inS_s hs hy with hy | rfl
    · rw [e1 x y hx hy, e1 y x hy hx]; exact a2 x y hx hy
    · rw [(e3 x hx).1, (e3 x hx).2]
    · rw [(e3 y hy).1, (e3 y hy).2]
    · rfl
  · rcases inS_s hs hx with hx | rfl <;> rcases inS_s hs hy with hy | rfl <;> rcases inS_s hs hz with hz | rfl
    · rw [e1 x y hx hy, e1 x z hx hz, e1 z y hz hy]; exact a3 x y z hx hy hz
    · rw [e1 x y hx hy, (e3 x hx).2, (e3 y hy).1]
      have := a3 x y (P s) hx hy hc
      have := a2 x (P s) hx hc
      omega
    · rw [(e3 x hx).2, e1 x z hx hz, (e3 z hz).2]
      have := a3 (P s) x z hc hx hz
      have := a2 z x hz hx
      omega
    · rw [(e3 x hx).2, e2]; omega
    · rw [(e3 y hy).1, (e3 z hz).1, e1 z y hz hy]
      have := a3 (P s) y z hc hy hz
      omega
    · rw [(e3 y hy).1, e2]; omega
    · rw [e2]; omega
    · rw [e2]; omega
  · rcases inS_s hs hx with hx | rfl <;> rcases inS_s hs hy with hy | rfl
    · rw [e1 x y hx hy]; have := a4 x y hx hy; omega
    · rw [(e3 x hx).2]; have := a4 (P s) x hc hx; omega
    · rw [(e3 y hy).1]; have := a4 (P s) y hc hy; omega
    · rw [e2]; omega
  · rcases inS_s hs hx with hx | rfl <;> rcases inS_s hs hy with hy | rfl
    · rw [e1 x y hx hy]; exact a5 x y hx hy hxy
    · rw [(e3 x hx).2]; omega
    · rw [(e3 y hy).1]; omega
    · exact absurd rfl hxy
  · by_cases q : t = s
    · subst q
      rw [(e3 (P t) hc).1, a1 (P t) hc]; omega
    · have i1 : inS n G P (s + 1) (G t) := Or.inr ⟨t, by omega, h2, rfl⟩
      have i2 : inS n G P (s + 1) (P t) := by
        rcases inS_par hT h2 with z | ⟨u, u1, u2, u3⟩
        · exact Or.inl z
        · exact Or.inr ⟨u, by omega, u2, u3⟩
      rw [e1 _ _ i1 i2]; exact a6 t (by omega) h2
  · obtain ⟨r1, r2, r3⟩ := id hR
    rcases inS_s hs hx with hx | rfl <;> rcases inS_s hs hy with hy | rfl
    · rw [e1 x y hx hy]; exact a7 R hR x y hx hy
    · rw [(e3 x hx).2]
      have b1 := r2 x (G s) (P s) (inS_lt hT hx) hgl hcl
      have b2 := a7 R hR x (P s) hx hc
      have b3 := (r3 s hs).2
      have := a2 x (P s) hx hc
      omega
    · rw [(e3 y hy).1]
      have b1 := r2 (G s) y (P s) hgl (inS_lt hT hy) hcl
      have b2 := a7 R hR (P s) y hc hy
      have b3 := (r3 s hs).1
      omega
    · rw [r1 _ hgl]; omega
theorem Iv_all (hT : TreeOK n G P) (h2 : 2 ≤ n) (hD : ∀ i j, i < n → j < n → i ≠ j → 1 ≤ D i j ∧ D i j ≤ 1000) (w : Nat → Nat → Nat) : Iv n D G P 0 (lyVN n D G P w) := by
  have key : ∀ k (w : Nat → Nat → Nat), k ≤ n - 1 → Iv n D G P k w → Iv n D G P 0 (lpd (lySN n D G P) k w) := by
    intro k
    induction k with
    | zero => intro w _ h; exact h
    | succ k ih => intro w hk h; exact ih _ (by omega) (Iv_step hT h2 hD (by omega) h)
  refine key (n - 1) _ (Nat.le_refl _) ?_
  have only : ∀ x, inS n G P (n - 1) x → x = P (n - 2) := fun x hx => by
    rcases hx with hx | ⟨t, h1, h3, _⟩
    · exact hx
    · omega
  have z : s2 w (P (n - 2)) (P (n - 2)) 0 (P (n - 2)) (P (n - 2)) = 0 := if_pos ⟨rfl, rfl⟩
  refine ⟨fun x hx => ?_, fun x y hx hy => ?_, fun x y q hx hy hq => ?_, fun x y hx hy => ?_, fun x y hx hy e => ?_, fun t h1 h3 => ?_, fun R hR x y hx hy => ?_⟩
  · rw [only x hx]; exact z
  · rw [only x hx, only y hy]
  · rw [only x hx, only y hy, z]; omega
  · rw [only x hx, only y hy, z]; omega
  · exact absurd ((only x hx).trans (only y hy).symm) e
  · omega
  · rw [only x hx, only y hy, hR.1 _ (hT.1 _).2]; omega
/-- the reference's table at the start -/
theorem tri_fw {V : Nat → Nat → Nat} (hz : ∀ a, a < n → V a a = 0) : (∀ a, a < n → FWN (fun x y => x + y) n V a a = 0) ∧ (∀ i j m, i < n → j < n → m < n → FWN (fun x y => x + y) n V i j ≤ FWN (fun x y => x + y) n V i m + FWN (fun x y => x + y) n V m j) ∧ ∀ i j, i < n → j < n → FWN (fun x y => x + y) n V i j ≤ V i j := by
  have key := lp_ix (fun k (U : Nat → Nat → Nat) => (∀ a, a < n → U a a = 0) ∧ (∀ m, m < k → m < n → ∀ i j, i < n → j < n → U i j ≤ U i m + U m j) ∧ ∀ i j, i < n → j < n → U i j ≤ V i j) (f := fwp (fun x y => x + y)) n 0 V (fun k U _ hk hp => by
    obtain ⟨p1, p2, p3⟩ := hp
    have hkn : k < n := by omega
    have zk := p1 k hkn
    refine ⟨fun a ha => ?_, fun m hm hmn i j hi hj => ?_, fun i j hi hj => ?_⟩
    · show min (U a a) (U a k + U k a) = 0
      rw [p1 a ha]; omega
    · show min (U i j) (U i k + U k j) ≤ min (U i m) (U i k + U k m) + min (U m j) (U m k + U k j)
      by_cases e : m = k
      · subst e
        rw [zk]; omega
      · have t1 := p2 m (by omega) hmn i j hi hj
        have t2 := p2 m (by omega) hmn i k hi hkn
        have t3 := p2 m (by omega) hmn k j hkn hj
        omega
    · show min (U i j) (U i k + U k j) ≤ V i j
      have := p3 i j hi hj
      omega) ⟨hz, fun m hm => absurd hm (by omega), fun _ _ _ _ => Nat.le_refl _⟩
  rw [Nat.zero_add] at key
  exact ⟨key.1, fun i j m hi hj hm => key.2.1 m hm hm i j hi hj, key.2.2⟩
theorem ge_fw {V w : Nat → Nat → Nat} (hw : ∀ i j k, i < n → j < n → k < n → w i j ≤ w i k + w k j) (h : ∀ i j, i < n → j < n → w i j ≤ V i j) : ∀ i j, i < n → j < n → w i j ≤ FWN (fun x y => x + y) n V i j := by
  refine lp_inv (fun (U : Nat → Nat → Nat) => ∀ i j, i < n → j < n → w i j ≤ U i j) n 0 V (fun k U _ hk hp i j hi hj => ?_) h
  show w i j ≤ min (U i j) (U i k + U k j)
  have a := hp i j hi hj
  have b := hp i k hi (by omega)
  have c := hp k j (by omega) hj
  have e := hw i j k hi hj (by omega)
  omega
end WAY
theorem nI_any (x : Int32) : ∃ k, x = nI k := by
  by_cases h : x < 0
  · refine ⟨x.toBitVec.toNat, ?_⟩
    apply Int32.toBitVec_inj.mp
    show x.toBitVec = BitVec.ofNat 32 x.toBitVec.toNat
    simp
  · obtain ⟨j, _, e⟩ := nI_of h
    exact ⟨j, e⟩
section WAY2
variable {n : Nat} {d : Nat → Nat → Int32} {t : Nat → Int32} {D : Nat → Nat → Nat}
theorem ly_N (h : Rl n d t D) {G P : Nat → Nat} (hT : ∀ q, G q < n ∧ P q < n) {wy : Nat → Nat → Int32} {w : Nat → Nat → Nat} (hw : ∀ i j, wy i j = nI (w i j)) : ∀ i j, lyV n d G P wy i j = nI (lyVN n D G P w i j) := by
  have h6 := h.1.2
  have hs2 : ∀ {wy : Nat → Nat → Int32} {w : Nat → Nat → Nat}, (∀ i j, wy i j = nI (w i j)) → ∀ (a b v : Nat) (x : Int32), x = nI v → ∀ i j, u2 wy a b x i j = nI (s2 w a b v i j) := fun hw a b v x hx i j => by
    rw [u2_at]; unfold s2
    split
    · exact hx
    · exact hw i j
  have hlw : ∀ {wy : Nat → Nat → Int32} {w : Nat → Nat → Nat}, (∀ i j, wy i j = nI (w i j)) → ∀ (f k q : Nat), f < 6 → k < 6 → ∀ i j, lwV d wy f k q i j = nI (lwN D w f k q i j) := fun {wy w} hw f k q hf hk => by
    have e : d f k + wy k q = nI (D f k + w k q) := by rw [(h.2.1 f k hf hk).1, hw, nI_add]
    unfold lwV lwN
    exact hs2 (hs2 hw f q _ _ e) q f _ _ e
  have hS : ∀ (s : Nat) (wy : Nat → Nat → Int32) (w : Nat → Nat → Nat), (∀ i j, wy i j = nI (w i j)) → ∀ i j, lyS n d G P wy s i j = nI (lySN n D G P w s i j) := fun s wy w hw => by
    have g1 := (hT s).1
    have g2 := (hT s).2
    unfold lyS lySN
    refine lp_rel (fun (a : Nat → Nat → Int32) (b : Nat → Nat → Nat) => ∀ i j, a i j = nI (b i j)) _ _ _ _ (fun q a b _ _ hr => ?_) ?_
    · unfold lyI lyIN; exact hlw hr _ _ _ (by omega) (by omega)
    · exact hlw (hs2 hw _ _ 0 0 rfl) _ _ _ (by omega) (by omega)
  have key : ∀ (k : Nat) (wy : Nat → Nat → Int32) (w : Nat → Nat → Nat), (∀ i j, wy i j = nI (w i j)) → ∀ i j, lpd (lyS n d G P) k wy i j = nI (lpd (lySN n D G P) k w i j) := by
    intro k
    induction k with
    | zero => intro wy w hw; exact hw
    | succ k ih => intro wy w hw; exact ih _ _ (hS k wy w hw)
  exact key (n - 1) _ _ (hs2 hw _ _ 0 0 rfl)
theorem gw_at (h6 : n ≤ 6) (jd t w : Nat → Int32) {a b : Nat} (ha : a < n) (hb : b < n) : gwV n jd t w (6 * a + b) = if nI a = nI b then 0 else if jd (6 * a + b) = 0 then 1000000 else t (6 * a + b) := by
  have key := lp_ix (fun i (v : Nat → Int32) => ∀ a b, a < n → b < n → a < i → v (6 * a + b) = if nI a = nI b then 0 else if jd (6 * a + b) = 0 then 1000000 else t (6 * a + b)) (f := gwO n jd t) n 0 w (fun i v _ hi hp => by
    have inner := lp_ix (fun j (v : Nat → Int32) => ∀ a b, a < n → b < n → (a < i ∨ (a = i ∧ b < j)) → v (6 * a + b) = if nI a = nI b then 0 else if jd (6 * a + b) = 0 then 1000000 else t (6 * a + b)) (f := gwI jd t i) n 0 v (fun j v _ hj hp a b ha hb hab => by
      unfold gwI upd
      by_cases q : a = i ∧ b = j
      · obtain ⟨rfl, rfl⟩ := q
        rw [if_pos rfl]
      · rw [if_neg (by omega)]; exact hp a b ha hb (by omega)) (fun a b ha hb hab => hp a b ha hb (by omega))
    intro a b ha hb hab
    exact inner a b ha hb (by omega)) (fun a b _ _ h => absurd h (by omega))
  exact key a b ha hb (by omega)
/-- one table of ways for both sides -/
theorem ways_eq (h : Rl n d t D) {cd : Nat} (ke ha : Nat → Int32) (wy : Nat → Nat → Int32) (jd jn wm : Nat → Int32) : ∃ w : Nat → Nat → Nat, (∀ i j, i < n → j < n → lyV n d (Gn n cd ke ha) (Kn n cd ke ha) wy i j = nI (w i j) ∧ mgo n t jd jn wm cd (6 * i + j) = nI (w i j)) ∧ (∀ i j, i < n → j < n → w i j = w j i) ∧ (∀ i, i < n → w i i = 0) ∧ (∀ i j, i < n → j < n → i ≠ j → 1 ≤ w i j) ∧ (∀ i j, i < n → j < n → w i j ≤ 5000) ∧ ∃ i j, i < j ∧ j < n ∧ w i j = D i j := by
  have h2 := h.1.1
  have h6 := h.1.2
  have hT := T_ok h2 h6 cd
  have eG : Gn n cd ke ha = TG n cd := funext (Gn_T h2 h6 cd ke ha)
  have eK : Kn n cd ke ha = TP n cd := funext (Kn_T h2 h6 cd ke ha)
  have hDD : ∀ i j, i < n → j < n → i ≠ j → 1 ≤ D i j ∧ D i j ≤ 1000 := h.gd.2.2
  obtain ⟨w0, hw0⟩ : ∃ w0 : Nat → Nat → Nat, ∀ i j, wy i j = nI (w0 i j) := ⟨fun i j => Classical.choose (nI_any (wy i j)), fun i j => Classical.choose_spec (nI_any (wy i j))⟩
  have hly := ly_N h (G := TG n cd) (P := TP n cd) hT.1 hw0
  obtain ⟨a1, a2, a3, a4, a5, a6, a7⟩ := Iv_all hT h2 hDD w0
  have allS : ∀ p, p < n → inS n (TG n cd) (TP n cd) 0 p := fun p hp => by
    rcases hT.2.2.2.2 p hp with e | ⟨q, h1, e⟩
    · exact Or.inl e
    · exact Or.inr ⟨q, Nat.zero_le _, h1, e⟩
  generalize hv : lyVN n D (TG n cd) (TP n cd) w0 = v at hly a1 a2 a3 a4 a5 a6 a7
  have hgt := fun q => (hT.1 q).1
  have hpt := fun q => (hT.1 q).2
  have gp : ∀ q, q ≤ n - 2 → TG n cd q ≠ TP n cd q := fun q hq e => hT.2.2.2.1 q q (Nat.le_refl _) hq e.symm
  -- the reference's start
  have hV : ∃ V : Nat → Nat → Nat, Rep n (gwV n (mlD n cd jd jn) t wm) V ∧ (∀ a, a < n → V a a = 0) ∧ (∀ i j, i < n → j < n → v i j ≤ V i j) ∧ (∀ i j, i < n → j < n → V i j ≤ 1000000) ∧ ∀ q, q ≤ n - 2 → V (TG n cd q) (TP n cd q) ≤ D (TG n cd q) (TP n cd q) ∧ V (TP n cd q) (TG n cd q) ≤ D (TG n cd q) (TP n cd q) := by
    refine ⟨fun i j => if i = j then 0 else if mlD n cd jd jn (6 * i + j) = 0 then 1000000 else D i j, fun i j hi hj => ?_, fun a _ => if_pos rfl, fun i j hi hj => ?_, fun i j hi hj => ?_, fun q hq => ?_⟩
    · show _ = nI (if i = j then 0 else if mlD n cd jd jn (6 * i + j) = 0 then 1000000 else D i j)
      rw [gw_at h6 _ _ _ hi hj]
      by_cases e : i = j
      · rw [if_pos (by rw [e]), if_pos e]; rfl
      · rw [if_neg (fun z => e ((nIe (by omega) (by omega)).mp z)), if_neg e]
        split
        · rfl
        · exact (h.2.1 i j (by omega) (by omega)).2
    · show v i j ≤ (if i = j then 0 else if mlD n cd jd jn (6 * i + j) = 0 then 1000000 else D i j)
      by_cases e : i = j
      · subst e; rw [if_pos rfl, a1 i (allS i hi)]; exact Nat.le_refl _
      · rw [if_neg e]
        split
        · have := a4 i j (allS i hi) (allS j hj)
          have : 1000 * (n - 1 - 0) ≤ 1000 * 5 := Nat.mul_le_mul_left 1000 (by omega)
          omega
        · next hz =>
          have hE : Ed n cd i j := by
            by_cases q : Ed n cd i j
            · exact q
            · exact absurd ((mlD_at h2 h6 cd jd jn hi hj).2 q) hz
          obtain ⟨q, hq, he⟩ := hE
          have e6 := a6 q (Nat.zero_le _) hq
          rcases he with ⟨rfl, rfl⟩ | ⟨rfl, rfl⟩
          · rw [e6]; exact Nat.le_refl _
          · rw [a2 _ _ (allS _ hi) (allS _ hj), e6, h.gd.1 _ _ hi hj]; exact Nat.le_refl _
    · show (if i = j then 0 else if mlD n cd jd jn (6 * i + j) = 0 then 1000000 else D i j) ≤ 1000000
      split
      · omega
      · split
        · omega
        · have := h.le (i := i) (j := j) (by omega) (by omega); omega
    · have m1 := (mlD_at h2 h6 cd jd jn (hgt q) (hpt q)).1 ⟨q, hq, Or.inl ⟨rfl, rfl⟩⟩
      have m2 := (mlD_at h2 h6 cd jd jn (hpt q) (hgt q)).1 ⟨q, hq, Or.inr ⟨rfl, rfl⟩⟩
      refine ⟨?_, ?_⟩
      · show (if TG n cd q = TP n cd q then 0 else if mlD n cd jd jn (6 * TG n cd q + TP n cd q) = 0 then 1000000 else _) ≤ _
        rw [if_neg (gp q hq), m1, if_neg n10]; exact Nat.le_refl _
      · show (if TP n cd q = TG n cd q then 0 else if mlD n cd jd jn (6 * TP n cd q + TG n cd q) = 0 then 1000000 else _) ≤ _
        rw [if_neg (fun z => gp q hq z.symm), m2, if_neg n10, h.gd.1 _ _ (hpt q) (hgt q)]; exact Nat.le_refl _
  obtain ⟨V, v1, v2, v3, v4, v5⟩ := hV
  have rep : Rep n (mgo n t jd jn wm cd) (FWN (fun x y => x + y) n V) := fw_all op_sum h6 (by decide) v2 v4 v1
  obtain ⟨f1, f2, f3⟩ := tri_fw v2
  have eq : ∀ i j, i < n → j < n → FWN (fun x y => x + y) n V i j = v i j := fun i j hi hj => by
    refine Nat.le_antisymm ?_ (ge_fw (fun i j k hi hj hk => a3 i j k (allS i hi) (allS j hj) (allS k hk)) v3 i j hi hj)
    refine a7 _ ⟨f1, fun x y z hx hy hz => f2 x y z hx hy hz, fun q hq => ?_⟩ i j (allS i hi) (allS j hj)
    have g1 := hgt q
    have g2 := hpt q
    exact ⟨Nat.le_trans (f3 _ _ g1 g2) (v5 q hq).1, Nat.le_trans (f3 _ _ g2 g1) (v5 q hq).2⟩
  refine ⟨v, fun i j hi hj => ⟨by rw [eG, eK]; exact hly i j, by rw [rep i j hi hj, eq i j hi hj]⟩, fun i j hi hj => a2 i j (allS i hi) (allS j hj), fun i hi => a1 i (allS i hi), fun i j hi hj e => a5 i j (allS i hi) (allS j hj) e, fun i j hi hj => ?_, ?_⟩
  · have := a4 i j (allS i hi) (allS j hj)
    have : 1000 * (n - 1 - 0) ≤ 1000 * 5 := Nat.mul_le_mul_left 1000 (by omega)
    omega
  · have e6 := a6 0 (Nat.zero_le _) (Nat.zero_le _)
    have g1 := hgt 0
    have g2 := hpt 0
    rcases Nat.lt_or_ge (TG n cd 0) (TP n cd 0) with q | q
    · exact ⟨_, _, q, g2, e6⟩
    · refine ⟨TP n cd 0, TG n cd 0, ?_, g1, ?_⟩
      · have := gp 0 (Nat.zero_le _); omega
      · rw [a2 _ _ (allS _ g2) (allS _ g1), e6, h.gd.1 _ _ g1 g2]
end WAY2
