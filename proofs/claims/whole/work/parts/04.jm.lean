
/-- a field of the tables: class own's entry idx is field k of class ci, of this type, final or not -/
def FL (own : String) (idx ci k : Nat) (ty : FieldType) (fin : Bool) : Prop := ∃ (C : String) (T : u_T) (N : Nat) (ty0 : Nat → FieldType), vwCl[ci]? = some (C, T, N) ∧ k < N ∧ Cond.fieldLink own idx (T k).1 (T k).2.1 (T k).2.2.1 ∈ GW ∧ (∀ w ∈ u_ws C T N, w ∈ GW) ∧ (∀ k, k < N → parseFieldDescriptor (T k).2.2.1 = some (ty0 k)) ∧ (∀ a, a < N → ∀ b, b < N → a ≠ b → (T a).2.1 ≠ (T b).2.1) ∧ ty0 k = ty ∧ (T k).2.2.2 = fin ∧ (T k).1 = C
def shat (sh : List Shp) (o : Nat) : Option Shp := if idn (off o) = o then sh[off o]? else none
theorem shat_spec {sh : List Shp} {o : Nat} {h : Shp} (e : shat sh o = some h) : sh[off o]? = some h ∧ idn (off o) = o := by
  unfold shat at e
  split at e
  · rename_i hi
    exact ⟨e, hi⟩
  · cases e
def fkind (sh : List Shp) (o k : Nat) : Option (Nat × Nat) := match shat sh o with
  | some (.inr (ci, fk)) => (fk[k]?).map (fun t => (ci, t))
  | _ => none
def akind (sh : List Shp) (o : Nat) : Option (Nat × Nat) := match shat sh o with
  | some (.inl a) => some a
  | _ => none
theorem fkind_spec {sh : List Shp} {o k ci t : Nat} (h : fkind sh o k = some (ci, t)) : ∃ fk, (sh[off o]? = some (.inr (ci, fk)) ∧ idn (off o) = o) ∧ fk[k]? = some t := by
  unfold fkind at h
  split at h
  · rename_i c fk hs
    cases hk : fk[k]? with
    | none => rw [hk] at h; cases h
    | some t' =>
      rw [hk] at h
      cases h
      exact ⟨fk, shat_spec hs, hk⟩
  · cases h
theorem akind_spec {sh : List Shp} {o k n : Nat} (h : akind sh o = some (k, n)) : sh[off o]? = some (.inl (k, n)) ∧ idn (off o) = o := by
  unfold akind at h
  split at h
  · rename_i a hs
    cases h
    exact shat_spec hs
  · cases h
section JFields
variable {G : JG} {y : MI} {d mc ms : Nat} {sh : List Shp} {nc ns pc : Nat} {L : List (Option Value)} {S : List Value} {σ : Mem} {K : JK}
theorem J_get {own : String} {idx ci k t o : Nat} {ty : FieldType} {fin : Bool} (fl : FL own idx ci k ty fin) (ho : own = y.1.cls) (hf : fkind sh o k = some (ci, t)) (hd : decode y.2.1 pc = .ok (.getfield idx, 3)) (h : J G y d mc ms sh nc ns (pc + 3) L (j_val G.1 t (σ.1 o k) (σ.2 o k) :: S) σ K) : J G y d mc ms sh nc ns pc L (.ref (G.1 + off o) :: S) σ K := by
  intro p l e R s m args below meth c H locs ls Q C hH hz hS hl h1 h2
  subst ho
  obtain ⟨fk, hs, hk⟩ := fkind_spec hf
  obtain ⟨Cn, T, N, ty0, g1, g2, g3, g4, g5, g6, -, -, -⟩ := fl
  obtain ⟨c1, c2, c3, c4, c5, c6, c7, c8, c9, c10⟩ := id C
  exact va_get (D := G.2.1) (ci := ci) (C := Cn) (T := T) (N := N) c1 c2 c5 g4 c4 c6.1 hH (off o) (j_W_at hs) g1 k g2 (c5 _ g3) (fun _ h9 => h9) (by rw [List.getElem?_mapIdx, hk]; rfl) hd (h p l e R s m args below meth c H locs ls Q C hH hz hS hl h1 h2)
theorem J_put {own : String} {idx ci k t o : Nat} {ty : FieldType} {v : Value} {σ' : Mem} (fl : FL own idx ci k ty false) (ho : own = y.1.cls) (hf : fkind sh o k = some (ci, t)) (hd : decode y.2.1 pc = .ok (.putfield idx, 3)) (hn : narrow ty v = v) (hfit : fits ty v = true) (hv : v = j_val G.1 t (σ'.1 o k) (σ'.2 o k)) (e1 : ∀ i, i ≠ o → σ'.1 i = σ.1 i) (e2 : ∀ i, i ≠ o → σ'.2 i = σ.2 i) (e3 : ∀ j, j ≠ k → σ'.1 o j = σ.1 o j) (e4 : ∀ j, j ≠ k → σ'.2 o j = σ.2 o j) (h : J G y d mc ms sh nc ns (pc + 3) L S σ' K) : J G y d mc ms sh nc ns pc L (v :: .ref (G.1 + off o) :: S) σ K := by
  intro p l e R s m args below meth c H locs ls Q C hH hz hS hl h1 h2
  subst ho
  obtain ⟨fk, hs, hk⟩ := fkind_spec hf
  obtain ⟨Cn, T, N, ty0, g1, g2, g3, g4, g5, g6, g7, g8, g9⟩ := fl
  obtain ⟨c1, c2, c3, c4, c5, c6, c7, c8, c9, c10⟩ := id C
  refine va_put (D := G.2.1) (ci := ci) (C := Cn) (T := T) (N := N) (ty := ty) c1 c2 c5 g4 ty0 g5 g6 c4 c6.1 hH (j_D G sh σ) hS (off o) (j_W_at hs) g1 k g2 (c5 _ g3) (fun _ h9 => h9) g8 (by rw [g5 k g2, g7]) hn hfit (by rw [List.length_mapIdx]; exact (List.getElem?_eq_some_iff.mp hk).1) hd (fun H1 locs1 hP1 hD1 hS1 => ?_)
  rw [j_W_set (σ' := σ') (h := .inr (ci, fk)) hs (by rw [j_set_i (f' := σ'.1 o) (g' := σ'.2 o) hk hv e3 e4]; rfl) e1 e2] at hP1
  exact h p l e R s m args below meth c H1 locs1 ls Q C hP1 hz hS1 hl h1 h2
theorem J_putI {own : String} {idx ci k o : Nat} {v : Int32} (fl : FL own idx ci k .int false) (ho : own = y.1.cls) (hf : fkind sh o k = some (ci, 0)) (hd : decode y.2.1 pc = .ok (.putfield idx, 3)) (h : J G y d mc ms sh nc ns (pc + 3) L S (sI σ o k v) K) : J G y d mc ms sh nc ns pc L (.int v :: .ref (G.1 + off o) :: S) σ K :=
  J_put fl ho hf hd rfl rfl (by simp [sI, j_val]) (sI_ne σ o k v) (fun _ _ => rfl) (fun j hj => by simp [sI, hj]) (fun _ _ => rfl) h
theorem J_putZ {own : String} {idx ci k o : Nat} {v : Int32} (fl : FL own idx ci k .boolean false) (ho : own = y.1.cls) (hf : fkind sh o k = some (ci, 0)) (hd : decode y.2.1 pc = .ok (.putfield idx, 3)) (hv : v = 0 ∨ v = 1) (h : J G y d mc ms sh nc ns (pc + 3) L S (sI σ o k v) K) : J G y d mc ms sh nc ns pc L (.int v :: .ref (G.1 + off o) :: S) σ K :=
  J_put fl ho hf hd (by rcases hv with rfl | rfl <;> rfl) (by rcases hv with rfl | rfl <;> rfl) (by simp [sI, j_val]) (sI_ne σ o k v) (fun _ _ => rfl) (fun j hj => by simp [sI, hj]) (fun _ _ => rfl) h
theorem J_putL {own : String} {idx ci k o : Nat} {v : Int64} (fl : FL own idx ci k .long false) (ho : own = y.1.cls) (hf : fkind sh o k = some (ci, 1)) (hd : decode y.2.1 pc = .ok (.putfield idx, 3)) (h : J G y d mc ms sh nc ns (pc + 3) L S (sL σ o k v) K) : J G y d mc ms sh nc ns pc L (.long v :: .ref (G.1 + off o) :: S) σ K :=
  J_put (σ := σ) (σ' := sL σ o k v) fl ho hf hd rfl rfl (by simp [sL, j_val]) (fun _ _ => rfl) (sL_ne σ o k v) (fun _ _ => rfl) (fun j hj => by simp [sL, hj]) h
theorem rid_nI {β q : Nat} (h0 : 0 < q) (h : q < 2 ^ 31) : rid β (nI q) = some (β + off q) := by
  unfold rid
  rw [if_neg (nI_ne0 h0 h), nI_clamp h]
/-- a reference that is set anew now and then: 0 is null -/
theorem J_putM {own : String} {idx ci k o q : Nat} {ty : FieldType} (fl : FL own idx ci k ty false) (ho : own = y.1.cls) (hf : fkind sh o k = some (ci, 2)) (hd : decode y.2.1 pc = .ok (.putfield idx, 3)) (hq0 : 0 < q) (hq : q < 2 ^ 31) (hn : ∀ a, narrow ty (.ref a) = .ref a) (hfit : ∀ a, fits ty (.ref a) = true) (h : J G y d mc ms sh nc ns (pc + 3) L S (sI σ o k (nI q)) K) : J G y d mc ms sh nc ns pc L (.ref (G.1 + off q) :: .ref (G.1 + off o) :: S) σ K :=
  J_put fl ho hf hd (hn _) (hfit _) (by simp [sI, j_val, rid_nI hq0 hq, va_rf]) (sI_ne σ o k _) (fun _ _ => rfl) (fun j hj => by simp [sI, hj]) (fun _ _ => rfl) h
end JFields
section JArrays
variable {G : JG} {y : MI} {d mc ms : Nat} {sh : List Shp} {nc ns pc : Nat} {L : List (Option Value)} {S : List Value} {σ : Mem} {K : JK}
theorem j_ty {G : JG} (k : Nat) (hk : k < 4) : ∃ ty, (j_tys G)[k]? = some (G.2.2.1 k, ty) := by
  rcases (show k = 0 ∨ k = 1 ∨ k = 2 ∨ k = 3 by omega) with rfl | rfl | rfl | rfl <;> exact ⟨_, rfl⟩

theorem J_iald {o n : Nat} {i : Int32} (ha : akind sh o = some (0, n)) (hi : vp_in i n) (hd : decode y.2.1 pc = .ok (.iaload, 1)) (h : J G y d mc ms sh nc ns (pc + 1) L (.int (σ.1 o i.toNatClampNeg) :: S) σ K) : J G y d mc ms sh nc ns pc L (.int i :: .ref (G.1 + off o) :: S) σ K := fun p l e R s m args below meth c H locs ls Q C hH hz hS hl h1 h2 => va_iald (D := G.2.1) C.1 C.2.1 C.2.2.2.2.2.1.1 hH (off o) 0 (j_W_at (akind_spec ha)) rfl hi hd (h p l e R s m args below meth c H locs ls Q C hH hz hS hl h1 h2)
theorem J_bald {o n : Nat} {i : Int32} (ha : akind sh o = some (1, n)) (hi : vp_in i n) (hd : decode y.2.1 pc = .ok (.baload, 1)) (h : J G y d mc ms sh nc ns (pc + 1) L (.int (σ.1 o i.toNatClampNeg) :: S) σ K) : J G y d mc ms sh nc ns pc L (.int i :: .ref (G.1 + off o) :: S) σ K := fun p l e R s m args below meth c H locs ls Q C hH hz hS hl h1 h2 => va_bald (D := G.2.1) C.1 C.2.1 C.2.2.2.2.2.1.1 hH (off o) 1 (j_W_at (akind_spec ha)) rfl hi hd (h p l e R s m args below meth c H locs ls Q C hH hz hS hl h1 h2)
theorem J_zald {o n : Nat} {i : Int32} (ha : akind sh o = some (2, n)) (hi : vp_in i n) (hd : decode y.2.1 pc = .ok (.baload, 1)) (h : J G y d mc ms sh nc ns (pc + 1) L (.int (σ.1 o i.toNatClampNeg) :: S) σ K) : J G y d mc ms sh nc ns pc L (.int i :: .ref (G.1 + off o) :: S) σ K := fun p l e R s m args below meth c H locs ls Q C hH hz hS hl h1 h2 => va_zald (D := G.2.1) C.1 C.2.1 C.2.2.2.2.2.1.1 hH (off o) 2 (j_W_at (akind_spec ha)) rfl hi hd (h p l e R s m args below meth c H locs ls Q C hH hz hS hl h1 h2)
theorem J_lald {o n : Nat} {i : Int32} (ha : akind sh o = some (3, n)) (hi : vp_in i n) (hd : decode y.2.1 pc = .ok (.laload, 1)) (h : J G y d mc ms sh nc ns (pc + 1) L (.long (σ.2 o i.toNatClampNeg) :: S) σ K) : J G y d mc ms sh nc ns pc L (.int i :: .ref (G.1 + off o) :: S) σ K := fun p l e R s m args below meth c H locs ls Q C hH hz hS hl h1 h2 => va_lald (D := G.2.1) C.1 C.2.1 C.2.2.2.2.2.1.1 hH (off o) 3 (j_W_at (akind_spec ha)) rfl hi hd (h p l e R s m args below meth c H locs ls Q C hH hz hS hl h1 h2)
theorem J_iast {o n : Nat} {i : Int32} {x : Int32} (ha : akind sh o = some (0, n)) (hi : vp_in i n) (hd : decode y.2.1 pc = .ok (.iastore, 1)) (h : J G y d mc ms sh nc ns (pc + 1) L S (sI σ o i.toNatClampNeg x) K) : J G y d mc ms sh nc ns pc L (.int x :: .int i :: .ref (G.1 + off o) :: S) σ K := by
  intro p l e R s m args below meth c H locs ls Q C hH hz hS hl h1 h2
  refine va_iast (D := G.2.1) C.1 C.2.1 C.2.2.2.2.2.1.1 hH (j_D G sh σ) hS (off o) 0 (j_W_at (akind_spec ha)) rfl hi hd (fun H1 locs1 hP1 hD1 hS1 => ?_)
  rw [j_W_set (σ := σ) (σ' := (sI σ o i.toNatClampNeg x)) (h := .inl (0, n)) (akind_spec ha) (by rw [j_cell, sI_at]; rfl) (sI_ne σ o _ _) (fun _ _ => rfl)] at hP1
  exact h p l e R s m args below meth c H1 locs1 ls Q C hP1 hz hS1 hl h1 h2
theorem J_bast {o n : Nat} {i : Int32} {x : Int32} (ha : akind sh o = some (1, n)) (hi : vp_in i n) (hd : decode y.2.1 pc = .ok (.bastore, 1)) (h : J G y d mc ms sh nc ns (pc + 1) L S (sI σ o i.toNatClampNeg (vp_nar .byte x)) K) : J G y d mc ms sh nc ns pc L (.int x :: .int i :: .ref (G.1 + off o) :: S) σ K := by
  intro p l e R s m args below meth c H locs ls Q C hH hz hS hl h1 h2
  refine va_bast (D := G.2.1) C.1 C.2.1 C.2.2.2.2.2.1.1 hH (j_D G sh σ) hS (off o) 1 (j_W_at (akind_spec ha)) rfl hi hd (fun H1 locs1 hP1 hD1 hS1 => ?_)
  rw [j_W_set (σ := σ) (σ' := (sI σ o i.toNatClampNeg (vp_nar .byte x))) (h := .inl (1, n)) (akind_spec ha) (by rw [j_cell, sI_at]; rfl) (sI_ne σ o _ _) (fun _ _ => rfl)] at hP1
  exact h p l e R s m args below meth c H1 locs1 ls Q C hP1 hz hS1 hl h1 h2
theorem J_zast {o n : Nat} {i : Int32} {x : Int32} (ha : akind sh o = some (2, n)) (hi : vp_in i n) (hd : decode y.2.1 pc = .ok (.bastore, 1)) (h : J G y d mc ms sh nc ns (pc + 1) L S (sI σ o i.toNatClampNeg (vp_nar .boolean x)) K) : J G y d mc ms sh nc ns pc L (.int x :: .int i :: .ref (G.1 + off o) :: S) σ K := by
  intro p l e R s m args below meth c H locs ls Q C hH hz hS hl h1 h2
  refine va_zast (D := G.2.1) C.1 C.2.1 C.2.2.2.2.2.1.1 hH (j_D G sh σ) hS (off o) 2 (j_W_at (akind_spec ha)) rfl hi hd (fun H1 locs1 hP1 hD1 hS1 => ?_)
  rw [j_W_set (σ := σ) (σ' := (sI σ o i.toNatClampNeg (vp_nar .boolean x))) (h := .inl (2, n)) (akind_spec ha) (by rw [j_cell, sI_at]; rfl) (sI_ne σ o _ _) (fun _ _ => rfl)] at hP1
  exact h p l e R s m args below meth c H1 locs1 ls Q C hP1 hz hS1 hl h1 h2
theorem J_last {o n : Nat} {i : Int32} {x : Int64} (ha : akind sh o = some (3, n)) (hi : vp_in i n) (hd : decode y.2.1 pc = .ok (.lastore, 1)) (h : J G y d mc ms sh nc ns (pc + 1) L S (sL σ o i.toNatClampNeg x) K) : J G y d mc ms sh nc ns pc L (.long x :: .int i :: .ref (G.1 + off o) :: S) σ K := by
  intro p l e R s m args below meth c H locs ls Q C hH hz hS hl h1 h2
  refine va_last (D := G.2.1) C.1 C.2.1 C.2.2.2.2.2.1.1 hH (j_D G sh σ) hS (off o) 3 (j_W_at (akind_spec ha)) rfl hi hd (fun H1 locs1 hP1 hD1 hS1 => ?_)
  rw [j_W_set (σ := σ) (σ' := (sL σ o i.toNatClampNeg x)) (h := .inl (3, n)) (akind_spec ha) (by rw [j_cell, sL_at]; rfl) (fun _ _ => rfl) (sL_ne σ o _ _)] at hP1
  exact h p l e R s m args below meth c H1 locs1 ls Q C hP1 hz hS1 hl h1 h2
theorem J_alen {o k n : Nat} {v : Int32} (ha : akind sh o = some (k, n)) (hk : k < 4) (hv : Int32.ofNat n = v) (hd : decode y.2.1 pc = .ok (.arraylength, 1)) (h : J G y d mc ms sh nc ns (pc + 1) L (.int v :: S) σ K) : J G y d mc ms sh nc ns pc L (.ref (G.1 + off o) :: S) σ K := by
  intro p l e R s m args below meth c H locs ls Q C hH hz hS hl h1 h2
  obtain ⟨ty, ht⟩ := j_ty (G := G) k hk
  exact va_alen (D := G.2.1) C.1 C.2.1 C.2.2.2.2.2.1.1 hH (off o) k (j_W_at (akind_spec ha)) ht hv hd (h p l e R s m args below meth c H locs ls Q C hH hz hS hl h1 h2)
theorem J_aald {o n q : Nat} {i : Int32} (ha : akind sh o = some (4, n)) (hi : vp_in i n) (hq0 : 0 < q) (hq : q < 2 ^ 31) (hv : σ.1 o i.toNatClampNeg = nI q) (hd : decode y.2.1 pc = .ok (.aaload, 1)) (h : J G y d mc ms sh nc ns (pc + 1) L (.ref (G.1 + off q) :: S) σ K) : J G y d mc ms sh nc ns pc L (.int i :: .ref (G.1 + off o) :: S) σ K := by
  intro p l e R s m args below meth c H locs ls Q C hH hz hS hl h1 h2
  refine va_aldq (D := G.2.1) C.1 C.2.1 C.2.2.2.2.2.1.1 hH (off o) 4 (f := fun j => rid G.1 (σ.1 o j)) (j_W_at (akind_spec ha)) rfl hi hd ?_
  rw [hv, rid_nI hq0 hq]
  exact h p l e R s m args below meth c H locs ls Q C hH hz hS hl h1 h2
theorem j_nat : nativeFrameWords "java/lang/System" "arraycopy" 5 + 11 ≤ 50 := by decide +kernel
/-- System.arraycopy between rows of ints -/
def LC (own : String) (idx : Nat) : Prop := Cond.methodLink own idx arraycopyName ∈ GW ∧ Cond.native arraycopyName ∈ GW ∧ Cond.static arraycopyName ∈ GW ∧ Cond.initialized "java/lang/System" ∈ GW
theorem J_copy {own : String} {idx o0 o1 n0 n1 : Nat} {sp dp n : Int32} (lk : LC own idx) (ho : own = y.1.cls) (ha0 : akind sh o0 = some (0, n0)) (ha1 : akind sh o1 = some (0, n1)) (hd0 : 0 < d) (hsp : 0 ≤ sp ∧ 0 ≤ dp ∧ 0 ≤ n ∧ sp.toNatClampNeg + n.toNatClampNeg ≤ n0 ∧ dp.toNatClampNeg + n.toNatClampNeg ≤ n1) (hst : (S.map fun v => v.category).sum ≤ 8) (hd : decode y.2.1 pc = .ok (.invokestatic idx, 3)) (h : J G y d mc ms sh nc ns (pc + 3) L S (sC σ o1 dp.toNatClampNeg (σ.1 o0) sp.toNatClampNeg n.toNatClampNeg) K) : J G y d mc ms sh nc ns pc L (.int n :: .int dp :: .ref (G.1 + off o1) :: .int sp :: .ref (G.1 + off o0) :: S) σ K := by
  intro p l e R s m args below meth c H locs ls Q C hH hz hS hl h1 h2
  subst ho
  obtain ⟨c1, c2, c3, c4, c5, c6, c7, c8, c9, c10⟩ := id C
  obtain ⟨a1, a2, a3, a4, a5⟩ := hsp
  have hj := j_nat
  refine va_copyi (D := G.2.1) c1 c2 (by rw [c3]; exact hl.1.symm) c4 (c5 _ lk.1) (c5 _ lk.2.1) (c5 _ lk.2.2.1) (c5 _ lk.2.2.2) c6.1 hH (j_D G sh σ) hS (off o0) (off o1) 0 0 (j_W_at (akind_spec ha0)) (j_W_at (akind_spec ha1)) rfl rfl rfl (Int32.not_lt.mpr a1) (Int32.not_lt.mpr a2) (Int32.not_lt.mpr a3) a4 a5 (fun _ _ => rfl) (by omega) (by omega) hd (fun H1 locs1 hP1 hD1 hS1 => ?_)
  rw [j_W_set (σ' := sC σ o1 dp.toNatClampNeg (σ.1 o0) sp.toNatClampNeg n.toNatClampNeg) (h := .inl (0, n1)) (akind_spec ha1) (by rw [j_cell, sC_at]; rfl) (sC_ne σ o1 _ _ _ _) (fun _ _ => rfl)] at hP1
  exact h p l e R s m args below meth c H1 locs1 ls Q C hP1 hz hS1 hl h1 h2
theorem J_ldc {own : String} {idx : Nat} {v : Int32} (hc : Cond.constant own idx v ∈ GW) (ho : own = y.1.cls) (hd : decode y.2.1 pc = .ok (.ldc idx, 2)) (h : J G y d mc ms sh nc ns (pc + 2) L (.int v :: S) σ K) : J G y d mc ms sh nc ns pc L S σ K := fun p l e R s m args below meth c H locs ls Q C hH hz hS hl h1 h2 => lv_ldc C.1 C.2.1 C.2.2.2.1 (C.2.2.2.2.1 _ (ho ▸ hc)) hd (h p l e R s m args below meth c H locs ls Q C hH hz hS hl h1 h2)
theorem J_ldcw {own : String} {idx : Nat} {v : Int32} (hc : Cond.constant own idx v ∈ GW) (ho : own = y.1.cls) (hd : decode y.2.1 pc = .ok (.ldc_w idx, 3)) (h : J G y d mc ms sh nc ns (pc + 3) L (.int v :: S) σ K) : J G y d mc ms sh nc ns pc L S σ K := fun p l e R s m args below meth c H locs ls Q C hH hz hS hl h1 h2 => lv_ldcw C.1 C.2.1 C.2.2.2.1 (C.2.2.2.2.1 _ (ho ▸ hc)) hd (h p l e R s m args below meth c H locs ls Q C hH hz hS hl h1 h2)
theorem J_ldc2 {own : String} {idx : Nat} {v : Int64} (hc : Cond.constantLong own idx v ∈ GW) (ho : own = y.1.cls) (hd : decode y.2.1 pc = .ok (.ldc2_w idx, 3)) (h : J G y d mc ms sh nc ns (pc + 3) L (.long v :: S) σ K) : J G y d mc ms sh nc ns pc L S σ K := fun p l e R s m args below meth c H locs ls Q C hH hz hS hl h1 h2 => lv_ldc2 C.1 C.2.1 C.2.2.2.1 (C.2.2.2.2.1 _ (ho ▸ hc)) hd (h p l e R s m args below meth c H locs ls Q C hH hz hS hl h1 h2)
theorem J_tin {dflt lo hi : Int} {offs : Array Int} {len : Nat} {x : Int32} {off : Int} {tgt : Nat} (hd : decode y.2.1 pc = .ok (.tableswitch dflt lo hi offs, len)) (g1 : ¬ x.toInt < lo) (g2 : ¬ hi < x.toInt) (ho : offs[(x.toInt - lo).toNat]? = some off) (ht : (pc : Int) + off = (tgt : Int)) (h : J G y d mc ms sh nc ns tgt L S σ K) : J G y d mc ms sh nc ns pc L (.int x :: S) σ K := fun p l e R s m args below meth c H locs ls Q C hH hz hS hl h1 h2 => lv_tableIn C.1 C.2.1 hd g1 g2 ho ht (h p l e R s m args below meth c H locs ls Q C hH hz hS hl h1 h2)
theorem J_tout {dflt lo hi : Int} {offs : Array Int} {len : Nat} {x : Int32} {tgt : Nat} (hd : decode y.2.1 pc = .ok (.tableswitch dflt lo hi offs, len)) (g : x.toInt < lo ∨ hi < x.toInt) (ht : (pc : Int) + dflt = (tgt : Int)) (h : J G y d mc ms sh nc ns tgt L S σ K) : J G y d mc ms sh nc ns pc L (.int x :: S) σ K := fun p l e R s m args below meth c H locs ls Q C hH hz hS hl h1 h2 => lv_tableOut C.1 C.2.1 hd g ht (h p l e R s m args below meth c H locs ls Q C hH hz hS hl h1 h2)
theorem J_look {dflt : Int} {ps : Array (Int × Int)} {len : Nat} {x : Int32} {off : Int} {tgt : Nat} (hd : decode y.2.1 pc = .ok (.lookupswitch dflt ps, len)) (hp : (ps.toList.zip (ps.toList.drop 1)).all (fun (a, next) => a.1 < next.1) = true) (ho : Op.lookupswitch.offset ps.toList dflt x.toInt = off) (ht : (pc : Int) + off = (tgt : Int)) (h : J G y d mc ms sh nc ns tgt L S σ K) : J G y d mc ms sh nc ns pc L (.int x :: S) σ K := fun p l e R s m args below meth c H locs ls Q C hH hz hS hl h1 h2 => lv_lookup C.1 C.2.1 hd hp ho ht (h p l e R s m args below meth c H locs ls Q C hH hz hS hl h1 h2)
end JArrays
/-! calls -/
section JCalls
variable {p : Program} {l : Launch} {e : Env} {R : Room} {s : State} {m : MethodId} {args : Array Value} {below : List Frame} {meth : Method} {c : Code} {H : Heap} {locs : List Loc} {cells slots : Nat} {Q : State → Prop}
theorem j_after {G : JG} {K' : JK} {pc mc ms : Nat} {ls : Array Slot} {st0 rest : List Value} {a : Array Value} (hr : va_Run p l e R s m args below meth c H locs cells slots mc ms (F0 m pc ls st0) rest (j_Qc G K' a) (j_A G)) (hS : va_S (j_A G) s.heap H locs)
    (kk : ∀ (r : Option Value) (sh' : List Shp) (σ' : Mem) (H1 : Heap) (locs1 : List Loc), K' r sh' σ' → j_H G sh' σ' H1 → va_S (j_A G) s.heap H1 locs1 → W p l e R s m args below meth c H1 locs1 (cells + mc) (slots + ms) Q (F0 m (pc + 3) ls (r.toList ++ rest))) : W p l e R s m args below meth c H locs cells slots Q (F0 m pc ls st0) := by
  intro T hT X
  obtain ⟨v, st₀, t, T', L, h0, X', hL, e1, e2, ⟨⟨r, sh', σ', hv, hk, hh⟩, hz, hkk⟩, st⟩ := hr T hT X
  cases hv
  rw [h0] at hz hkk
  obtain ⟨t2, a1, b1⟩ := kk v sh' σ' T'.heap (locs ++ L) hk (by rw [e1]; exact hh) ⟨Nat.le_trans hS.1 (by rw [e1]; exact hz), fun q g1 g2 => by rw [e1, hkk q (Nat.lt_of_lt_of_le g1 hS.1) g2]; exact hS.2.1 q g1 g2, fun q hq => by
      rcases List.mem_append.mp hq with h | h
      · exact hS.2.2 q h
      · exact hL q h⟩ T' rfl X'
  exact ⟨t2, st t2 a1, b1⟩
/-- the callee's start -/
theorem j_pre {G : JG} {sh : List Shp} {σ : Mem} {avs : List Value} (hE : j_E G s) (hH : j_H G sh σ H) (hz : H.size = G.1 + sh.length) (hS : va_S (j_A G) s.heap H locs) : ∀ U : State, U.heap = H → s.WarmedH U.vm → j_Pc G sh avs σ avs.toArray U :=
  fun U hU hW => ⟨rfl, by rw [hU]; exact hH, by rw [hU]; exact hz, hE.warm hW (fun a g1 g2 => by rw [hU]; exact hS.2.1 a g1 g2)⟩
end JCalls
abbrev l_dok (y : MI) (n : Nat) : Prop := (y.1.cls ≠ "java/lang/invoke/MethodHandle" ∧ y.1.cls ≠ "java/lang/invoke/VarHandle" ∧ (parseMethodDescriptor y.1.desc).map (fun d => d.parameters.length) = some n) ∧ y.2.2.1 ≤ 45
def LB (y : MI) (n : Nat) : Prop := Cond.initialized y.1.cls ∈ GW ∧ Cond.code y.1 y.2.1 y.2.2.1 y.2.2.2 ∈ GW ∧ l_dok y n
def LV (own : String) (idx : Nat) (y : MI) (n : Nat) : Prop := Cond.methodLink own idx y.1 ∈ GW ∧ Cond.instanceMethod y.1 ∈ GW ∧ Cond.selects y.1.cls y.1 y.1 ∈ GW ∧ LB y n
def LSt (own : String) (idx : Nat) (y : MI) (n : Nat) : Prop := Cond.methodLink own idx y.1 ∈ GW ∧ Cond.static y.1 ∈ GW ∧ LB y n
def LSN (own : String) (idx : Nat) (y : MI) (n : Nat) : Prop := (∃ host, Cond.methodLinkNest own idx y.1 host ∈ NW) ∧ Cond.static y.1 ∈ GW ∧ LB y n
def LI (own : String) (idx : Nat) (y : MI) (n : Nat) : Prop := Cond.methodLink own idx y.1 ∈ GW ∧ Cond.instanceMethod y.1 ∈ GW ∧ y.1.name = "<init>" ∧ y.2.2.2 = none ∧ LB y n
def LIN (own : String) (idx : Nat) (y : MI) (n : Nat) : Prop := (∃ host, Cond.methodLinkNest own idx y.1 host ∈ NW) ∧ Cond.instanceMethod y.1 ∈ GW ∧ y.1.name = "<init>" ∧ y.2.2.2 = none ∧ LB y n
theorem gw_g1 {w : Cond} (h : w ∈ GW) : w ∈ GW ∧ ((w.onTables && w.keeps) = true ∨ ∃ ty, w = .arrayClass ty) := ⟨h, good_of_word (gw_good h).2⟩
section JInv
variable {G : JG} {y y' : MI} {d mc ms mc' ms' : Nat} {sh : List Shp} {nc ns pc : Nat} {L : List (Option Value)} {S S0 : List Value} {σ : Mem} {K K' : JK}

theorem J_callV {own : String} {idx n : Nat} {o ci : Nat} {T : u_T} {N : Nat} {fk : List Nat} (As : List Value) (lk : LV own idx y' n) (ho : own = y.1.cls) (hci : vwCl[ci]? = some (y'.1.cls, T, N)) (hrc : shat sh o = some (.inr (ci, fk))) (hM : JM G y' d mc' ms' sh (.ref (G.1 + off o) :: As) σ K') (hlen : ∀ r sh' σ', K' r sh' σ' → sh'.length = sh.length + mc') (hmc : nc + mc' ≤ mc) (hms : ns + ms' ≤ ms) (hn : As.length = n) (h0 : S0 = As.reverse ++ .ref (G.1 + off o) :: S) (hst : (S.map fun v => v.category).sum ≤ 8) (hd : decode y.2.1 pc = .ok (.invokevirtual idx, 3)) (h : ∀ r sh' σ', K' r sh' σ' → J G y (d + 1) mc ms sh' (nc + mc') (ns + ms') (pc + 3) L (r.toList ++ S) σ' K) : J G y (d + 1) mc ms sh nc ns pc L S0 σ K := by
  intro p l e R s m args below meth c H locs ls Q C hH hz hS hl h1 h2
  subst ho
  subst h0
  obtain ⟨c1, c2, c3, c4, c5, c6, c7, c8, c9, c10⟩ := id C
  refine j_size hH hz c9 hS (fun hsz => ?_)
  have hR : (j_rm d mc' ms').frames + 1 ≤ R.frames ∧ 8 + (y'.2.2.1 + 11) + (j_rm d mc' ms').locals ≤ R.locals := ⟨c8.1, by show 8 + (y'.2.2.1 + 11) + 64 * d ≤ R.locals; have := lk.2.2.2.2.2.2; omega⟩
  have hf : nc + mc' ≤ R.cells ∧ ns + ms' ≤ R.slots := ⟨by omega, by omega⟩
  have hws : GoodIn GW (Cond.code y'.1 y'.2.1 y'.2.2.1 y'.2.2.2 :: GW) := gw_GoodIn lk.2.2.2.2.1 (fun _ h => h)
  have hG : GoodIn GW (wsV y.1.cls idx y'.1.cls y'.1 (Cond.code y'.1 y'.2.1 y'.2.2.1 y'.2.2.2 :: GW)) := by
    intro w hw
    rcases List.mem_append.mp hw with hw | hw
    · simp only [List.mem_cons, List.not_mem_nil, or_false] at hw
      rcases hw with rfl | rfl | rfl | rfl
      · exact gw_g1 lk.1
      · exact gw_g1 lk.2.1
      · exact gw_g1 lk.2.2.1
      · exact gw_g1 lk.2.2.2.1
    · exact hws w hw
  have hcw := cwV (R := R) n c5 hG rfl rfl rfl ⟨rfl, lk.2.2.2.2.2.1⟩ hR
  refine j_after (K' := K') (va_runV (As := As) (rest := S) ⟨c1, c2, c3, c4, c5⟩ (hM l) hcw ⟨j_blind G sh _ σ, va_recv c6.1 hH hci (j_W_at (shat_spec hrc)), j_pre c6 hH hsz hS⟩ rfl hn hl.1 rfl (lv_room hst) hd hf) hS (fun r sh' σ' H1 locs1 k1 k2 k3 => ?_)
  have := hlen r sh' σ' k1
  exact h r sh' σ' k1 p l e R s m args below meth c H1 locs1 ls Q C k2 (by omega) k3 hl hmc hms
theorem J_callT {own : String} {idx n : Nat} {i : Nat} (As : List Value) (lk : LV own idx y' n) (ho : own = y.1.cls) (hi : i < 2) (hcs : y'.1.cls = "java/lang/String") (hM : JM G y' d mc' ms' sh (.ref (G.2.2.2.1 i) :: As) σ K') (hlen : ∀ r sh' σ', K' r sh' σ' → sh'.length = sh.length + mc') (hmc : nc + mc' ≤ mc) (hms : ns + ms' ≤ ms) (hn : As.length = n) (h0 : S0 = As.reverse ++ .ref (G.2.2.2.1 i) :: S) (hst : (S.map fun v => v.category).sum ≤ 8) (hd : decode y.2.1 pc = .ok (.invokevirtual idx, 3)) (h : ∀ r sh' σ', K' r sh' σ' → J G y (d + 1) mc ms sh' (nc + mc') (ns + ms') (pc + 3) L (r.toList ++ S) σ' K) : J G y (d + 1) mc ms sh nc ns pc L S0 σ K := by
  intro p l e R s m args below meth c H locs ls Q C hH hz hS hl h1 h2
  subst ho
  subst h0
  obtain ⟨c1, c2, c3, c4, c5, c6, c7, c8, c9, c10⟩ := id C
  refine j_size hH hz c9 hS (fun hsz => ?_)
  have hR : (j_rm d mc' ms').frames + 1 ≤ R.frames ∧ 8 + (y'.2.2.1 + 11) + (j_rm d mc' ms').locals ≤ R.locals := ⟨c8.1, by show 8 + (y'.2.2.1 + 11) + 64 * d ≤ R.locals; have := lk.2.2.2.2.2.2; omega⟩
  have hf : nc + mc' ≤ R.cells ∧ ns + ms' ≤ R.slots := ⟨by omega, by omega⟩
  have hws : GoodIn GW (Cond.code y'.1 y'.2.1 y'.2.2.1 y'.2.2.2 :: GW) := gw_GoodIn lk.2.2.2.2.1 (fun _ h => h)
  have hG : GoodIn GW (wsV y.1.cls idx y'.1.cls y'.1 (Cond.code y'.1 y'.2.1 y'.2.2.1 y'.2.2.2 :: GW)) := by
    intro w hw
    rcases List.mem_append.mp hw with hw | hw
    · simp only [List.mem_cons, List.not_mem_nil, or_false] at hw
      rcases hw with rfl | rfl | rfl | rfl
      · exact gw_g1 lk.1
      · exact gw_g1 lk.2.1
      · exact gw_g1 lk.2.2.1
      · exact gw_g1 lk.2.2.2.1
    · exact hws w hw
  have hcw := cwV (R := R) n c5 hG rfl rfl rfl ⟨rfl, lk.2.2.2.2.2.1⟩ hR
  refine j_after (K' := K') (va_runV (As := As) (rest := S) ⟨c1, c2, c3, c4, c5⟩ (hM l) hcw ⟨j_blind G sh _ σ, by rw [hcs]; exact vk_recv c6.2.2.2.1 hi hS, j_pre c6 hH hsz hS⟩ rfl hn hl.1 rfl (lv_room hst) hd hf) hS (fun r sh' σ' H1 locs1 k1 k2 k3 => ?_)
  have := hlen r sh' σ' k1
  exact h r sh' σ' k1 p l e R s m args below meth c H1 locs1 ls Q C k2 (by omega) k3 hl hmc hms
theorem J_callS {own : String} {idx n : Nat} (As : List Value) (lk : LSt own idx y' n) (ho : own = y.1.cls) (hM : JM G y' d mc' ms' sh As σ K') (hlen : ∀ r sh' σ', K' r sh' σ' → sh'.length = sh.length + mc') (hmc : nc + mc' ≤ mc) (hms : ns + ms' ≤ ms) (hn : As.length = n) (h0 : S0 = As.reverse ++ S) (hst : (S.map fun v => v.category).sum ≤ 8) (hd : decode y.2.1 pc = .ok (.invokestatic idx, 3)) (h : ∀ r sh' σ', K' r sh' σ' → J G y (d + 1) mc ms sh' (nc + mc') (ns + ms') (pc + 3) L (r.toList ++ S) σ' K) : J G y (d + 1) mc ms sh nc ns pc L S0 σ K := by
  intro p l e R s m args below meth c H locs ls Q C hH hz hS hl h1 h2
  subst ho
  subst h0
  obtain ⟨c1, c2, c3, c4, c5, c6, c7, c8, c9, c10⟩ := id C
  refine j_size hH hz c9 hS (fun hsz => ?_)
  have hR : (j_rm d mc' ms').frames + 1 ≤ R.frames ∧ 8 + (y'.2.2.1 + 11) + (j_rm d mc' ms').locals ≤ R.locals := ⟨c8.1, by show 8 + (y'.2.2.1 + 11) + 64 * d ≤ R.locals; have := lk.2.2.2.2.2; omega⟩
  have hf : nc + mc' ≤ R.cells ∧ ns + ms' ≤ R.slots := ⟨by omega, by omega⟩
  have hws : GoodIn GW (Cond.code y'.1 y'.2.1 y'.2.2.1 y'.2.2.2 :: GW) := gw_GoodIn lk.2.2.2.1 (fun _ h => h)
  have hG : GoodIn GW (va_wsS y.1.cls idx y'.1 (Cond.code y'.1 y'.2.1 y'.2.2.1 y'.2.2.2 :: GW)) := by
    intro w hw
    rcases List.mem_append.mp hw with hw | hw
    · simp only [List.mem_cons, List.not_mem_nil, or_false] at hw
      rcases hw with rfl | rfl | rfl
      · exact gw_g1 lk.1
      · exact gw_g1 lk.2.1
      · exact gw_g1 lk.2.2.1
    · exact hws w hw
  have hcw := va_cwS (R := R) n c5 hG rfl rfl rfl lk.2.2.2.2.1 hR
  refine j_after (K' := K') (va_runS (As := As) (rest := S) ⟨c1, c2, c3, c4, c5⟩ (hM l) hcw ⟨j_blind G sh _ σ, j_pre c6 hH hsz hS⟩ rfl hn hl.1 rfl (lv_room hst) hd hf) hS (fun r sh' σ' H1 locs1 k1 k2 k3 => ?_)
  have := hlen r sh' σ' k1
  exact h r sh' σ' k1 p l e R s m args below meth c H1 locs1 ls Q C k2 (by omega) k3 hl hmc hms
theorem J_callSN {own : String} {idx n : Nat} (As : List Value) (lk : LSN own idx y' n) (ho : own = y.1.cls) (hM : JM G y' d mc' ms' sh As σ K') (hlen : ∀ r sh' σ', K' r sh' σ' → sh'.length = sh.length + mc') (hmc : nc + mc' ≤ mc) (hms : ns + ms' ≤ ms) (hn : As.length = n) (h0 : S0 = As.reverse ++ S) (hst : (S.map fun v => v.category).sum ≤ 8) (hd : decode y.2.1 pc = .ok (.invokestatic idx, 3)) (h : ∀ r sh' σ', K' r sh' σ' → J G y (d + 1) mc ms sh' (nc + mc') (ns + ms') (pc + 3) L (r.toList ++ S) σ' K) : J G y (d + 1) mc ms sh nc ns pc L S0 σ K := by
  intro p l e R s m args below meth c H locs ls Q C hH hz hS hl h1 h2
  subst ho
  subst h0
  obtain ⟨c1, c2, c3, c4, c5, c6, c7, c8, c9, c10⟩ := id C
  refine j_size hH hz c9 hS (fun hsz => ?_)
  have hR : (j_rm d mc' ms').frames + 1 ≤ R.frames ∧ 8 + (y'.2.2.1 + 11) + (j_rm d mc' ms').locals ≤ R.locals := ⟨c8.1, by show 8 + (y'.2.2.1 + 11) + 64 * d ≤ R.locals; have := lk.2.2.2.2.2; omega⟩
  have hf : nc + mc' ≤ R.cells ∧ ns + ms' ≤ R.slots := ⟨by omega, by omega⟩
  have hws : GoodIn GW (Cond.code y'.1 y'.2.1 y'.2.2.1 y'.2.2.2 :: GW) := gw_GoodIn lk.2.2.2.1 (fun _ h => h)
  obtain ⟨host, hnw⟩ := lk.1
  have hcw := And.intro (va_cnB (R := R) n c5 hws rfl rfl rfl (c6.2.1 _ hnw) (c5 _ lk.2.2.1) lk.2.2.2.2.1 hR) (And.intro (c5 _ lk.2.1) trivial)
  refine j_after (K' := K') (va_runSN (As := As) (rest := S) ⟨c1, c2, c3, c4, c5⟩ (hM l) hcw ⟨j_blind G sh _ σ, j_pre c6 hH hsz hS⟩ rfl hn hl.1 rfl (lv_room hst) hd hf) hS (fun r sh' σ' H1 locs1 k1 k2 k3 => ?_)
  have := hlen r sh' σ' k1
  exact h r sh' σ' k1 p l e R s m args below meth c H1 locs1 ls Q C k2 (by omega) k3 hl hmc hms
theorem J_callI {own : String} {idx n : Nat} {o : Nat} (As : List Value) (lk : LI own idx y' n) (ho : own = y.1.cls) (hM : JM G y' d mc' ms' sh (.ref (G.1 + off o) :: As) σ K') (hlen : ∀ r sh' σ', K' r sh' σ' → sh'.length = sh.length + mc') (hmc : nc + mc' ≤ mc) (hms : ns + ms' ≤ ms) (hn : As.length = n) (h0 : S0 = As.reverse ++ .ref (G.1 + off o) :: S) (hst : (S.map fun v => v.category).sum ≤ 8) (hd : decode y.2.1 pc = .ok (.invokespecial idx, 3)) (h : ∀ r sh' σ', K' r sh' σ' → J G y (d + 1) mc ms sh' (nc + mc') (ns + ms') (pc + 3) L (r.toList ++ S) σ' K) : J G y (d + 1) mc ms sh nc ns pc L S0 σ K := by
  intro p l e R s m args below meth c H locs ls Q C hH hz hS hl h1 h2
  subst ho
  subst h0
  obtain ⟨c1, c2, c3, c4, c5, c6, c7, c8, c9, c10⟩ := id C
  refine j_size hH hz c9 hS (fun hsz => ?_)
  have hR : (j_rm d mc' ms').frames + 1 ≤ R.frames ∧ 8 + (y'.2.2.1 + 11) + (j_rm d mc' ms').locals ≤ R.locals := ⟨c8.1, by show 8 + (y'.2.2.1 + 11) + 64 * d ≤ R.locals; have := lk.2.2.2.2.2.2.2; omega⟩
  have hf : nc + mc' ≤ R.cells ∧ ns + ms' ≤ R.slots := ⟨by omega, by omega⟩
  have hws : GoodIn GW (Cond.code y'.1 y'.2.1 y'.2.2.1 y'.2.2.2 :: GW) := gw_GoodIn lk.2.2.2.2.2.1 (fun _ h => h)
  have hnone := lk.2.2.2.1
  have hcw := cwI (R := R) (maxL := y'.2.2.1) (bytes := y'.2.1) n c5 hws (by rw [hnone]) rfl rfl (c5 _ lk.2.2.2.2.1) (c5 _ lk.1) (c5 _ lk.2.1) lk.2.2.1 lk.2.2.2.2.2.2.1 hR
  refine j_after (K' := K') (va_runI (As := As) (rest := S) ⟨c1, c2, c3, c4, c5⟩ (hM l) hcw ⟨j_blind G sh _ σ, j_pre c6 hH hsz hS⟩ rfl hn hl.1 rfl (lv_room hst) hd hf) hS (fun r sh' σ' H1 locs1 k1 k2 k3 => ?_)
  have := hlen r sh' σ' k1
  exact h r sh' σ' k1 p l e R s m args below meth c H1 locs1 ls Q C k2 (by omega) k3 hl hmc hms
theorem J_callIN {own : String} {idx n : Nat} {o : Nat} (As : List Value) (lk : LIN own idx y' n) (ho : own = y.1.cls) (hM : JM G y' d mc' ms' sh (.ref (G.1 + off o) :: As) σ K') (hlen : ∀ r sh' σ', K' r sh' σ' → sh'.length = sh.length + mc') (hmc : nc + mc' ≤ mc) (hms : ns + ms' ≤ ms) (hn : As.length = n) (h0 : S0 = As.reverse ++ .ref (G.1 + off o) :: S) (hst : (S.map fun v => v.category).sum ≤ 8) (hd : decode y.2.1 pc = .ok (.invokespecial idx, 3)) (h : ∀ r sh' σ', K' r sh' σ' → J G y (d + 1) mc ms sh' (nc + mc') (ns + ms') (pc + 3) L (r.toList ++ S) σ' K) : J G y (d + 1) mc ms sh nc ns pc L S0 σ K := by
  intro p l e R s m args below meth c H locs ls Q C hH hz hS hl h1 h2
  subst ho
  subst h0
  obtain ⟨c1, c2, c3, c4, c5, c6, c7, c8, c9, c10⟩ := id C
  refine j_size hH hz c9 hS (fun hsz => ?_)
  have hR : (j_rm d mc' ms').frames + 1 ≤ R.frames ∧ 8 + (y'.2.2.1 + 11) + (j_rm d mc' ms').locals ≤ R.locals := ⟨c8.1, by show 8 + (y'.2.2.1 + 11) + 64 * d ≤ R.locals; have := lk.2.2.2.2.2.2.2; omega⟩
  have hf : nc + mc' ≤ R.cells ∧ ns + ms' ≤ R.slots := ⟨by omega, by omega⟩
  have hws : GoodIn GW (Cond.code y'.1 y'.2.1 y'.2.2.1 y'.2.2.2 :: GW) := gw_GoodIn lk.2.2.2.2.2.1 (fun _ h => h)
  obtain ⟨host, hnw⟩ := lk.1
  have hnone := lk.2.2.2.1
  have hcw := And.intro (va_cnB (R := R) (ret := none) (maxL := y'.2.2.1) (bytes := y'.2.1) n c5 hws (by rw [hnone]) rfl rfl (c6.2.1 _ hnw) (c5 _ lk.2.2.2.2.1) lk.2.2.2.2.2.2.1 hR) (And.intro lk.2.2.1 (c5 _ lk.2.1))
  refine j_after (K' := K') (va_runIN (As := As) (rest := S) ⟨c1, c2, c3, c4, c5⟩ (hM l) hcw ⟨j_blind G sh _ σ, j_pre c6 hH hsz hS⟩ rfl hn hl.1 rfl (lv_room hst) hd hf) hS (fun r sh' σ' H1 locs1 k1 k2 k3 => ?_)
  have := hlen r sh' σ' k1
  exact h r sh' σ' k1 p l e R s m args below meth c H1 locs1 ls Q C k2 (by omega) k3 hl hmc hms
end JInv
