/-! constructors: the cells that are made lie behind those that are there; pre: the earlier ones, tl: the latest -/
section JNew
variable {G : JG} {y : MI} {d mc ms : Nat} {nc ns pc : Nat} {L : List (Option Value)} {S : List Value} {σ : Mem} {K : JK} {pre tl tl' : List Shp} {o0 : Nat}
theorem sh_at {o j : Nat} (hp : pre.length = o0) (ho : off o = o0 + j) : (pre ++ tl)[off o]? = tl[j]? := by
  rw [ho, List.getElem?_append_right (by omega)]
  congr 1
  omega
theorem shat_at {o j : Nat} {x : Shp} (hp : pre.length = o0) (ho : off o = o0 + j) (hi : idn (o0 + j) = o) (hx : tl[j]? = some x) : shat (pre ++ tl) o = some x := by
  unfold shat
  rw [if_pos (by rw [ho]; exact hi), sh_at hp ho, hx]
theorem fkind_at {o j ci k t : Nat} {fk : List Nat} (hp : pre.length = o0) (ho : off o = o0 + j) (hi : idn (o0 + j) = o) (hx : tl[j]? = some (.inr (ci, fk))) (hk : fk[k]? = some t) : fkind (pre ++ tl) o k = some (ci, t) := by
  unfold fkind
  rw [shat_at hp ho hi hx]
  simp [hk]
theorem akind_at {o j k n : Nat} (hp : pre.length = o0) (ho : off o = o0 + j) (hi : idn (o0 + j) = o) (hx : tl[j]? = some (.inl (k, n))) : akind (pre ++ tl) o = some (k, n) := by
  unfold akind
  rw [shat_at hp ho hi hx]
theorem j_W_snoc (G : JG) (sh : List Shp) (x : Shp) (σ : Mem) : j_W G (sh ++ [x]) σ = j_W G sh σ ++ [(G.1 + sh.length, j_cell G x (σ.1 (idn sh.length)) (σ.2 (idn sh.length)))] := by
  unfold j_W
  rw [List.mapIdx_append]
  simp
def Zer (σ : Mem) (o : Nat) : Prop := σ.1 o = (fun _ => 0) ∧ σ.2 o = (fun _ => 0)
section JFresh
variable {p : Program} {l : Launch} {e : Env} {R : Room} {s : State} {m : MethodId} {args : Array Value} {below : List Frame} {meth : Method} {c : Code} {H : Heap} {locs : List Loc} {cells slots : Nat} {Q : State → Prop}
theorem j_fresh {G : JG} {sh : List Shp} {σ : Mem} {q : Nat} {x : va_E} {g : JFrame} (hP : va_P G.2.1 vwCl (j_W G sh σ ++ [(q, x)]) H) (hD : va_D (j_A G) (j_W G sh σ ++ [(q, x)])) (hz : s.heap.size + cells = G.1 + (sh.length + 1)) (k : q = G.1 + sh.length → W p l e R s m args below meth c H locs cells slots Q g) : W p l e R s m args below meth c H locs cells slots Q g := by
  intro T hT X
  have h1 : T.heap.size ≤ s.heap.size + cells := X.same.2.2.1
  rw [hT] at h1
  have hl : (j_W G sh σ).length = sh.length := by unfold j_W; rw [List.length_mapIdx]
  have hq : (j_W G sh σ ++ [(q, x)])[sh.length]? = some (q, x) := by
    rw [List.getElem?_append_right (by omega), hl]
    simp
  have h2 : q < H.size := (hP _ _ hq).lt
  have h3 : G.1 ≤ q := hD.2 _ _ hq
  refine k ?_ T hT X
  rcases Nat.lt_or_ge q (G.1 + sh.length) with hlt | hge
  · exfalso
    have hi : q - G.1 < sh.length := by omega
    have he : (j_W G sh σ ++ [(q, x)])[q - G.1]? = some (G.1 + (q - G.1), j_cell G sh[q - G.1] (σ.1 (idn (q - G.1))) (σ.2 (idn (q - G.1)))) := by
      rw [List.getElem?_append_left (by omega)]
      unfold j_W
      rw [List.getElem?_mapIdx, List.getElem?_eq_getElem hi]
      rfl
    have := hD.1 _ _ _ _ he hq (by show G.1 + (q - G.1) = q; omega)
    omega
  · omega
end JFresh
def k_ty : FieldType → Nat
  | .long => 1
  | .object _ => 2
  | .array _ => 2
  | _ => 0
theorem k_ty_def (β : Nat) (ty : FieldType) (h : ty ≠ .float ∧ ty ≠ .double) : defaultValue ty = j_val β (k_ty ty) 0 0 := by
  cases ty <;> first | rfl | exact absurd rfl h.1 | exact absurd rfl h.2
/-- a class of the tables that can be made -/
def NL (own : String) (idx ci N : Nat) (dk : List Nat) : Prop := ∃ (C : String) (T : u_T) (ty0 : Nat → FieldType), vwCl[ci]? = some (C, T, N) ∧ (∀ w ∈ u_ws C T N, w ∈ GW) ∧ (∀ k, k < N → parseFieldDescriptor (T k).2.2.1 = some (ty0 k)) ∧ Cond.classLink own idx C ∈ GW ∧ Cond.instantiable C N ∈ GW ∧ Cond.initialized C ∈ GW ∧ (∀ k, k < N → dk[k]? = some (k_ty (ty0 k)) ∧ (ty0 k ≠ .float ∧ ty0 k ≠ .double))
theorem J_new {own : String} {idx ci N o j : Nat} {dk : List Nat} (nl : NL own idx ci N dk) (ho : own = y.1.cls) (hp : pre.length = o0) (hj : tl.length = j) (hof : off o = o0 + j) (hid : idn (o0 + j) = o) (hZ : Zer σ o) (hm : nc + 1 ≤ mc) (hm2 : ns + N ≤ ms) (hd : decode y.2.1 pc = .ok (.new idx, 3)) (htl : tl ++ [.inr (ci, dk)] = tl') (h : J G y d mc ms (pre ++ tl') (nc + 1) (ns + N) (pc + 3) L (.ref (G.1 + off o) :: S) σ K) : J G y d mc ms (pre ++ tl) nc ns pc L S σ K := by
  intro p l e R s m args below meth c H locs ls Q C hH hz hS hl h1 h2
  subst ho
  obtain ⟨Cn, T, ty0, g1, g2, g3, g4, g5, g6, g7⟩ := nl
  obtain ⟨c1, c2, c3, c4, c5, c6, c7, c8, c9, c10⟩ := id C
  have hlen : (pre ++ tl).length = o0 + j := by rw [List.length_append]; omega
  refine va_new (ci := ci) (fs := dk.mapIdx (fun k t => j_val G.1 t 0 0)) (C := Cn) (T := T) (N := N) c1 c2 c5 g2 ty0 g3 c4 (c5 _ g4) (c5 _ g5) (c5 _ g6) c6.1 hH (j_D G _ σ) hS (fun q hq => Nat.le_trans c9 hq) g1 (fun k hk => ?_) (by omega) (by omega) hd (fun q H1 hP1 hD1 hS1 => ?_)
  · obtain ⟨e1, e2⟩ := g7 k hk
    rw [k_ty_def G.1 _ e2]
    simp [vp_V, List.getD_eq_getElem?_getD, List.getElem?_mapIdx, e1]
  · refine j_fresh hP1 hD1 (by omega) (fun hq => ?_)
    have hc : (.inr (ci, dk.mapIdx (fun k t => j_val G.1 t 0 0)) : va_E) = j_cell G (.inr (ci, dk)) (σ.1 (idn (pre ++ tl).length)) (σ.2 (idn (pre ++ tl).length)) := by
      rw [hlen, hid, hZ.1, hZ.2]
      rfl
    rw [hq, hc, ← j_W_snoc, List.append_assoc, htl] at hP1
    have hl2 : (pre ++ tl').length = o0 + j + 1 := by rw [← htl, ← List.append_assoc, List.length_append, hlen]; rfl
    rw [hq, hlen, ← hof]
    exact h p l e R s m args below meth c H1 locs ls Q C hP1 (by omega) hS1 hl hm hm2
def atN : ArrayType → Nat
  | .int => 0
  | .byte => 1
  | .boolean => 2
  | _ => 3
theorem J_newa {at' : ArrayType} {k o j N : Nat} {n : Int32} (hat : (at' = .int ∧ k = 0) ∨ (at' = .byte ∧ k = 1) ∨ (at' = .boolean ∧ k = 2) ∨ (at' = .long ∧ k = 3)) (hac : Cond.arrayClass (newarray.typeOf at') ∈ GW) (hn : ¬ n < 0) (hN : n.toNatClampNeg = N) (hb : N ≤ 100000) (hp : pre.length = o0) (hj : tl.length = j) (hof : off o = o0 + j) (hid : idn (o0 + j) = o) (hZ : Zer σ o) (hm : nc + 1 ≤ mc) (hm2 : ns + N ≤ ms) (hd : decode y.2.1 pc = .ok (.newarray at', 2)) (htl : tl ++ [.inl (k, N)] = tl') (h : J G y d mc ms (pre ++ tl') (nc + 1) (ns + N) (pc + 2) L (.ref (G.1 + off o) :: S) σ K) : J G y d mc ms (pre ++ tl) nc ns pc L (.int n :: S) σ K := by
  intro p l e R s m args below meth c H locs ls Q C hH hz hS hl h1 h2
  obtain ⟨c1, c2, c3, c4, c5, c6, c7, c8, c9, c10⟩ := id C
  have hlen : (pre ++ tl).length = o0 + j := by rw [List.length_append]; omega
  have hb2 : N * componentBytes (newarray.typeOf at') ≤ 536870912 := by
    have : componentBytes (newarray.typeOf at') ≤ 8 := by rcases hat with ⟨rfl, -⟩ | ⟨rfl, -⟩ | ⟨rfl, -⟩ | ⟨rfl, -⟩ <;> decide
    calc N * componentBytes (newarray.typeOf at') ≤ 100000 * 8 := Nat.mul_le_mul hb this
      _ ≤ 536870912 := by decide
  refine va_newa (a0 := (N, j_row G k (fun _ => 0) (fun _ => 0))) c1 c2 (c5 _ hac) rfl c6.1 hH (j_D G _ σ) hS (fun q hq => Nat.le_trans c9 hq) (fun cA => by rcases hat with ⟨rfl, rfl⟩ | ⟨rfl, rfl⟩ | ⟨rfl, rfl⟩ | ⟨rfl, rfl⟩ <;> rfl) hn hN hb2 (by omega) (by omega) hd (fun q cA H1 hK1 hP1 hD1 hS1 => ?_)
  refine j_fresh hP1 hD1 (by omega) (fun hq => ?_)
  have hcA : cA = G.2.2.1 k := by
    have e1 := (hK1.2 5 (cA, newarray.typeOf at') rfl).2
    have e2 : ∃ ty, (j_tys G)[k]? = some (G.2.2.1 k, ty) ∧ ty = newarray.typeOf at' := by rcases hat with ⟨rfl, rfl⟩ | ⟨rfl, rfl⟩ | ⟨rfl, rfl⟩ | ⟨rfl, rfl⟩ <;> exact ⟨_, rfl, rfl⟩
    obtain ⟨ty, e3, rfl⟩ := e2
    have e4 := (c6.1.2 k _ e3).2
    rcases hat with ⟨rfl, rfl⟩ | ⟨rfl, rfl⟩ | ⟨rfl, rfl⟩ | ⟨rfl, rfl⟩ <;> exact Option.some.inj (e1.symm.trans e4)
  have hc : (.inl (cA, N, j_row G k (fun _ => 0) (fun _ => 0)) : va_E) = j_cell G (.inl (k, N)) (σ.1 (idn (pre ++ tl).length)) (σ.2 (idn (pre ++ tl).length)) := by
    rw [hlen, hid, hZ.1, hZ.2, hcA]
    rfl
  rw [hq, hc, ← j_W_snoc, List.append_assoc, htl] at hP1
  have hl2 : (pre ++ tl').length = o0 + j + 1 := by rw [← htl, ← List.append_assoc, List.length_append, hlen]; rfl
  rw [hq, hlen, ← hof]
  exact h p l e R s m args below meth c H1 locs ls Q C hP1 (by omega) hS1 hl hm hm2
theorem J_anew {own : String} {idx o j N : Nat} {n : Int32} (hcl : Cond.classLink own idx RX7 ∈ GW) (ho : own = y.1.cls) (hn : ¬ n < 0) (hN : n.toNatClampNeg = N) (hb : N ≤ 100000) (hp : pre.length = o0) (hj : tl.length = j) (hof : off o = o0 + j) (hid : idn (o0 + j) = o) (hZ : Zer σ o) (hm : nc + 1 ≤ mc) (hm2 : ns + N ≤ ms) (hd : decode y.2.1 pc = .ok (.anewarray idx, 3)) (htl : tl ++ [.inl (4, N)] = tl') (h : J G y d mc ms (pre ++ tl') (nc + 1) (ns + N) (pc + 3) L (.ref (G.1 + off o) :: S) σ K) : J G y d mc ms (pre ++ tl) nc ns pc L (.int n :: S) σ K := by
  intro p l e R s m args below meth c H locs ls Q C hH hz hS hl h1 h2
  subst ho
  obtain ⟨c1, c2, c3, c4, c5, c6, c7, c8, c9, c10⟩ := id C
  have hlen : (pre ++ tl).length = o0 + j := by rw [List.length_append]; omega
  refine va_newq c1 c2 c4 (c5 _ hcl) c6.2.2.2.2.2.2.1 c6.1 hH (j_D G _ σ) hS (fun q hq => Nat.le_trans c9 hq) hn hN (by omega) (by omega) (by omega) hd (fun q cA H1 hK1 hP1 hD1 hS1 => ?_)
  refine j_fresh hP1 hD1 (by omega) (fun hq => ?_)
  have hcA : cA = G.2.2.1 4 := by
    obtain ⟨kA, comp, a1, a2, a3, a4⟩ := (hK1.2 5 (cA, .object RX7) rfl).2
    obtain ⟨kA', comp', b1, b2, b3, b4⟩ := (c6.1.2 4 _ rfl).2
    exact Option.some.inj (a4.symm.trans b4)
  have hc : (.inl (cA, N, .inr (.inr (.inr (.inr (fun _ => none))))) : va_E) = j_cell G (.inl (4, N)) (σ.1 (idn (pre ++ tl).length)) (σ.2 (idn (pre ++ tl).length)) := by
    rw [hlen, hid, hZ.1, hZ.2, hcA]
    rfl
  rw [hq, hc, ← j_W_snoc, List.append_assoc, htl] at hP1
  have hl2 : (pre ++ tl').length = o0 + j + 1 := by rw [← htl, ← List.append_assoc, List.length_append, hlen]; rfl
  rw [hq, hlen, ← hof]
  exact h p l e R s m args below meth c H1 locs ls Q C hP1 (by omega) hS1 hl hm hm2
/-- a final reference is set, once: from now on it is told by the shape -/
theorem J_putF {own : String} {idx ci k o q j : Nat} {fk : List Nat} {ty : FieldType} (fl : FL own idx ci k ty true) (ho : own = y.1.cls) (hci : (vwCl[ci]?).map (·.1) = some own) (hin : y.1.name = "<init>") (hp : pre.length = o0) (hof : off o = o0 + j) (hid : idn (o0 + j) = o) (hx : tl[j]? = some (.inr (ci, fk))) (hk : k < fk.length) (hn : ∀ a, narrow ty (.ref a) = .ref a) (hfit : ∀ a, fits ty (.ref a) = true) (hd : decode y.2.1 pc = .ok (.putfield idx, 3)) (htl : tl.set j (.inr (ci, fk.set k (q + 3))) = tl') (h : J G y d mc ms (pre ++ tl') nc ns (pc + 3) L S σ K) : J G y d mc ms (pre ++ tl) nc ns pc L (.ref (G.1 + off q) :: .ref (G.1 + off o) :: S) σ K := by
  intro p l e R s m args below meth c H locs ls Q C hH hz hS hl h1 h2
  subst ho
  obtain ⟨Cn, T, N, ty0, g1, g2, g3, g4, g5, g6, g7, g8, g9⟩ := fl
  obtain ⟨c1, c2, c3, c4, c5, c6, c7, c8, c9, c10⟩ := id C
  have hs : (pre ++ tl)[off o]? = some (.inr (ci, fk)) ∧ idn (off o) = o := ⟨by rw [sh_at hp hof]; exact hx, by rw [hof]; exact hid⟩
  have hCn : Cn = y.1.cls := by rw [g1] at hci; exact Option.some.inj hci
  refine va_putF (D := G.2.1) (ci := ci) (C := Cn) (T := T) (N := N) (ty := ty) c1 c2 c5 g4 ty0 g5 g6 c4 c6.1 hH (j_D G _ σ) hS (off o) (j_W_at hs) g1 k g2 (c5 _ g3) (fun _ h9 => h9) g8 (c7 hin) (by rw [g9, hCn]) (by rw [g5 k g2, g7]) (hn _) (hfit _) (by rw [List.length_mapIdx]; exact hk) hd (fun H1 locs1 hP1 hD1 hS1 => ?_)
  have hl2 : (pre ++ tl').length = (pre ++ tl).length := by rw [← htl, List.length_append, List.length_append, List.length_set]
  have hjl : j < tl.length := (List.getElem?_eq_some_iff.mp hx).1
  have hw : (j_W G (pre ++ tl) σ).set (off o) (G.1 + off o, .inr (ci, (fk.mapIdx (fun k t => j_val G.1 t (σ.1 o k) (σ.2 o k))).set k (.ref (G.1 + off q)))) = j_W G (pre ++ tl') σ := by
    apply List.ext_getElem?
    intro i
    by_cases hi : i = off o
    · subst hi
      rw [List.getElem?_set_self (by unfold j_W; rw [List.length_mapIdx]; exact (List.getElem?_eq_some_iff.mp hs.1).1)]
      have h9 : (pre ++ tl')[off o]? = some (.inr (ci, fk.set k (q + 3))) ∧ idn (off o) = o := ⟨by rw [sh_at hp hof, ← htl, List.getElem?_set_self hjl], hs.2⟩
      rw [j_W_at h9]
      congr 4
      apply List.ext_getElem?
      intro a
      by_cases ha : a = k
      · subst ha
        rw [List.getElem?_set_self (by rw [List.length_mapIdx]; exact hk), List.getElem?_mapIdx, List.getElem?_set_self hk]
        rfl
      · rw [List.getElem?_set_ne (Ne.symm ha), List.getElem?_mapIdx, List.getElem?_mapIdx, List.getElem?_set_ne (Ne.symm ha)]
    · rw [List.getElem?_set_ne (Ne.symm hi)]
      unfold j_W
      rw [List.getElem?_mapIdx, List.getElem?_mapIdx, ← htl]
      congr 1
      by_cases hlt : i < pre.length
      · rw [List.getElem?_append_left hlt, List.getElem?_append_left hlt]
      · rw [List.getElem?_append_right (by omega), List.getElem?_append_right (by omega), List.getElem?_set_ne (by omega)]
  rw [hw] at hP1
  exact h p l e R s m args below meth c H1 locs1 ls Q C hP1 (by rw [hl2]; exact hz) hS1 hl h1 h2
/-- a row of states gets one -/
theorem J_aast {o j n q jq : Nat} {i : Int32} {fk : List Nat} (hp : pre.length = o0) (hof : off o = o0 + j) (hid : idn (o0 + j) = o) (hx : tl[j]? = some (.inl (4, n))) (hofq : off q = o0 + jq) (hidq : idn (o0 + jq) = q) (hxq : tl[jq]? = some (.inr (7, fk))) (hq0 : 0 < q) (hq : q < 2 ^ 31) (hi : vp_in i n) (hd : decode y.2.1 pc = .ok (.aastore, 1)) (h : J G y d mc ms (pre ++ tl) nc ns (pc + 1) L S (sI σ o i.toNatClampNeg (nI q)) K) : J G y d mc ms (pre ++ tl) nc ns pc L (.ref (G.1 + off q) :: .int i :: .ref (G.1 + off o) :: S) σ K := by
  intro p l e R s m args below meth c H locs ls Q C hH hz hS hl h1 h2
  obtain ⟨c1, c2, c3, c4, c5, c6, c7, c8, c9, c10⟩ := id C
  have hs : (pre ++ tl)[off o]? = some (.inl (4, n)) ∧ idn (off o) = o := ⟨by rw [sh_at hp hof]; exact hx, by rw [hof]; exact hid⟩
  have hsq : (pre ++ tl)[off q]? = some (.inr (7, fk)) ∧ idn (off q) = q := ⟨by rw [sh_at hp hofq]; exact hxq, by rw [hofq]; exact hidq⟩
  refine va_astq (D := G.2.1) (r := (RX7, TX7, 8)) c1 c2 c6.1 hH (j_D G _ σ) hS (off o) 4 (off q) 7 (f := fun a => rid G.1 (σ.1 o a)) (j_W_at hs) rfl (j_W_at hsq) rfl hi hd (fun H1 locs1 hP1 hD1 hS1 => ?_)
  rw [j_W_set (σ := σ) (σ' := sI σ o i.toNatClampNeg (nI q)) (h := .inl (4, n)) hs (by
    rw [j_cell, sI_at]
    show _ = (.inl (G.2.2.1 4, n, .inr (.inr (.inr (.inr (fun a => rid G.1 (upd (σ.1 o) i.toNatClampNeg (nI q) a)))))) : va_E)
    congr 7
    funext a
    unfold va_up upd
    by_cases ha : a = i.toNatClampNeg
    · rw [if_pos ha, if_pos ha, rid_nI hq0 hq]
    · rw [if_neg ha, if_neg ha]) (sI_ne σ o _ _) (fun _ _ => rfl)] at hP1
  exact h p l e R s m args below meth c H1 locs1 ls Q C hP1 hz hS1 hl h1 h2
def LO (own : String) (idx : Nat) : Prop := Cond.methodLink own idx objectInit ∈ GW ∧ Cond.instanceMethod objectInit ∈ GW ∧ Cond.code objectInit ⟨#[0xb1]⟩ 1 none ∈ GW
theorem J_obj {sh : List Shp} {own : String} {idx a : Nat} (lk : LO own idx) (ho : own = y.1.cls) (hst : (S.map fun v => v.category).sum ≤ 8) (hd : decode y.2.1 pc = .ok (.invokespecial idx, 3)) (h : J G y (d + 1) mc ms sh nc ns (pc + 3) L S σ K) : J G y (d + 1) mc ms sh nc ns pc L (.ref a :: S) σ K := by
  intro p l e R s m args below meth c H locs ls Q C hH hz hS hl h1 h2
  subst ho
  obtain ⟨c1, c2, c3, c4, c5, c6, c7, c8, c9, c10⟩ := id C
  refine W.objInit c1 c2 c4 (c5 _ lk.1) (c5 _ lk.2.1) (c5 _ lk.2.2) rfl (by rw [c3]; exact hl.1) rfl hd (by omega) (by have := lv_room (m := m) (pc := pc) (ls := ls) (rest := S) hst; show 2 * 0 + _ + 12 ≤ _; omega) ?_
  exact h p l e R s m args below meth c H locs ls Q C hH hz hS hl h1 h2
theorem J_ret {sh : List Shp} (hr : y.2.2.2 = none) (hd : decode y.2.1 pc = .ok (.return_, 1)) (hK : K none sh σ) : J G y d mc ms sh nc ns pc L [] σ K := by
  intro p l e R s m args below meth c H locs ls Q C hH hz hS hl h1 h2
  exact C.2.2.2.2.2.2.2.2.2 H locs ls pc [] none sh σ nc ns hK hH hS h1 h2 (Or.inr (Or.inl ⟨hr, hd, rfl, rfl⟩))
theorem J_slen {sh : List Shp} {v : Int32} (hv : nI G.2.2.2.2.2.2.1 = v) (hd : decode y.2.1 pc = .ok (.arraylength, 1)) (h : J G y d mc ms sh nc ns (pc + 1) L (.int v :: S) σ K) : J G y d mc ms sh nc ns pc L (.ref G.2.2.2.2.2.1 :: S) σ K := by
  intro p l e R s m args below meth c H locs ls Q C hH hz hS hl h1 h2
  obtain ⟨c1, c2, c3, c4, c5, c6, c7, c8, c9, c10⟩ := id C
  have e1 := c6.2.2.2.2.2.2.2
  subst hv
  exact va_slen c1 c2 e1.1 e1.2.2 (fun z : G.1 ≤ _ => absurd e1.2.1 (Nat.not_lt.mpr z)) hS hd (h p l e R s m args below meth c H locs ls Q C hH hz hS hl h1 h2)
theorem J_sld {sh : List Shp} {i : Int32} (hi : vp_in i G.2.2.2.2.2.2.1) (hd : decode y.2.1 pc = .ok (.iaload, 1)) (h : J G y d mc ms sh nc ns (pc + 1) L (.int (G.2.2.2.2.2.2.2 i.toNatClampNeg) :: S) σ K) : J G y d mc ms sh nc ns pc L (.int i :: .ref G.2.2.2.2.2.1 :: S) σ K := by
  intro p l e R s m args below meth c H locs ls Q C hH hz hS hl h1 h2
  obtain ⟨c1, c2, c3, c4, c5, c6, c7, c8, c9, c10⟩ := id C
  have e1 := c6.2.2.2.2.2.2.2
  exact va_sld c1 c2 e1.1 e1.2.2 (fun z : G.1 ≤ _ => absurd e1.2.1 (Nat.not_lt.mpr z)) hS hi hd (h p l e R s m args below meth c H locs ls Q C hH hz hS hl h1 h2)
end JNew
