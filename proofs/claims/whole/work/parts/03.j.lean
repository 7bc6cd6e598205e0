
def GW : List Cond := lw_tbl.filter goodWord
theorem gw_in {w : Cond} (h : w ∈ lw_tbl) (hg : goodWord w = true) : w ∈ GW := List.mem_filter.mpr ⟨h, hg⟩
theorem gw_t {w : Cond} (i : Nat) (h : (decide (tables_1[i]? = some w) && goodWord w) = true) : w ∈ GW := by
  simp only [Bool.and_eq_true, decide_eq_true_eq] at h
  exact gw_in (List.mem_append_right _ (List.mem_of_getElem? h.1)) h.2
theorem gw_s {w : Cond} (i : Nat) (h : (decide ((k2_sels lw_privs)[i]? = some w) && goodWord w) = true) : w ∈ GW := by
  simp only [Bool.and_eq_true, decide_eq_true_eq] at h
  exact gw_in (List.mem_append_left _ (List.mem_of_getElem? h.1)) h.2
theorem gw_good {w : Cond} (h : w ∈ GW) : w ∈ lw_tbl ∧ goodWord w = true := List.mem_filter.mp h
theorem gw_GoodIn {y : MethodName} {b : ByteArray} {n : Nat} {r : Option FieldType} (h : Cond.code y b n r ∈ GW) {big : List Cond} (hb : ∀ w ∈ GW, w ∈ big) : GoodIn big (Cond.code y b n r :: GW) := by
  intro w hw
  have hw2 : w ∈ GW := by
    rcases List.mem_cons.mp hw with e | e
    · rw [e]; exact h
    · exact e
  exact ⟨hb w hw2, good_of_word (gw_good hw2).2⟩
def j_tys (G : JG) : List (ClassId × FieldType) := [(G.2.2.1 0, .int), (G.2.2.1 1, .byte), (G.2.2.1 2, .boolean), (G.2.2.1 3, .long), (G.2.2.1 4, .object RX7)]
def j_tx (i : Nat) : String := if i = 0 then ";()<>=+-*/%" else "day person at open to chairs rest price coin debt law interest rain or and not owed date hour wet seat met proxy "
def j_ix (i : Nat) : Nat := if i = 0 then 54 else 65
def j_byt : List (List Int32) := [[59, 40, 41, 60, 62, 61, 43, 45, 42, 47, 37], [100, 97, 121, 32, 112, 101, 114, 115, 111, 110, 32, 97, 116, 32, 111, 112, 101, 110, 32, 116, 111, 32, 99, 104, 97, 105, 114, 115, 32, 114, 101, 115, 116, 32, 112, 114, 105, 99, 101, 32, 99, 111, 105, 110, 32, 100, 101, 98, 116, 32, 108, 97, 119, 32, 105, 110, 116, 101, 114, 101, 115, 116, 32, 114, 97, 105, 110, 32, 111, 114, 32, 97, 110, 100, 32, 110, 111, 116, 32, 111, 119, 101, 100, 32, 100, 97, 116, 101, 32, 104, 111, 117, 114, 32, 119, 101, 116, 32, 115, 101, 97, 116, 32, 109, 101, 116, 32, 112, 114, 111, 120, 121, 32]]
def j_len : List Nat := [11, 113]
/-- the links between nest mates -/
def NW : List Cond := tables_1.filter (fun w => match w with
  | .methodLinkNest _ _ _ _ => true
  | _ => false)
/-- what holds of a state's tables and of what lies below the base -/
def j_E (G : JG) (U : State) : Prop :=
  va_K G.2.1 vwCl (j_tys G) U ∧ (∀ w ∈ NW, va_Nw w U) ∧ (∀ i, i < 2 → vk_R RX9 (j_ix i) (j_tx i) (G.2.2.2.1 i) U) ∧ vk_S 2 j_len j_byt G.2.2.2.1 G.2.2.2.2.1 (j_A G) U U.heap ∧
  va_Z "java/lang/String" "COMPACT_STRINGS" "Z" (.int 1) (j_A G) U U.heap ∧ va_Zq "jdk/internal/util/Preconditions" "SIOOBE_FORMATTER" "Ljava/util/function/BiFunction;" (j_A G) U U.heap ∧ va_AO RX7 U ∧ va_X G.2.2.2.2.2.1 G.2.2.2.2.2.2.1 G.2.2.2.2.2.2.2 U U.heap ∧ G.2.2.2.2.2.1 < G.1 ∧ G.2.2.2.2.2.1 < U.heap.size
theorem NW_nest {w : Cond} (h : w ∈ NW) : ∃ a i x b, w = .methodLinkNest a i x b := by
  have h2 := (List.mem_filter.mp h).2
  split at h2
  · exact ⟨_, _, _, _, rfl⟩
  · cases h2
theorem j_E.warm {G : JG} {s U : State} (hW : s.WarmedH U.vm) (hq : ∀ a : Nat, a < s.heap.size → ¬ j_A G a → U.heap[a]? = s.heap[a]?) (h : j_E G s) : j_E G U := by
  obtain ⟨h1, h2, h3, h4, h5, h6, h7, h8, h9, h10⟩ := h
  have hb := hq _ h10 (fun z : G.1 ≤ _ => absurd h9 (Nat.not_lt.mpr z))
  refine ⟨h1.moved hW.alike, fun w hw => ?_, fun i hi => (h3 i hi).warm hW, (h4.moved hW.alike).kept hq, (h5.moved hW.alike).kept hq, (h6.moved hW.alike).kept hq, h7.moved hW.alike, (h8.moved hW.alike).kept hb, h9, ?_⟩
  rotate_left
  · obtain ⟨scr, q1, -⟩ := (h8.moved hW.alike).kept hb
    exact (Array.getElem?_eq_some_iff.mp q1).1
  obtain ⟨a, i, x, b, rfl⟩ := NW_nest hw
  exact (h2 _ hw).warmM hW
theorem j_E.same {G : JG} {s U : State} (hv : U.vm = s.vm) (hh : U.heap = s.heap) (h : j_E G s) : j_E G U := by
  obtain ⟨h1, h2, h3, h4, h5, h6, h7, h8, h9, h10⟩ := h
  have ha : s.vm.Alike U.vm := by rw [hv]; exact Vm.Alike.refl _
  refine ⟨h1.moved ha, fun w hw => ?_, fun i hi => (h3 i hi).same hv, by rw [hh]; exact h4.moved ha, by rw [hh]; exact h5.moved ha, by rw [hh]; exact h6.moved ha, h7.moved ha, by rw [hh]; exact h8.moved ha, h9, by rw [hh]; exact h10⟩
  obtain ⟨a, i, x, b, rfl⟩ := NW_nest hw
  exact (h2 _ hw).same rfl hv.symm
def j_Rt (y : MI) (pc : Nat) (S : List Value) (r : Option Value) : Prop :=
  (∃ (ty : FieldType) (v v' : Int32), y.2.2.2 = some ty ∧ decode y.2.1 pc = .ok (.ireturn, 1) ∧ S = [.int v] ∧ narrow ty (.int v) = .int v' ∧ r = some (.int v')) ∨
  (y.2.2.2 = none ∧ decode y.2.1 pc = .ok (.return_, 1) ∧ S = [] ∧ r = none) ∨
  (∃ (n : String) (a : Nat), y.2.2.2 = some (.object n) ∧ decode y.2.1 pc = .ok (.areturn, 1) ∧ S = [.ref a] ∧ r = some (.ref a))
abbrev JK : Type := Option Value → List Shp → Mem → Prop
/-- the ground that a walk of method y stands on; K: what is asked of its end; Q: of the machine behind it -/
def j_C (G : JG) (y : MI) (d mc ms : Nat) (K : JK) (p : Program) (l : Launch) (e : Env) (R : Room) (s : State) (m : MethodId) (args : Array Value) (below : List Frame) (meth : Method) (c : Code) (Q : State → Prop) : Prop :=
  p.tables.exec = Jvm.exec ∧ c.code = y.2.1 ∧ c.maxLocals = y.2.2.1 ∧ s.vm.findClass y.1.cls = some m.cls ∧ (∀ w ∈ GW, w.before args s = true) ∧ j_E G s ∧ (y.1.name = "<init>" → meth.name = "<init>") ∧ (d ≤ R.frames ∧ 64 * d ≤ R.locals ∧ mc ≤ R.cells ∧ ms ≤ R.slots) ∧ G.1 ≤ s.heap.size ∧
  ∀ (H' : Heap) (locs' : List Loc) (ls' : Array Slot) (pc' : Nat) (S' : List Value) (r : Option Value) (sh' : List Shp) (σ' : Mem) (nc' ns' : Nat), K r sh' σ' → j_H G sh' σ' H' → va_S (j_A G) s.heap H' locs' → nc' ≤ mc → ns' ≤ ms → j_Rt y pc' S' r → W p l e R s m args below meth c H' locs' nc' ns' Q (F0 m pc' ls' S')
def J (G : JG) (y : MI) (d mc ms : Nat) (sh : List Shp) (nc ns pc : Nat) (L : List (Option Value)) (S : List Value) (σ : Mem) (K : JK) : Prop :=
  ∀ (p : Program) (l : Launch) (e : Env) (R : Room) (s : State) (m : MethodId) (args : Array Value) (below : List Frame) (meth : Method) (c : Code) (H : Heap) (locs : List Loc) (ls : Array Slot) (Q : State → Prop),
    j_C G y d mc ms K p l e R s m args below meth c Q → j_H G sh σ H → s.heap.size + nc = G.1 + sh.length → va_S (j_A G) s.heap H locs → j_L ls y.2.2.1 L → nc ≤ mc → ns ≤ ms → W p l e R s m args below meth c H locs nc ns Q (F0 m pc ls S)
def j_rm (d mc ms : Nat) : Room := { frames := d, cells := mc, slots := ms, locals := 64 * d }
def j_Pc (G : JG) (sh : List Shp) (avs : List Value) (σ : Mem) : Array Value → State → Prop := va_Pc avs (fun U => j_H G sh σ U.heap ∧ U.heap.size = G.1 + sh.length ∧ j_E G U)
def j_Qc (G : JG) (K : JK) : Array Value → State → Outcome → State → Prop := fun _ st oc t => (∃ (r : Option Value) (sh' : List Shp) (σ' : Mem), oc = .returned r ∧ K r sh' σ' ∧ j_H G sh' σ' t.heap) ∧ va_F (j_A G) st t
/-- a method's contract -/
def JM (G : JG) (y : MI) (d mc ms : Nat) (sh : List Shp) (avs : List Value) (σ : Mem) (K : JK) : Prop :=
  ∀ l : Launch, Met l y.1 (.code y.1 y.2.1 y.2.2.1 y.2.2.2 :: GW) (j_rm d mc ms) (j_Pc G sh avs σ) (j_Qc G K) mc ms (j_A G)
theorem j_blind (G : JG) (sh : List Shp) (avs : List Value) (σ : Mem) : FrameBlind (j_Pc G sh avs σ) := by
  intro a U g mk h
  obtain ⟨h1, h2, h4, h3⟩ := h
  exact ⟨h1, h2, h4, j_E.same (s := U) (U := U.calling g mk a) rfl rfl h3⟩
section JRet
variable {p : Program} {l : Launch} {e : Env} {R : Room} {s : State} {m : MethodId} {args : Array Value} {below : List Frame} {meth : Method} {c : Code} {H : Heap} {locs : List Loc} {cells slots : Nat} {Q : State → Prop}
theorem j_zret {cc : ByteArray} {Qc : Array Value → State → Outcome → State → Prop} {free : Addr → Prop} {v v' : Int32} {ty : FieldType} (hexec : p.tables.exec = Jvm.exec) (hb : c.code = cc) (hr : meth.sig.returnType = some ty) (hn : narrow ty (.int v) = .int v')
    (hq : ∀ t : State, t.heap = H → s.WarmedH t.vm → Qc args s (.returned (some (.int v'))) t) (hf : ∀ q ∈ locs, free q.base)
    {pc : Nat} {ls : Array Slot} (hdg : decode cc pc = .ok (.ireturn, 1)) (hlocks : meth.locks = false) : W p l e R s m args below meth c H locs cells slots (MQ below Qc args s cells slots free) (F0 m pc ls [.int v]) := by
  intro T hT X
  obtain ⟨fs, hret, hrun, hended, hW, hframe⟩ := X.leave (v := some (.int v')) (hlocks := hlocks) (fun h => by rw [hr] at h; cases h)
  have hmeth' : T.vm.method? m = some meth := X.method'
  refine ⟨T.setFrames fs, ?_, .returned (some (.int v')), hrun, hended, hq _ hT hW, locs, ⟨⟨_, rfl⟩, hW, hframe⟩, hf⟩
  jvm_step X.here [X.here.top, hexec, hb, hdg, hmeth', hr, hn]
  (try refine ⟨rfl, ?_⟩); (try refine ⟨rfl, ?_⟩)
  first | (intro acts; rw [hret _ acts rfl rfl rfl]) | rw [hret _ _ rfl rfl rfl]
  exact Steps.refl _
end JRet
section JSize
variable {p : Program} {l : Launch} {e : Env} {R : Room} {s : State} {m : MethodId} {args : Array Value} {below : List Frame} {meth : Method} {c : Code} {H : Heap} {locs : List Loc} {cells slots : Nat} {Q : State → Prop}
/-- how many cells there are: as many as were made -/
theorem j_size {G : JG} {sh : List Shp} {σ : Mem} {A : Nat → Prop} {g : JFrame} (hH : j_H G sh σ H) (hz : s.heap.size + cells = G.1 + sh.length) (hG : G.1 ≤ s.heap.size) (hS : va_S A s.heap H locs) (k : H.size = G.1 + sh.length → W p l e R s m args below meth c H locs cells slots Q g) : W p l e R s m args below meth c H locs cells slots Q g := by
  intro T hT X
  have h1 : T.heap.size ≤ s.heap.size + cells := X.same.2.2.1
  rw [hT] at h1
  have h2 := hS.1
  refine k ?_ T hT X
  by_cases h0 : sh.length = 0
  · omega
  · have hl : sh.length - 1 < sh.length := by omega
    have hx : (j_W G sh σ)[sh.length - 1]? = some (G.1 + (sh.length - 1), j_cell G (sh[sh.length - 1]) (σ.1 (idn (sh.length - 1))) (σ.2 (idn (sh.length - 1)))) := by
      unfold j_W
      rw [List.getElem?_mapIdx, List.getElem?_eq_getElem hl]
      rfl
    have h3 := (hH _ _ hx).lt
    simp only at h3
    omega
end JSize
theorem JM_of {G : JG} {y : MI} {d mc ms : Nat} {sh : List Shp} {avs : List Value} {σ : Mem} {K : JK} (k : Nat) (hy : plainName y.1.cls = true) (hn : (lg_sl avs).length ≤ y.2.2.1)
    (h : J G y d mc ms sh 0 0 0 (l_ent avs ++ List.replicate k none) [] σ K) : JM G y d mc ms sh avs σ K := by
  intro l
  refine Met.ofW (cc := y.2.1) (maxL := y.2.2.1) (ret := y.2.2.2) hy rfl ?_
  intro p e s m args below meth c s₁ B hml hv
  obtain ⟨rfl, hH, hz, hE⟩ := hv
  have hts := atoms_spec (ws := .code y.1 y.2.1 y.2.2.1 y.2.2.2 :: GW) B.pre
  have hown : s.vm.findClass y.1.cls = some m.cls := findClass_of_methodNamed B.named
  have hlocks := B.notSynchronized
  have hnm : meth.name = y.1.name := (name_of_methodNamed B.named B.method).1
  have hl := lv_entry avs (n := y.2.2.1) hn
  rw [lg_entry_eq]
  generalize (lg_sl avs ++ List.replicate (y.2.2.1 - (lg_sl avs).length) Slot.unset).toArray = ls at hl ⊢
  refine h p l e _ s m _ below meth c s.heap [] ls _ ⟨B.exec, B.bytes, hml, hown, fun w hw => hts w (List.mem_cons_of_mem _ hw), hE, fun h9 => hnm.trans h9, ⟨Nat.le_refl _, Nat.le_refl _, Nat.le_refl _, Nat.le_refl _⟩, by rw [hz]; omega, ?_⟩ hH (by rw [hz, Nat.add_zero]) va_S.rf (j_L.entry hl) (Nat.zero_le _) (Nat.zero_le _)
  intro H' locs' ls' pc' S' r sh' σ' nc' ns' hK hH' hS' hc hs hR
  refine W.widen (k := mc) (n := ms) hc hs ?_
  rcases hR with ⟨ty, v, v', e1, e2, rfl, e4, rfl⟩ | ⟨e1, e2, rfl, rfl⟩ | ⟨n, a, e1, e2, rfl, rfl⟩
  · exact j_zret B.exec B.bytes (B.returns.trans e1) e4 (fun t ht hW => ⟨⟨_, sh', σ', rfl, hK, by rw [ht]; exact hH'⟩, hS'.F ht⟩) hS'.2.2 e2 hlocks
  · exact W.vret B.exec B.bytes (B.returns.trans e1) (fun t ht hW => ⟨⟨_, sh', σ', rfl, hK, by rw [ht]; exact hH'⟩, hS'.F ht⟩) hS'.2.2 e2 hlocks
  · exact W.aret B.exec B.bytes (B.returns.trans e1) (Or.inl ⟨n, rfl⟩) (Or.inr ⟨a, rfl⟩) (fun t ht hW => ⟨⟨_, sh', σ', rfl, hK, by rw [ht]; exact hH'⟩, hS'.F ht⟩) hS'.2.2 e2 hlocks
section JRows
variable {G : JG} {y : MI} {d mc ms : Nat} {sh : List Shp} {nc ns pc : Nat} {L : List (Option Value)} {S : List Value} {σ : Mem} {K : JK}
theorem J_sub {A : List (Option Value)} (hs : l_sub A L) (h : J G y d mc ms sh nc ns pc A S σ K) : J G y d mc ms sh nc ns pc L S σ K := fun p l e R s m args below meth c H locs ls Q C hH hz hS hl => h p l e R s m args below meth c H locs ls Q C hH hz hS (hl.sub hs)

theorem J_iadd {a b : Int32} (hd : decode y.2.1 pc = .ok (.iadd, 1)) (h : J G y d mc ms sh nc ns (pc + 1) L (.int (a + b) :: S) σ K) : J G y d mc ms sh nc ns pc L (.int b :: .int a :: S) σ K := fun p l e R s m args below meth c H locs ls Q C hH hz hS hl h1 h2 => lv_iadd C.1 C.2.1 hd (h p l e R s m args below meth c H locs ls Q C hH hz hS hl h1 h2)
theorem J_isub {a b : Int32} (hd : decode y.2.1 pc = .ok (.isub, 1)) (h : J G y d mc ms sh nc ns (pc + 1) L (.int (a - b) :: S) σ K) : J G y d mc ms sh nc ns pc L (.int b :: .int a :: S) σ K := fun p l e R s m args below meth c H locs ls Q C hH hz hS hl h1 h2 => lv_isub C.1 C.2.1 hd (h p l e R s m args below meth c H locs ls Q C hH hz hS hl h1 h2)
theorem J_imul {a b : Int32} (hd : decode y.2.1 pc = .ok (.imul, 1)) (h : J G y d mc ms sh nc ns (pc + 1) L (.int (a * b) :: S) σ K) : J G y d mc ms sh nc ns pc L (.int b :: .int a :: S) σ K := fun p l e R s m args below meth c H locs ls Q C hH hz hS hl h1 h2 => lv_imul C.1 C.2.1 hd (h p l e R s m args below meth c H locs ls Q C hH hz hS hl h1 h2)
theorem J_iand {a b : Int32} (hd : decode y.2.1 pc = .ok (.iand, 1)) (h : J G y d mc ms sh nc ns (pc + 1) L (.int (a &&& b) :: S) σ K) : J G y d mc ms sh nc ns pc L (.int b :: .int a :: S) σ K := fun p l e R s m args below meth c H locs ls Q C hH hz hS hl h1 h2 => lv_iand C.1 C.2.1 hd (h p l e R s m args below meth c H locs ls Q C hH hz hS hl h1 h2)
theorem J_ior {a b : Int32} (hd : decode y.2.1 pc = .ok (.ior, 1)) (h : J G y d mc ms sh nc ns (pc + 1) L (.int (a ||| b) :: S) σ K) : J G y d mc ms sh nc ns pc L (.int b :: .int a :: S) σ K := fun p l e R s m args below meth c H locs ls Q C hH hz hS hl h1 h2 => lv_ior C.1 C.2.1 hd (h p l e R s m args below meth c H locs ls Q C hH hz hS hl h1 h2)
theorem J_idiv {a b : Int32} (hd : decode y.2.1 pc = .ok (.idiv, 1)) (h0 : ¬ b = 0) (h : J G y d mc ms sh nc ns (pc + 1) L (.int (a / b) :: S) σ K) : J G y d mc ms sh nc ns pc L (.int b :: .int a :: S) σ K := fun p l e R s m args below meth c H locs ls Q C hH hz hS hl h1 h2 => lv_idiv C.1 C.2.1 hd h0 (h p l e R s m args below meth c H locs ls Q C hH hz hS hl h1 h2)
theorem J_irem {a b : Int32} (hd : decode y.2.1 pc = .ok (.irem, 1)) (h0 : ¬ b = 0) (h : J G y d mc ms sh nc ns (pc + 1) L (.int (a - a / b * b) :: S) σ K) : J G y d mc ms sh nc ns pc L (.int b :: .int a :: S) σ K := fun p l e R s m args below meth c H locs ls Q C hH hz hS hl h1 h2 => lv_irem C.1 C.2.1 hd h0 (h p l e R s m args below meth c H locs ls Q C hH hz hS hl h1 h2)
theorem J_ishl {a b : Int32} (hd : decode y.2.1 pc = .ok (.ishl, 1)) (h : J G y d mc ms sh nc ns (pc + 1) L (.int (a <<< (b &&& 31)) :: S) σ K) : J G y d mc ms sh nc ns pc L (.int b :: .int a :: S) σ K := fun p l e R s m args below meth c H locs ls Q C hH hz hS hl h1 h2 => lv_ishl C.1 C.2.1 hd (h p l e R s m args below meth c H locs ls Q C hH hz hS hl h1 h2)
theorem J_ishr {a b : Int32} (hd : decode y.2.1 pc = .ok (.ishr, 1)) (h : J G y d mc ms sh nc ns (pc + 1) L (.int (a >>> (b &&& 31)) :: S) σ K) : J G y d mc ms sh nc ns pc L (.int b :: .int a :: S) σ K := fun p l e R s m args below meth c H locs ls Q C hH hz hS hl h1 h2 => lv_ishr C.1 C.2.1 hd (h p l e R s m args below meth c H locs ls Q C hH hz hS hl h1 h2)
theorem J_iushr {a b : Int32} (hd : decode y.2.1 pc = .ok (.iushr, 1)) (h : J G y d mc ms sh nc ns (pc + 1) L (.int ((a.toUInt32 >>> (b.toUInt32 &&& Int32.toUInt32 31)).toInt32) :: S) σ K) : J G y d mc ms sh nc ns pc L (.int b :: .int a :: S) σ K := fun p l e R s m args below meth c H locs ls Q C hH hz hS hl h1 h2 => lv_iushr C.1 C.2.1 hd rfl (h p l e R s m args below meth c H locs ls Q C hH hz hS hl h1 h2)
theorem J_i2l {a : Int32} (hd : decode y.2.1 pc = .ok (.i2l, 1)) (h : J G y d mc ms sh nc ns (pc + 1) L (.long a.toInt64 :: S) σ K) : J G y d mc ms sh nc ns pc L (.int a :: S) σ K := fun p l e R s m args below meth c H locs ls Q C hH hz hS hl h1 h2 => lv_i2l C.1 C.2.1 hd rfl (h p l e R s m args below meth c H locs ls Q C hH hz hS hl h1 h2)
theorem J_i2b {a : Int32} (hd : decode y.2.1 pc = .ok (.i2b, 1)) (h : J G y d mc ms sh nc ns (pc + 1) L (.int a.toInt8.toInt32 :: S) σ K) : J G y d mc ms sh nc ns pc L (.int a :: S) σ K := fun p l e R s m args below meth c H locs ls Q C hH hz hS hl h1 h2 => lv_i2b C.1 C.2.1 hd rfl (h p l e R s m args below meth c H locs ls Q C hH hz hS hl h1 h2)
theorem J_i2c {a : Int32} (hd : decode y.2.1 pc = .ok (.i2c, 1)) (h : J G y d mc ms sh nc ns (pc + 1) L (.int (a.toUInt32 % 65536).toInt32 :: S) σ K) : J G y d mc ms sh nc ns pc L (.int a :: S) σ K := fun p l e R s m args below meth c H locs ls Q C hH hz hS hl h1 h2 => lv_i2c C.1 C.2.1 hd rfl (h p l e R s m args below meth c H locs ls Q C hH hz hS hl h1 h2)
theorem J_lshl {a : Int64} {b : Int32} (hd : decode y.2.1 pc = .ok (.lshl, 1)) (h : J G y d mc ms sh nc ns (pc + 1) L (.long (a <<< (b.toInt64 &&& 63)) :: S) σ K) : J G y d mc ms sh nc ns pc L (.int b :: .long a :: S) σ K := fun p l e R s m args below meth c H locs ls Q C hH hz hS hl h1 h2 => lv_lshl C.1 C.2.1 hd rfl (h p l e R s m args below meth c H locs ls Q C hH hz hS hl h1 h2)
theorem J_lor {a b : Int64} (hd : decode y.2.1 pc = .ok (.lor, 1)) (h : J G y d mc ms sh nc ns (pc + 1) L (.long (a ||| b) :: S) σ K) : J G y d mc ms sh nc ns pc L (.long b :: .long a :: S) σ K := fun p l e R s m args below meth c H locs ls Q C hH hz hS hl h1 h2 => lv_lor C.1 C.2.1 hd (h p l e R s m args below meth c H locs ls Q C hH hz hS hl h1 h2)
theorem J_lcmp {a b : Int64} (hd : decode y.2.1 pc = .ok (.lcmp, 1)) (h : J G y d mc ms sh nc ns (pc + 1) L (.int (lg_cmp a b) :: S) σ K) : J G y d mc ms sh nc ns pc L (.long b :: .long a :: S) σ K := fun p l e R s m args below meth c H locs ls Q C hH hz hS hl h1 h2 => W.lcmp C.1 C.2.1 hd (h p l e R s m args below meth c H locs ls Q C hH hz hS hl h1 h2)
theorem J_dup {v : Value} (hd : decode y.2.1 pc = .ok (.dup, 1)) (hv : v.category = 1) (h : J G y d mc ms sh nc ns (pc + 1) L (v :: v :: S) σ K) : J G y d mc ms sh nc ns pc L (v :: S) σ K := fun p l e R s m args below meth c H locs ls Q C hH hz hS hl h1 h2 => lv_dup C.1 C.2.1 hd hv (h p l e R s m args below meth c H locs ls Q C hH hz hS hl h1 h2)
theorem J_pop {v : Value} (hd : decode y.2.1 pc = .ok (.pop, 1)) (hv : v.category = 1) (h : J G y d mc ms sh nc ns (pc + 1) L S σ K) : J G y d mc ms sh nc ns pc L (v :: S) σ K := fun p l e R s m args below meth c H locs ls Q C hH hz hS hl h1 h2 => lv_pop C.1 C.2.1 hd hv (h p l e R s m args below meth c H locs ls Q C hH hz hS hl h1 h2)
theorem J_dup2 {v u : Value} (hd : decode y.2.1 pc = .ok (.dup2, 1)) (hv : v.category = 1) (hu : u.category = 1) (h : J G y d mc ms sh nc ns (pc + 1) L (v :: u :: v :: u :: S) σ K) : J G y d mc ms sh nc ns pc L (v :: u :: S) σ K := fun p l e R s m args below meth c H locs ls Q C hH hz hS hl h1 h2 => lv_dup2_11 C.1 C.2.1 hd hv hu (h p l e R s m args below meth c H locs ls Q C hH hz hS hl h1 h2)
theorem J_iconst {n : Int} {v : Int32} (hd : decode y.2.1 pc = .ok (.iconst n, 1)) (hv : Int32.ofInt n = v) (h : J G y d mc ms sh nc ns (pc + 1) L (.int v :: S) σ K) : J G y d mc ms sh nc ns pc L S σ K := fun p l e R s m args below meth c H locs ls Q C hH hz hS hl h1 h2 => lv_iconst C.1 C.2.1 hd hv (h p l e R s m args below meth c H locs ls Q C hH hz hS hl h1 h2)
theorem J_bipush {n : Int} {v : Int32} (hd : decode y.2.1 pc = .ok (.bipush n, 2)) (hv : (Int8.ofInt n).toInt32 = v) (h : J G y d mc ms sh nc ns (pc + 2) L (.int v :: S) σ K) : J G y d mc ms sh nc ns pc L S σ K := fun p l e R s m args below meth c H locs ls Q C hH hz hS hl h1 h2 => lv_bipush C.1 C.2.1 hd hv (h p l e R s m args below meth c H locs ls Q C hH hz hS hl h1 h2)
theorem J_sipush {n : Int} {v : Int32} (hd : decode y.2.1 pc = .ok (.sipush n, 3)) (hv : (Int16.ofInt n).toInt32 = v) (h : J G y d mc ms sh nc ns (pc + 3) L (.int v :: S) σ K) : J G y d mc ms sh nc ns pc L S σ K := fun p l e R s m args below meth c H locs ls Q C hH hz hS hl h1 h2 => lv_sipush C.1 C.2.1 hd hv (h p l e R s m args below meth c H locs ls Q C hH hz hS hl h1 h2)
theorem J_lconst {n : Fin 2} {v : Int64} (hd : decode y.2.1 pc = .ok (.lconst n, 1)) (hv : Int64.ofNat (n : Nat) = v) (h : J G y d mc ms sh nc ns (pc + 1) L (.long v :: S) σ K) : J G y d mc ms sh nc ns pc L S σ K := fun p l e R s m args below meth c H locs ls Q C hH hz hS hl h1 h2 => lv_lconst C.1 C.2.1 hd hv (h p l e R s m args below meth c H locs ls Q C hH hz hS hl h1 h2)
theorem J_iload_n {n : Fin 4} {v : Int32} (hd : decode y.2.1 pc = .ok (.iload_n n, 1)) (hv : L[(n : Nat)]? = some (some (.int v))) (h : J G y d mc ms sh nc ns (pc + 1) L (.int v :: S) σ K) : J G y d mc ms sh nc ns pc L S σ K := fun p l e R s m args below meth c H locs ls Q C hH hz hS hl h1 h2 => lv_iload_n C.1 C.2.1 hd rfl (hl.2.2 _ _ hv) (h p l e R s m args below meth c H locs ls Q C hH hz hS hl h1 h2)
theorem J_iload {n : Nat} {v : Int32} (hd : decode y.2.1 pc = .ok (.iload n, 2)) (hv : L[n]? = some (some (.int v))) (h : J G y d mc ms sh nc ns (pc + 2) L (.int v :: S) σ K) : J G y d mc ms sh nc ns pc L S σ K := fun p l e R s m args below meth c H locs ls Q C hH hz hS hl h1 h2 => lv_iload C.1 C.2.1 hd (hl.2.2 _ _ hv) (h p l e R s m args below meth c H locs ls Q C hH hz hS hl h1 h2)
theorem J_lload_n {n : Fin 4} {v : Int64} (hd : decode y.2.1 pc = .ok (.lload_n n, 1)) (hv : L[(n : Nat)]? = some (some (.long v))) (h : J G y d mc ms sh nc ns (pc + 1) L (.long v :: S) σ K) : J G y d mc ms sh nc ns pc L S σ K := fun p l e R s m args below meth c H locs ls Q C hH hz hS hl h1 h2 => lv_lload_n C.1 C.2.1 hd rfl (hl.2.2 _ _ hv) (h p l e R s m args below meth c H locs ls Q C hH hz hS hl h1 h2)
theorem J_aload_n {n : Fin 4} {v : Nat} (hd : decode y.2.1 pc = .ok (.aload_n n, 1)) (hv : L[(n : Nat)]? = some (some (.ref v))) (h : J G y d mc ms sh nc ns (pc + 1) L (.ref v :: S) σ K) : J G y d mc ms sh nc ns pc L S σ K := fun p l e R s m args below meth c H locs ls Q C hH hz hS hl h1 h2 => lv_aload_n C.1 C.2.1 hd rfl (hl.2.2 _ _ hv) (h p l e R s m args below meth c H locs ls Q C hH hz hS hl h1 h2)
theorem J_aload {n : Nat} {v : Nat} (hd : decode y.2.1 pc = .ok (.aload n, 2)) (hv : L[n]? = some (some (.ref v))) (h : J G y d mc ms sh nc ns (pc + 2) L (.ref v :: S) σ K) : J G y d mc ms sh nc ns pc L S σ K := fun p l e R s m args below meth c H locs ls Q C hH hz hS hl h1 h2 => lv_aload C.1 C.2.1 hd (hl.2.2 _ _ hv) (h p l e R s m args below meth c H locs ls Q C hH hz hS hl h1 h2)
theorem J_istore_n {n : Fin 4} {v : Int32} {L' : List (Option Value)} (hd : decode y.2.1 pc = .ok (.istore_n n, 1)) (hb : Nat.blt (n : Nat) y.2.2.1 = true) (hn : l_nl L (n : Nat) = true) (hL : L.set (n : Nat) (some (.int v)) = L') (h : J G y d mc ms sh nc ns (pc + 1) L' S σ K) : J G y d mc ms sh nc ns pc L (.int v :: S) σ K := fun p l e R s m args below meth c H locs ls Q C hH hz hS hl h1 h2 => lv_istore_n C.1 C.2.1 hd rfl hl.has (by simpa using hb) rfl (fun ls' hl' => h p l e R s m args below meth c H locs ls' Q C hH hz hS (hL ▸ j_L.set hn hl') h1 h2)
theorem J_istore {n : Nat} {v : Int32} {L' : List (Option Value)} (hd : decode y.2.1 pc = .ok (.istore n, 2)) (hb : Nat.blt n y.2.2.1 = true) (hn : l_nl L n = true) (hL : L.set n (some (.int v)) = L') (h : J G y d mc ms sh nc ns (pc + 2) L' S σ K) : J G y d mc ms sh nc ns pc L (.int v :: S) σ K := fun p l e R s m args below meth c H locs ls Q C hH hz hS hl h1 h2 => lv_istore C.1 C.2.1 hd hl.has (by simpa using hb) rfl (fun ls' hl' => h p l e R s m args below meth c H locs ls' Q C hH hz hS (hL ▸ j_L.set hn hl') h1 h2)
theorem J_astore_n {n : Fin 4} {v : Nat} {L' : List (Option Value)} (hd : decode y.2.1 pc = .ok (.astore_n n, 1)) (hb : Nat.blt (n : Nat) y.2.2.1 = true) (hn : l_nl L (n : Nat) = true) (hL : L.set (n : Nat) (some (.ref v)) = L') (h : J G y d mc ms sh nc ns (pc + 1) L' S σ K) : J G y d mc ms sh nc ns pc L (.ref v :: S) σ K := fun p l e R s m args below meth c H locs ls Q C hH hz hS hl h1 h2 => lv_astore_n C.1 C.2.1 hd rfl hl.has (by simpa using hb) rfl (fun ls' hl' => h p l e R s m args below meth c H locs ls' Q C hH hz hS (hL ▸ j_L.set hn hl') h1 h2)
theorem J_astore {n : Nat} {v : Nat} {L' : List (Option Value)} (hd : decode y.2.1 pc = .ok (.astore n, 2)) (hb : Nat.blt n y.2.2.1 = true) (hn : l_nl L n = true) (hL : L.set n (some (.ref v)) = L') (h : J G y d mc ms sh nc ns (pc + 2) L' S σ K) : J G y d mc ms sh nc ns pc L (.ref v :: S) σ K := fun p l e R s m args below meth c H locs ls Q C hH hz hS hl h1 h2 => lv_astore C.1 C.2.1 hd hl.has (by simpa using hb) rfl (fun ls' hl' => h p l e R s m args below meth c H locs ls' Q C hH hz hS (hL ▸ j_L.set hn hl') h1 h2)
theorem J_iinc {n : Nat} {i : Int} {v v' : Int32} {L' : List (Option Value)} (hd : decode y.2.1 pc = .ok (.iinc n i, 3)) (hb : Nat.blt n y.2.2.1 = true) (hv : L[n]? = some (some (.int v))) (hv' : v + Int32.ofInt i = v') (hn : l_nl L n = true) (hL : L.set n (some (.int v')) = L') (h : J G y d mc ms sh nc ns (pc + 3) L' S σ K) : J G y d mc ms sh nc ns pc L S σ K := fun p l e R s m args below meth c H locs ls Q C hH hz hS hl h1 h2 => by
  obtain ⟨k, hk⟩ := List.getElem?_of_mem (l_prs_mem.mpr hv)
  exact lv_iinc C.1 C.2.1 hd hl.has hk hv' (by simpa using hb) rfl (fun ls' hl' => h p l e R s m args below meth c H locs ls' Q C hH hz hS (hL ▸ j_L.set hn hl') h1 h2)
theorem J_if_eq {a : Int32} {off : Int} {tgt : Nat} (hd : decode y.2.1 pc = .ok (.ifCond .eq off, 3)) (ht : (pc : Int) + off = (tgt : Int)) (hT : a = 0 → J G y d mc ms sh nc ns tgt L S σ K) (hF : ¬ a = 0 → J G y d mc ms sh nc ns (pc + 3) L S σ K) : J G y d mc ms sh nc ns pc L (.int a :: S) σ K := fun p l e R s m args below meth c H locs ls Q C hH hz hS hl h1 h2 => lv_if_eq C.1 C.2.1 hd ht (fun z => hT z p l e R s m args below meth c H locs ls Q C hH hz hS hl h1 h2) (fun z => hF z p l e R s m args below meth c H locs ls Q C hH hz hS hl h1 h2)
theorem J_if_ne {a : Int32} {off : Int} {tgt : Nat} (hd : decode y.2.1 pc = .ok (.ifCond .ne off, 3)) (ht : (pc : Int) + off = (tgt : Int)) (hT : ¬ a = 0 → J G y d mc ms sh nc ns tgt L S σ K) (hF : a = 0 → J G y d mc ms sh nc ns (pc + 3) L S σ K) : J G y d mc ms sh nc ns pc L (.int a :: S) σ K := fun p l e R s m args below meth c H locs ls Q C hH hz hS hl h1 h2 => lv_if_ne C.1 C.2.1 hd ht (fun z => hT z p l e R s m args below meth c H locs ls Q C hH hz hS hl h1 h2) (fun z => hF z p l e R s m args below meth c H locs ls Q C hH hz hS hl h1 h2)
theorem J_if_lt {a : Int32} {off : Int} {tgt : Nat} (hd : decode y.2.1 pc = .ok (.ifCond .lt off, 3)) (ht : (pc : Int) + off = (tgt : Int)) (hT : a < 0 → J G y d mc ms sh nc ns tgt L S σ K) (hF : ¬ a < 0 → J G y d mc ms sh nc ns (pc + 3) L S σ K) : J G y d mc ms sh nc ns pc L (.int a :: S) σ K := fun p l e R s m args below meth c H locs ls Q C hH hz hS hl h1 h2 => lv_if_lt C.1 C.2.1 hd ht (fun z => hT z p l e R s m args below meth c H locs ls Q C hH hz hS hl h1 h2) (fun z => hF z p l e R s m args below meth c H locs ls Q C hH hz hS hl h1 h2)
theorem J_if_ge {a : Int32} {off : Int} {tgt : Nat} (hd : decode y.2.1 pc = .ok (.ifCond .ge off, 3)) (ht : (pc : Int) + off = (tgt : Int)) (hT : 0 ≤ a → J G y d mc ms sh nc ns tgt L S σ K) (hF : ¬ 0 ≤ a → J G y d mc ms sh nc ns (pc + 3) L S σ K) : J G y d mc ms sh nc ns pc L (.int a :: S) σ K := fun p l e R s m args below meth c H locs ls Q C hH hz hS hl h1 h2 => lv_if_ge C.1 C.2.1 hd ht (fun z => hT z p l e R s m args below meth c H locs ls Q C hH hz hS hl h1 h2) (fun z => hF z p l e R s m args below meth c H locs ls Q C hH hz hS hl h1 h2)
theorem J_if_gt {a : Int32} {off : Int} {tgt : Nat} (hd : decode y.2.1 pc = .ok (.ifCond .gt off, 3)) (ht : (pc : Int) + off = (tgt : Int)) (hT : 0 < a → J G y d mc ms sh nc ns tgt L S σ K) (hF : ¬ 0 < a → J G y d mc ms sh nc ns (pc + 3) L S σ K) : J G y d mc ms sh nc ns pc L (.int a :: S) σ K := fun p l e R s m args below meth c H locs ls Q C hH hz hS hl h1 h2 => lv_if_gt C.1 C.2.1 hd ht (fun z => hT z p l e R s m args below meth c H locs ls Q C hH hz hS hl h1 h2) (fun z => hF z p l e R s m args below meth c H locs ls Q C hH hz hS hl h1 h2)
theorem J_if_le {a : Int32} {off : Int} {tgt : Nat} (hd : decode y.2.1 pc = .ok (.ifCond .le off, 3)) (ht : (pc : Int) + off = (tgt : Int)) (hT : a ≤ 0 → J G y d mc ms sh nc ns tgt L S σ K) (hF : ¬ a ≤ 0 → J G y d mc ms sh nc ns (pc + 3) L S σ K) : J G y d mc ms sh nc ns pc L (.int a :: S) σ K := fun p l e R s m args below meth c H locs ls Q C hH hz hS hl h1 h2 => lv_if_le C.1 C.2.1 hd ht (fun z => hT z p l e R s m args below meth c H locs ls Q C hH hz hS hl h1 h2) (fun z => hF z p l e R s m args below meth c H locs ls Q C hH hz hS hl h1 h2)
theorem J_icmp_eq {a b : Int32} {off : Int} {tgt : Nat} (hd : decode y.2.1 pc = .ok (.if_icmp .eq off, 3)) (ht : (pc : Int) + off = (tgt : Int)) (hT : a = b → J G y d mc ms sh nc ns tgt L S σ K) (hF : ¬ a = b → J G y d mc ms sh nc ns (pc + 3) L S σ K) : J G y d mc ms sh nc ns pc L (.int b :: .int a :: S) σ K := fun p l e R s m args below meth c H locs ls Q C hH hz hS hl h1 h2 => lv_icmp_eq C.1 C.2.1 hd ht (fun z => hT z p l e R s m args below meth c H locs ls Q C hH hz hS hl h1 h2) (fun z => hF z p l e R s m args below meth c H locs ls Q C hH hz hS hl h1 h2)
theorem J_icmp_ne {a b : Int32} {off : Int} {tgt : Nat} (hd : decode y.2.1 pc = .ok (.if_icmp .ne off, 3)) (ht : (pc : Int) + off = (tgt : Int)) (hT : ¬ a = b → J G y d mc ms sh nc ns tgt L S σ K) (hF : a = b → J G y d mc ms sh nc ns (pc + 3) L S σ K) : J G y d mc ms sh nc ns pc L (.int b :: .int a :: S) σ K := fun p l e R s m args below meth c H locs ls Q C hH hz hS hl h1 h2 => lv_icmp_ne C.1 C.2.1 hd ht (fun z => hT z p l e R s m args below meth c H locs ls Q C hH hz hS hl h1 h2) (fun z => hF z p l e R s m args below meth c H locs ls Q C hH hz hS hl h1 h2)
theorem J_icmp_lt {a b : Int32} {off : Int} {tgt : Nat} (hd : decode y.2.1 pc = .ok (.if_icmp .lt off, 3)) (ht : (pc : Int) + off = (tgt : Int)) (hT : a < b → J G y d mc ms sh nc ns tgt L S σ K) (hF : ¬ a < b → J G y d mc ms sh nc ns (pc + 3) L S σ K) : J G y d mc ms sh nc ns pc L (.int b :: .int a :: S) σ K := fun p l e R s m args below meth c H locs ls Q C hH hz hS hl h1 h2 => lv_icmp_lt C.1 C.2.1 hd ht (fun z => hT z p l e R s m args below meth c H locs ls Q C hH hz hS hl h1 h2) (fun z => hF z p l e R s m args below meth c H locs ls Q C hH hz hS hl h1 h2)
theorem J_icmp_ge {a b : Int32} {off : Int} {tgt : Nat} (hd : decode y.2.1 pc = .ok (.if_icmp .ge off, 3)) (ht : (pc : Int) + off = (tgt : Int)) (hT : b ≤ a → J G y d mc ms sh nc ns tgt L S σ K) (hF : ¬ b ≤ a → J G y d mc ms sh nc ns (pc + 3) L S σ K) : J G y d mc ms sh nc ns pc L (.int b :: .int a :: S) σ K := fun p l e R s m args below meth c H locs ls Q C hH hz hS hl h1 h2 => lv_icmp_ge C.1 C.2.1 hd ht (fun z => hT z p l e R s m args below meth c H locs ls Q C hH hz hS hl h1 h2) (fun z => hF z p l e R s m args below meth c H locs ls Q C hH hz hS hl h1 h2)
theorem J_icmp_gt {a b : Int32} {off : Int} {tgt : Nat} (hd : decode y.2.1 pc = .ok (.if_icmp .gt off, 3)) (ht : (pc : Int) + off = (tgt : Int)) (hT : b < a → J G y d mc ms sh nc ns tgt L S σ K) (hF : ¬ b < a → J G y d mc ms sh nc ns (pc + 3) L S σ K) : J G y d mc ms sh nc ns pc L (.int b :: .int a :: S) σ K := fun p l e R s m args below meth c H locs ls Q C hH hz hS hl h1 h2 => lv_icmp_gt C.1 C.2.1 hd ht (fun z => hT z p l e R s m args below meth c H locs ls Q C hH hz hS hl h1 h2) (fun z => hF z p l e R s m args below meth c H locs ls Q C hH hz hS hl h1 h2)
theorem J_icmp_le {a b : Int32} {off : Int} {tgt : Nat} (hd : decode y.2.1 pc = .ok (.if_icmp .le off, 3)) (ht : (pc : Int) + off = (tgt : Int)) (hT : a ≤ b → J G y d mc ms sh nc ns tgt L S σ K) (hF : ¬ a ≤ b → J G y d mc ms sh nc ns (pc + 3) L S σ K) : J G y d mc ms sh nc ns pc L (.int b :: .int a :: S) σ K := fun p l e R s m args below meth c H locs ls Q C hH hz hS hl h1 h2 => lv_icmp_le C.1 C.2.1 hd ht (fun z => hT z p l e R s m args below meth c H locs ls Q C hH hz hS hl h1 h2) (fun z => hF z p l e R s m args below meth c H locs ls Q C hH hz hS hl h1 h2)
theorem J_goto {off : Int} {tgt : Nat} (hd : decode y.2.1 pc = .ok (.goto off, 3)) (ht : (pc : Int) + off = (tgt : Int)) (h : J G y d mc ms sh nc ns tgt L S σ K) : J G y d mc ms sh nc ns pc L S σ K := fun p l e R s m args below meth c H locs ls Q C hH hz hS hl h1 h2 => lv_goto C.1 C.2.1 hd ht (h p l e R s m args below meth c H locs ls Q C hH hz hS hl h1 h2)
end JRows
