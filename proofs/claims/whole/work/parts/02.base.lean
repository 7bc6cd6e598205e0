/-! MY LAYER: a memory of ints and longs by cell and place; all cells of the two systems lie at base + number -/
abbrev Mem : Type := (Nat → Nat → Int32) × (Nat → Nat → Int64)
abbrev Shp : Type := (Nat × Nat) ⊕ (Nat × List Nat)
abbrev MI : Type := MethodName × ByteArray × Nat × Option FieldType
/-- base, classes, array classes, cells of the string constants, their rows of bytes, the script: its cell, length, ints -/
abbrev JG : Type := Nat × va_G × (Nat → ClassId) × (Nat → Nat) × (Nat → Nat) × (Nat × Nat × (Nat → Int32))
def sI (σ : Mem) (o k : Nat) (v : Int32) : Mem := (fun a b => if a = o ∧ b = k then v else σ.1 a b, σ.2)
def sL (σ : Mem) (o k : Nat) (v : Int64) : Mem := (σ.1, fun a b => if a = o ∧ b = k then v else σ.2 a b)
def sC (σ : Mem) (o dp : Nat) (src : Nat → Int32) (sp n : Nat) : Mem := (fun a b => if a = o then va_cpy src (σ.1 o) sp dp n b else σ.1 a b, σ.2)
/-- the place of cell o: the class's cells lie first, then the reference's, which are numbered from 1000 on -/
def off (o : Nat) : Nat := if o < 1000 then o else o - 1000 + 148
def idn (i : Nat) : Nat := if i < 148 then i else i - 148 + 1000
theorem off_idn (i : Nat) : off (idn i) = i := by
  unfold off idn
  split <;> split <;> omega
def rid (β : Nat) (x : Int32) : Option Nat := if x = 0 then none else some (β + off x.toNatClampNeg)
def j_val (β : Nat) (t : Nat) (x : Int32) (y : Int64) : Value := match t with
  | 0 => .int x
  | 1 => .long y
  | 2 => va_rf (rid β x)
  | q + 3 => .ref (β + off q)
def j_row (G : JG) (k : Nat) (f : Nat → Int32) (g : Nat → Int64) : (Nat → Int32) ⊕ (Nat → Int64) ⊕ (Nat → UInt32) ⊕ (Nat → UInt64) ⊕ (Nat → Option Nat) :=
  if k = 3 then .inr (.inl g) else if k = 4 then .inr (.inr (.inr (.inr (fun j => rid G.1 (f j))))) else .inl f
def j_cell (G : JG) (h : Shp) (f : Nat → Int32) (g : Nat → Int64) : va_E := match h with
  | .inl (k, n) => .inl (G.2.2.1 k, n, j_row G k f g)
  | .inr (ci, fk) => .inr (ci, fk.mapIdx (fun k t => j_val G.1 t (f k) (g k)))
def j_W (G : JG) (sh : List Shp) (σ : Mem) : va_W := sh.mapIdx (fun i h => (G.1 + i, j_cell G h (σ.1 (idn i)) (σ.2 (idn i))))
def j_H (G : JG) (sh : List Shp) (σ : Mem) (H : Heap) : Prop := va_P G.2.1 vwCl (j_W G sh σ) H
def j_A (G : JG) : Nat → Prop := fun q => G.1 ≤ q
theorem j_W_at {G : JG} {sh : List Shp} {σ : Mem} {o : Nat} {h : Shp} (hs : sh[off o]? = some h ∧ idn (off o) = o) : (j_W G sh σ)[off o]? = some (G.1 + off o, j_cell G h (σ.1 o) (σ.2 o)) := by
  unfold j_W
  rw [List.getElem?_mapIdx, hs.1]
  show some (G.1 + off o, j_cell G h (σ.1 (idn (off o))) (σ.2 (idn (off o)))) = _
  rw [hs.2]
theorem j_D (G : JG) (sh : List Shp) (σ : Mem) : va_D (j_A G) (j_W G sh σ) := by
  have key : ∀ (i : Nat) (q : Nat × va_E), (j_W G sh σ)[i]? = some q → q.1 = G.1 + i := by
    intro i q hq
    unfold j_W at hq
    rw [List.getElem?_mapIdx] at hq
    cases hs : sh[i]? with
    | none => rw [hs] at hq; cases hq
    | some h =>
      rw [hs] at hq
      cases hq
      rfl
  refine ⟨fun i j a b hi hj hab => ?_, fun k q hk => ?_⟩
  · have h1 := key i a hi
    have h2 := key j b hj
    omega
  · have h1 := key k q hk
    show G.1 ≤ q.1
    omega
/-- one cell of the world set anew is the world of the memory set anew -/
theorem j_W_set {G : JG} {sh : List Shp} {σ σ' : Mem} {o : Nat} {h : Shp} {e : va_E} (hs : sh[off o]? = some h ∧ idn (off o) = o) (he : e = j_cell G h (σ'.1 o) (σ'.2 o)) (h1 : ∀ i, i ≠ o → σ'.1 i = σ.1 i) (h2 : ∀ i, i ≠ o → σ'.2 i = σ.2 i) : (j_W G sh σ).set (off o) (G.1 + off o, e) = j_W G sh σ' := by
  apply List.ext_getElem?
  intro i
  have hl : off o < sh.length := (List.getElem?_eq_some_iff.mp hs.1).1
  by_cases hi : i = off o
  · subst hi
    rw [List.getElem?_set_self (by unfold j_W; rw [List.length_mapIdx]; exact hl), j_W_at hs, he]
  · have hio : idn i ≠ o := fun z => hi (by rw [← z, off_idn])
    rw [List.getElem?_set_ne (Ne.symm hi)]
    unfold j_W
    rw [List.getElem?_mapIdx, List.getElem?_mapIdx, h1 _ hio, h2 _ hio]
theorem sI_at (σ : Mem) (o k : Nat) (v : Int32) : (sI σ o k v).1 o = upd (σ.1 o) k v := by
  funext b
  simp [sI, upd]
theorem sI_ne (σ : Mem) (o k : Nat) (v : Int32) (i : Nat) (h : i ≠ o) : (sI σ o k v).1 i = σ.1 i := by
  funext b
  simp [sI, h]
theorem sL_at (σ : Mem) (o k : Nat) (v : Int64) : (sL σ o k v).2 o = vp_updL (σ.2 o) k v := by
  funext b
  simp [sL, vp_updL]
theorem sL_ne (σ : Mem) (o k : Nat) (v : Int64) (i : Nat) (h : i ≠ o) : (sL σ o k v).2 i = σ.2 i := by
  funext b
  simp [sL, h]
theorem sC_at (σ : Mem) (o dp : Nat) (src : Nat → Int32) (sp n : Nat) : (sC σ o dp src sp n).1 o = va_cpy src (σ.1 o) sp dp n := by
  funext b
  simp [sC]
theorem sC_ne (σ : Mem) (o dp : Nat) (src : Nat → Int32) (sp n : Nat) (i : Nat) (h : i ≠ o) : (sC σ o dp src sp n).1 i = σ.1 i := by
  funext b
  simp [sC, h]
/-- the fields of an object, one set anew -/
theorem j_set_i {β : Nat} {fk : List Nat} {f f' : Nat → Int32} {g g' : Nat → Int64} {k t : Nat} {v : Value} (hk : fk[k]? = some t) (hv : v = j_val β t (f' k) (g' k)) (h1 : ∀ j, j ≠ k → f' j = f j) (h2 : ∀ j, j ≠ k → g' j = g j) :
    (fk.mapIdx (fun j t => j_val β t (f j) (g j))).set k v = fk.mapIdx (fun j t => j_val β t (f' j) (g' j)) := by
  apply List.ext_getElem?
  intro i
  have hl : k < fk.length := (List.getElem?_eq_some_iff.mp hk).1
  by_cases hi : i = k
  · subst hi
    rw [List.getElem?_set_self (by rw [List.length_mapIdx]; exact hl), List.getElem?_mapIdx, hk, hv]
    rfl
  · rw [List.getElem?_set_ne (Ne.symm hi), List.getElem?_mapIdx, List.getElem?_mapIdx, h1 i hi, h2 i hi]
/-! locals: what is known of them, by place -/
def j_L (ls : Array Slot) (nL : Nat) (L : List (Option Value)) : Prop := ls.size = nL ∧ lv_wf ls ∧ ∀ (i : Nat) (v : Value), L[i]? = some (some v) → ls[i]? = some (.val v)
def l_cat2 : Option (Option Value) → Bool
  | some (some v) => v.category == 2
  | _ => false
def l_nl (L : List (Option Value)) (i : Nat) : Bool := match i with
  | 0 => true
  | k + 1 => !l_cat2 L[k]?
def l_prs (L : List (Option Value)) : List (Nat × Value) := (List.range L.length).filterMap (fun i => match L[i]? with
  | some (some v) => some (i, v)
  | _ => none)
theorem l_prs_mem {L : List (Option Value)} {i : Nat} {v : Value} : (i, v) ∈ l_prs L ↔ L[i]? = some (some v) := by
  unfold l_prs
  rw [List.mem_filterMap]
  constructor
  · rintro ⟨a, ha, h⟩
    split at h
    · cases h
      assumption
    · cases h
  · intro h
    refine ⟨i, List.mem_range.mpr (List.getElem?_eq_some_iff.mp h).1, ?_⟩
    rw [h]
theorem j_L.has {ls : Array Slot} {nL : Nat} {L : List (Option Value)} (h : j_L ls nL L) : lv_has ls nL (l_prs L) := ⟨h.1, h.2.1, fun q hq => h.2.2 q.1 q.2 (l_prs_mem.mp hq)⟩
theorem j_L.set {ls : Array Slot} {nL : Nat} {L : List (Option Value)} {i : Nat} {x : Value} (hn : l_nl L i = true) (h : lv_has ls nL ((i, x) :: (l_prs L).filter (fun q => !(q.1 == i) && !(q.1 + 1 == i && q.2.category == 2)))) : j_L ls nL (L.set i (some x)) := by
  refine ⟨h.1, h.2.1, fun j v hj => ?_⟩
  by_cases hji : j = i
  · subst hji
    have hl : j < L.length := by
      have := (List.getElem?_eq_some_iff.mp hj).1
      rw [List.length_set] at this
      exact this
    rw [List.getElem?_set_self hl] at hj
    have hxv : x = v := Option.some.inj (Option.some.inj hj)
    rw [← hxv]
    exact h.2.2 (j, x) List.mem_cons_self
  · rw [List.getElem?_set_ne (Ne.symm hji)] at hj
    refine h.2.2 (j, v) (List.mem_cons_of_mem _ (List.mem_filter.mpr ⟨l_prs_mem.mpr hj, ?_⟩))
    have h2 : ¬ (j + 1 = i ∧ v.category = 2) := by
      rintro ⟨e1, e2⟩
      subst e1
      have : l_nl L (j + 1) = !l_cat2 L[j]? := rfl
      rw [this, hj] at hn
      simp [l_cat2, e2] at hn
    simp only [Bool.and_eq_true, Bool.not_eq_true', beq_eq_false_iff_ne, ne_eq, Bool.and_eq_false_iff]
    refine ⟨hji, ?_⟩
    by_cases e1 : j + 1 = i
    · right
      exact fun e2 => h2 ⟨e1, e2⟩
    · left
      exact e1
def l_sub : List (Option Value) → List (Option Value) → Prop
  | [], _ => True
  | none :: a, [] => l_sub a []
  | none :: a, _ :: b => l_sub a b
  | some _ :: _, [] => False
  | some v :: a, w :: b => w = some v ∧ l_sub a b
theorem l_sub_at : ∀ (A B : List (Option Value)), l_sub A B → ∀ (i : Nat) (v : Value), A[i]? = some (some v) → B[i]? = some (some v)
  | [], _, _, i, v, h => by simp at h
  | none :: a, [], hs, i, v, h => by
    cases i with
    | zero => simp at h
    | succ i =>
      have := l_sub_at a [] hs i v (by simpa using h)
      simp at this
  | none :: a, _ :: b, hs, i, v, h => by
    cases i with
    | zero => simp at h
    | succ i => simpa using l_sub_at a b hs i v (by simpa using h)
  | some _ :: _, [], hs, i, v, h => hs.elim
  | some w :: a, z :: b, hs, i, v, h => by
    cases i with
    | zero => simpa [hs.1] using h
    | succ i => simpa using l_sub_at a b hs.2 i v (by simpa using h)
theorem j_L.sub {ls : Array Slot} {nL : Nat} {A B : List (Option Value)} (h : j_L ls nL B) (hs : l_sub A B) : j_L ls nL A := ⟨h.1, h.2.1, fun i v hi => h.2.2 i v (l_sub_at A B hs i v hi)⟩
def l_ent : List Value → List (Option Value)
  | [] => []
  | v :: vs => if v.category = 2 then some v :: none :: l_ent vs else some v :: l_ent vs
theorem l_ent_args : ∀ (vs : List Value) (k i : Nat) (v : Value), (l_ent vs)[i]? = some (some v) → (k + i, v) ∈ lv_args k vs
  | [], k, i, v, h => by simp [l_ent] at h
  | w :: vs, k, i, v, h => by
    unfold l_ent at h
    unfold lv_args
    split at h
    · rename_i hc
      rw [if_pos hc]
      cases i with
      | zero =>
        simp at h
        subst h
        exact List.mem_cons_self
      | succ i =>
        cases i with
        | zero => simp at h
        | succ i =>
          have := l_ent_args vs (k + 2) i v (by simpa using h)
          rw [show k + (i + 1 + 1) = k + 2 + i by omega]
          exact List.mem_cons_of_mem _ this
    · rename_i hc
      rw [if_neg hc]
      cases i with
      | zero =>
        simp at h
        subst h
        exact List.mem_cons_self
      | succ i =>
        have := l_ent_args vs (k + 1) i v (by simpa using h)
        rw [show k + (i + 1) = k + 1 + i by omega]
        exact List.mem_cons_of_mem _ this
theorem j_L.entry {ls : Array Slot} {nL : Nat} {vs : List Value} {k : Nat} (h : lv_has ls nL (lv_args 0 vs)) : j_L ls nL (l_ent vs ++ List.replicate k none) := by
  refine ⟨h.1, h.2.1, fun i v hi => ?_⟩
  by_cases hl : i < (l_ent vs).length
  · rw [List.getElem?_append_left hl] at hi
    have := l_ent_args vs 0 i v hi
    rw [Nat.zero_add] at this
    exact h.2.2 (i, v) this
  · rw [List.getElem?_append_right (by omega), List.getElem?_replicate] at hi
    split at hi <;> simp at hi
