def fu : Nat := 5000
theorem l_sub_nil {B : List (Option Value)} : l_sub [] B := trivial
theorem l_sub_none {a b : List (Option Value)} {w : Option Value} (h : l_sub a b) : l_sub (none :: a) (w :: b) := h
theorem l_sub_some {a b : List (Option Value)} {v : Value} (h : l_sub a b) : l_sub (some v :: a) (some v :: b) := ⟨rfl, h⟩
theorem ne_toInt {x c : Int32} (h : ¬ x = c) : x.toInt ≠ c.toInt := fun e => h (Int32.toInt_inj.mp e)
section JO2
variable {α : Type} {G : JG} {y : MI} {d pc : Nat} {L : List (Option Value)} {S : List Value} {σ : Mem} {ι : α → Option Value × Mem} {r r1 r2 : Option α}
theorem JO_ite {c : Prop} [Decidable c] (h1 : c → JO G y d pc L S σ ι r1) (h2 : ¬ c → JO G y d pc L S σ ι r2) : JO G y d pc L S σ ι (if c then r1 else r2) := by
  by_cases z : c
  · rw [if_pos z]; exact h1 z
  · rw [if_neg z]; exact h2 z
theorem JO_inc {n : Nat} {i : Int} {a b : Int32} {f : Int32 → Option α} {L' : Int32 → List (Option Value)} (hd : decode y.2.1 pc = .ok (.iinc n i, 3)) (hb : Nat.blt n y.2.2.1 = true) (ha : L[n]? = some (some (.int a))) (hi : Int32.ofInt i = b) (hn : l_nl L n = true) (hL : ∀ x, L.set n (some (.int x)) = L' x) (h : ∀ x : Int32, JO G y d (pc + 3) (L' x) S σ ι (f x)) : JO G y d pc L S σ ι (bv (a + b) f) := JO_iinc hd hb ha hi hn (fun x => by rw [hL]; exact h x)
theorem JO_tin {dflt lo hi : Int} {offs : Array Int} {len : Nat} {x : Int32} {off' : Int} {tgt : Nat} (hd : decode y.2.1 pc = .ok (.tableswitch dflt lo hi offs, len)) (g1 : ¬ x.toInt < lo) (g2 : ¬ hi < x.toInt) (ho : offs[(x.toInt - lo).toNat]? = some off') (ht : (pc : Int) + off' = (tgt : Int)) (h : JO G y d tgt L S σ ι r) : JO G y d pc L (.int x :: S) σ ι r := fun v hv => J_tin hd g1 g2 ho ht (h v hv)
theorem JO_tout {dflt lo hi : Int} {offs : Array Int} {len : Nat} {x : Int32} {tgt : Nat} (hd : decode y.2.1 pc = .ok (.tableswitch dflt lo hi offs, len)) (g : x.toInt < lo ∨ hi < x.toInt) (ht : (pc : Int) + dflt = (tgt : Int)) (h : JO G y d tgt L S σ ι r) : JO G y d pc L (.int x :: S) σ ι r := fun v hv => J_tout hd g ht (h v hv)
theorem JO_look {dflt : Int} {ps : Array (Int × Int)} {len : Nat} {x : Int32} {off' : Int} {tgt : Nat} (hd : decode y.2.1 pc = .ok (.lookupswitch dflt ps, len)) (hp : (ps.toList.zip (ps.toList.drop 1)).all (fun (a, next) => a.1 < next.1) = true) (ho : Op.lookupswitch.offset ps.toList dflt x.toInt = off') (ht : (pc : Int) + off' = (tgt : Int)) (h : JO G y d tgt L S σ ι r) : JO G y d pc L (.int x :: S) σ ι r := fun v hv => J_look hd hp ho ht (h v hv)
theorem JO_ialdc {o n : Nat} {i : Int32} {k : Nat} (ha : akind SH o = some (0, n)) (hz : ib i n = true) (hk : i.toNatClampNeg = k) (hd : decode y.2.1 pc = .ok (.iaload, 1)) (h : JO G y d (pc + 1) L (.int (σ.1 o k) :: S) σ ι r) : JO G y d pc L (.int i :: .ref (G.1 + off o) :: S) σ ι r := fun v hv => J_iald ha (ib_in hz) hd (by rw [hk]; exact h v hv)
theorem JO_iastc {o n : Nat} {i : Int32} {k : Nat} {x : Int32} {f : Mem → Option α} (ha : akind SH o = some (0, n)) (hz : ib i n = true) (hk : i.toNatClampNeg = k) (hd : decode y.2.1 pc = .ok (.iastore, 1)) (h : ∀ σ' : Mem, JO G y d (pc + 1) L S σ' ι (f σ')) : JO G y d pc L (.int x :: .int i :: .ref (G.1 + off o) :: S) σ ι (bv (sI σ o k x) f) := fun v hv => J_iast ha (ib_in hz) hd (by rw [hk]; exact h _ v hv)
theorem JO_zastc {o n : Nat} {i : Int32} {x : Int32} {f : Mem → Option α} (ha : akind SH o = some (2, n)) (hx : x &&& 1 = x) (hd : decode y.2.1 pc = .ok (.bastore, 1)) (h : ∀ σ' : Mem, JO G y d (pc + 1) L S σ' ι (f σ')) : JO G y d pc L (.int x :: .int i :: .ref (G.1 + off o) :: S) σ ι (if ib i n = true then bv (sI σ o i.toNatClampNeg x) f else none) := by
  have := JO_zast (σ := σ) (x := x) (i := i) (S := S) (L := L) (f := f) ha hd h
  rw [hx] at this
  exact this
theorem JO_putZc {own : String} {idx ci k o : Nat} (fl : FL own idx ci k .boolean false) (ho : own = y.1.cls) {a : Int32} {f : Mem → Option α} (hz : a = 0 ∨ a = 1) (hf : fkind SH o k = some (ci, 0)) (hd : decode y.2.1 pc = .ok (.putfield idx, 3)) (h : ∀ σ' : Mem, JO G y d (pc + 3) L S σ' ι (f σ')) : JO G y d pc L (.int a :: .ref (G.1 + off o) :: S) σ ι (bv (sI σ o k a) f) := fun v hv => J_putZ fl ho hf hd hz (h _ v hv)
theorem JO_retzc {a : Int32} (hz : a &&& 1 = a) (hr : y.2.2.2 = some .boolean) (hd : decode y.2.1 pc = .ok (.ireturn, 1)) : JO G y d pc L [.int a] σ rI (some (a, σ)) := by
  have := JO_retz (G := G) (d := d) (L := L) (σ := σ) (a := a) hr hd
  rw [hz] at this
  exact this
end JO2
/-- the string constants: a sign, and where a sign stands -/
def sCh (i : Nat) (k : Int32) : Int32 := (j_byt.getD i []).getD k.toNatClampNeg 0
def sIxF (c : Int32) : List Int32 → Nat → Int32
  | [], _ => -1
  | b :: l, k => if b = c then nI k else sIxF c l (k + 1)
def sIx (i : Nat) (c : Int32) : Int32 := sIxF c (j_byt.getD i []) 0
def imax (a b : Int32) : Int32 := if a < b then b else a
def imin (a b : Int32) : Int32 := if b < a then b else a
section JOMath
variable {α : Type} {G : JG} {y : MI} {d pc : Nat} {L : List (Option Value)} {S : List Value} {σ : Mem} {ι : α → Option Value × Mem} {r : Option α}
theorem JO_mmax {own : String} {idx : Nat} {a b : Int32} (lk : LMmax own idx) (ho : own = y.1.cls) (hst : (S.map fun v => v.category).sum ≤ 8) (hd : decode y.2.1 pc = .ok (.invokestatic idx, 3)) (h : JO G y (d + 1) (pc + 3) L (.int (imax a b) :: S) σ ι r) : JO G y (d + 1) pc L (.int b :: .int a :: S) σ ι r := fun v hv => by
  intro p l e R s m args below meth c H locs ls Q C hH hz hS hl h1 h2
  subst ho
  obtain ⟨c1, c2, c3, c4, c5, c6, c7, c8, c9, c10⟩ := id C
  exact va_mmax c1 c2 (by rw [c3]; exact hl.1.symm) c4 (c5 _ lk.1) (c5 _ lk.2.1) (c5 _ lk.2.2.1) (c5 _ lk.2.2.2) (by omega) (by omega) (by omega) (by omega) hd (h v hv p l e R s m args below meth c H locs ls Q C hH hz hS hl h1 h2)
theorem JO_mmin {own : String} {idx : Nat} {a b : Int32} (lk : LMmin own idx) (ho : own = y.1.cls) (hst : (S.map fun v => v.category).sum ≤ 8) (hd : decode y.2.1 pc = .ok (.invokestatic idx, 3)) (h : JO G y (d + 1) (pc + 3) L (.int (imin a b) :: S) σ ι r) : JO G y (d + 1) pc L (.int b :: .int a :: S) σ ι r := fun v hv => by
  intro p l e R s m args below meth c H locs ls Q C hH hz hS hl h1 h2
  subst ho
  obtain ⟨c1, c2, c3, c4, c5, c6, c7, c8, c9, c10⟩ := id C
  exact va_mmin c1 c2 (by rw [c3]; exact hl.1.symm) c4 (c5 _ lk.1) (c5 _ lk.2.1) (c5 _ lk.2.2.1) (c5 _ lk.2.2.2) (by omega) (by omega) (by omega) (by omega) hd (h v hv p l e R s m args below meth c H locs ls Q C hH hz hS hl h1 h2)
end JOMath
