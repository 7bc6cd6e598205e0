/-! THE MIDDLE: towns, states and hours as plain functions; class and reference both answer as these say.
St: row 0: 5 date, 6 hour, 7 past; rows 1 place, 2 aim, 3 stand, 4 coin by person; 5 debts by 6 * ower + creditor.
Tn: people, day, rows (1 door, 2 from, 3 to, 4 chairs, 5 rest, 6 price), formulas (0 law, 1 interest, 2 rain) -/
abbrev St : Type := Nat → Nat → Int32
abbrev Pg : Type := List (Int32 × Int32)
abbrev Tn : Type := Nat × Nat × (Nat → Nat → Int32) × (Nat → Option Pg)
def ix (x : Int32) : Nat := x.toNatClampNeg
def tr (b : Bool) : Int32 := if b then 1 else 0
/-! formulas: (0, number), (1, which is asked), (2, _) not, (3, sign) -/
def doF (s x y : Int32) : Int32 :=
  if s = 43 then x + y else if s = 45 then x - y else if s = 42 then x * y
  else if s = 47 then (if y = 0 then 0 else x / y) else if s = 37 then (if y = 0 then 0 else x - x / y * y)
  else if s = 60 then tr (x < y) else if s = 62 then tr (y < x) else if s = 61 then tr (x = y)
  else if s = 38 then tr (x ≠ 0 ∧ y ≠ 0) else tr (x ≠ 0 ∨ y ≠ 0)
def ev1 (c : Int32 × Int32) (g : Nat → Int32) (st : List Int32) : List Int32 :=
  if c.1 = 0 then c.2 :: st else if c.1 = 1 then g (ix c.2) :: st
  else if c.1 = 2 then tr (st.headD 0 = 0) :: st.tail
  else doF c.2 (st.tail.headD 0) (st.headD 0) :: st.tail.tail
def evL (pr : Pg) (g : Nat → Int32) (st : List Int32) : List Int32 := pr.foldl (fun st c => ev1 c g st) st
def ev (pr : Pg) (g : Nat → Int32) : Int32 := (evL pr g []).headD 0
/-- codes are good, and from depth d the depth stays within 1 .. 30 behind each step -/
def okC (c : Int32 × Int32) : Prop := c.1 = 0 ∨ (c.1 = 1 ∧ 0 ≤ c.2 ∧ c.2 ≤ 6) ∨ (c.1 = 2 ∧ c.2 = 0) ∨ (c.1 = 3 ∧ (c.2 = 43 ∨ c.2 = 45 ∨ c.2 = 42 ∨ c.2 = 47 ∨ c.2 = 37 ∨ c.2 = 60 ∨ c.2 = 62 ∨ c.2 = 61 ∨ c.2 = 38 ∨ c.2 = 124))
def dp1 (c : Int32 × Int32) (d : Nat) : Nat := if c.1 = 0 ∨ c.1 = 1 then d + 1 else if c.1 = 2 then d else d - 1
def wf (pr : Pg) (d : Nat) : Prop := match pr with
  | [] => True
  | c :: r => okC c ∧ (c.1 = 2 → 1 ≤ d) ∧ (c.1 = 3 → 2 ≤ d) ∧ dp1 c d ≤ 30 ∧ wf r (dp1 c d)
def dpE (pr : Pg) (d : Nat) : Nat := pr.foldl (fun d c => dp1 c d) d
def isPush (c : Int32 × Int32) : Bool := decide (c.1 = 0)
/-! an hour -/
def tN (T : Tn) : Nat := T.1
def tD (T : Tn) : Nat := T.2.1
def tR (T : Tn) (k p : Nat) : Int32 := T.2.2.1 k p
def tP (T : Tn) (w : Nat) : Option Pg := T.2.2.2 w
def rsts (T : Tn) (h : Int32) (p : Nat) : Bool := decide (nI (tD T) - tR T 5 p ≤ h)
def mts (T : Tn) (s : St) (p : Nat) : Bool := decide (s 2 p ≠ -1) && decide (s 2 (ix (s 2 p)) = nI p) && decide (s 1 (ix (s 2 p)) = s 1 p) && !rsts T (s 0 6) p && !rsts T (s 0 6) (ix (s 2 p))
def goalF (T : Tn) (s : St) (p : Nat) : Int32 := if s 2 p = -1 ∨ rsts T (s 0 6) p = true then tR T 1 p else tR T 1 (ix (s 2 p))
def nearF (a b : Int32) : Int32 := if a < b then a + 1 else if b < a then a - 1 else a
def plc (T : Tn) (s : St) (p : Nat) : Int32 := if mts T s p then s 1 p else nearF (s 1 p) (goalF T s p)
def opn (T : Tn) (h : Int32) (q : Nat) : Bool := decide (tR T 2 q ≤ h) && decide (h < tR T 3 q)
def wts (T : Tn) (s : St) (p : Nat) : Bool := mts T s p || (!rsts T (s 0 6) p && decide (s 1 p = goalF T s p) && decide (s 2 p ≠ -1) && opn T (s 0 6) (ix (s 2 p)))
def atD (T : Tn) (s : St) (a : Int32) (r : Nat) : Bool := wts T s r && !mts T s r && decide (s 2 r = a)
def cnt (f : Nat → Bool) : Nat → Nat
  | 0 => 0
  | n + 1 => cnt f n + (if f n then 1 else 0)
def crw (T : Tn) (s : St) (a : Int32) (i : Nat) : Nat := cnt (atD T s a) i
def std (T : Tn) (s : St) (p : Nat) : Bool := !mts T s p && decide (nI (crw T s (s 2 p) p) < tR T 4 (ix (s 2 p)))
def asks2 (d h : Int32) : Nat → Int32 := fun k => if k = 1 then d else if k = 2 then h else 0
def wetF (T : Tn) (d h : Int32) : Int32 := match tP T 2 with
  | none => 0
  | some pr => if ev pr (asks2 d h) = 0 then 0 else 1
def asks7 (T : Tn) (s : St) (o : Int32) (p : Nat) : Nat → Int32 := fun k =>
  if k = 0 then o else if k = 1 then s 0 5 else if k = 2 then s 0 6 else if k = 3 then wetF T (s 0 5) (s 0 6)
  else if k = 4 then tr (std T s p) else if k = 5 then tr (mts T s p) else if k = 6 then (if s 3 p = nI p then 0 else 1) else 0
def clampF (a : Int32) : Int32 := if a < 0 then 0 else if 240 < a then 240 else a
def rawF (T : Tn) (s : St) (o : Int32) (p : Nat) : Int32 := match tP T 0 with
  | none => 60
  | some pr => ev pr (asks7 T s o p)
def lawF (T : Tn) (s : St) (o : Int32) (p : Nat) : Int32 := if o < clampF (rawF T s o p) then o else clampF (rawF T s o p)
def pix (s : St) (p : Nat) : Nat := ix (6 * s 3 p + s 2 p)
/-- coins and debts behind the payment of p, and what p paid; the rest of the state is the hour's own -/
def payF (T : Tn) (s : St) (p : Nat) (cd : (Nat → Int32) × (Nat → Int32)) : Int32 × (Nat → Int32) × (Nat → Int32) :=
  if wts T s p = false ∨ cd.2 (pix s p) = 0 ∨ lawF T s (cd.2 (pix s p)) p = 0 then (0, cd)
  else if s 3 p = nI p then (lawF T s (cd.2 (pix s p)) p, cd.1, upd cd.2 (pix s p) (cd.2 (pix s p) - lawF T s (cd.2 (pix s p)) p))
  else if cd.1 (ix (s 3 p)) < tR T 6 p then (0, cd)
  else (lawF T s (cd.2 (pix s p)) p, upd (upd cd.1 (ix (s 3 p)) (cd.1 (ix (s 3 p)) - tR T 6 p)) p (cd.1 p + tR T 6 p), upd cd.2 (pix s p) (cd.2 (pix s p) - lawF T s (cd.2 (pix s p)) p))
def paysF (T : Tn) (s : St) : Nat → (Nat → Int32) × (Nat → Int32)
  | 0 => (s 4, s 5)
  | i + 1 => (payF T s i (paysF T s i)).2
def paidF (T : Tn) (s : St) (p : Nat) : Int32 := (payF T s p (paysF T s p)).1
def moreF (m o : Int32) : Int32 := if m < 0 then o else if 9999 - o < m then 9999 else o + m
def intF (T : Tn) (date o : Int32) : Int32 := match tP T 1 with
  | none => o
  | some pr => if o = 0 then 0 else moreF (ev pr (fun k => if k = 0 then o else if k = 1 then date else 0)) o
def turnF (T : Tn) (s : St) : St :=
  if s 0 6 + 1 = nI (tD T) then fun k j =>
    if k = 0 then (if j = 5 then s 0 5 + 1 else if j = 6 then 0 else if j = 7 then s 0 7 + 1 else s 0 j)
    else if k = 1 then tR T 1 j else if k = 5 then intF T (s 0 5) (s 5 j) else s k j
  else fun k j => if k = 0 then (if j = 6 then s 0 6 + 1 else if j = 7 then s 0 7 + 1 else s 0 j) else s k j
def goF (T : Tn) (s : St) : St := fun k j =>
  if k = 1 then plc T s j else if k = 4 then (paysF T s (tN T)).1 j else if k = 5 then (paysF T s (tN T)).2 j else s k j
def hourF (T : Tn) (s : St) : St := turnF T (goF T s)
def hoursF (T : Tn) : Nat → St → St
  | 0, s => s
  | n + 1, s => hourF T (hoursF T n s)
/-! what is good -/
def okT (T : Tn) : Prop := tN T ≤ 6 ∧ 2 ≤ tD T ∧ tD T ≤ 24 ∧
  (∀ p, p < tN T → (0 ≤ tR T 2 p ∧ tR T 2 p < tR T 3 p ∧ tR T 3 p ≤ nI (tD T)) ∧ (0 ≤ tR T 6 p ∧ tR T 6 p ≤ 99)) ∧
  (∀ w pr, tP T w = some pr → wf pr 0 ∧ dpE pr 0 = 1 ∧ pr.length ≤ 270)
def okS (T : Tn) (s : St) : Prop :=
  (∀ p, p < tN T → (s 2 p = -1 ∨ ∃ q, q < tN T ∧ q ≠ p ∧ s 2 p = nI q) ∧ (∃ q, q < tN T ∧ s 3 p = nI q) ∧ 0 ≤ s 4 p ∧ (s 4 p).toInt ≤ 999 + 99 * (s 0 7).toInt) ∧
  (∀ i j, i < 6 → j < 6 → (∃ v, v ≤ 9999 ∧ s 5 (6 * i + j) = nI v) ∧ ((tN T ≤ i ∨ tN T ≤ j ∨ i = j) → s 5 (6 * i + j) = 0)) ∧
  (∃ h, h < tD T ∧ s 0 6 = nI h) ∧ (0 ≤ (s 0 7).toInt ∧ (s 0 7).toInt ≤ 3000)
