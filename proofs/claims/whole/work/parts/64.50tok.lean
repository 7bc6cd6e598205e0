/-! town: bytes and tokens -/
def sg (v : Nat) : Int32 := (nI v).toInt8.toInt32
def isL (v : Nat) : Bool := decide (97 ≤ v) && decide (v ≤ 122)
def isDg (v : Nat) : Bool := decide (48 ≤ v) && decide (v ≤ 57)
def isBl (v : Nat) : Bool := decide (v = 32) || decide (v = 10)
def isSg (v : Nat) : Bool := [59, 40, 41, 60, 62, 61, 43, 45, 42, 47, 37].contains v
/-- the tape: bytes by, k of them -/
def TC (by_ : Nat → Nat) (k : Nat) (σ : Mem) : Prop := (σ.1 3 0 = nI 1 ∧ σ.1 2 6 = -1) ∧ σ.1 3 1 = nI k ∧ ∀ i, i < k → σ.1 1 i = sg (by_ i)
def TM (by_ : Nat → Nat) (k : Nat) (ρ : Mem) : Prop := (ρ.1 1000 5 = nI k ∧ ρ.1 1000 3 = -1) ∧ ∀ i, i < k → ρ.1 1001 i = nI (by_ i)
def TB (by_ : Nat → Nat) (k : Nat) : Prop := k ≤ 1600 ∧ ∀ i, i < k → by_ i < 256
theorem sg_L_fin : ∀ v : Fin 256, (if sg v.val < 97 then (0 : Int32) else if 122 < sg v.val then 0 else 1) = tr (isL v.val) := by decide +kernel
theorem sg_D_fin : ∀ v : Fin 256, (if sg v.val < 48 then (0 : Int32) else if 57 < sg v.val then 0 else 1) = tr (isDg v.val) := by decide +kernel
theorem sg_32_fin : ∀ v : Fin 256, (sg v.val = 32 ↔ v.val = 32) ∧ (sg v.val = 10 ↔ v.val = 10) := by decide +kernel
theorem sg_L {v : Nat} (h : v < 256) : (if sg v < 97 then (0 : Int32) else if 122 < sg v then 0 else 1) = tr (isL v) := sg_L_fin ⟨v, h⟩
theorem sg_D {v : Nat} (h : v < 256) : (if sg v < 48 then (0 : Int32) else if 57 < sg v then 0 else 1) = tr (isDg v) := sg_D_fin ⟨v, h⟩
theorem isLetterC_ok {b : Nat → Nat} {k i : Nat} {σ : Mem} (hb : TB b k) (h : TC b k σ) (hi : i < k) : X9_isLetter (nI i) σ = some (tr (isL (b i)), σ) := by
  have h1600 := hb.1
  have bi := ib_t (n := i) (k := 1600) (by omega) (by omega)
  unfold X9_isLetter
  rw [if_pos h.1.1, if_pos bi, ni_cl (by omega), h.2.2 i hi, ← sg_L (hb.2 i hi), if_pos h.1.1, if_pos bi]
  split
  · rfl
  · split <;> rfl
theorem isDigitC_ok {b : Nat → Nat} {k i : Nat} {σ : Mem} (hb : TB b k) (h : TC b k σ) (hi : i < k) : X9_isDigit (nI i) σ = some (tr (isDg (b i)), σ) := by
  have h1600 := hb.1
  have bi := ib_t (n := i) (k := 1600) (by omega) (by omega)
  unfold X9_isDigit
  rw [if_pos h.1.1, if_pos bi, ni_cl (by omega), h.2.2 i hi, ← sg_D (hb.2 i hi), if_pos h.1.1, if_pos bi]
  split
  · rfl
  · split <;> rfl
theorem nI_L_fin : ∀ v : Fin 256, (if nI v.val < 97 then (0 : Int32) else if 122 < nI v.val then 0 else 1) = tr (isL v.val) := by decide +kernel
theorem nI_D_fin : ∀ v : Fin 256, (if nI v.val < 48 then (0 : Int32) else if 57 < nI v.val then 0 else 1) = tr (isDg v.val) := by decide +kernel
theorem isLetterM_ok {v : Nat} (h : v < 256) (ρ : Mem) : X12_isLetter (nI v) ρ = some (tr (isL v), ρ) := by
  unfold X12_isLetter
  rw [← nI_L_fin ⟨v, h⟩]
  split
  · rfl
  · split <;> rfl
theorem isDigitM_ok {v : Nat} (h : v < 256) (ρ : Mem) : X12_isDigit (nI v) ρ = some (tr (isDg v), ρ) := by
  unfold X12_isDigit
  rw [← nI_D_fin ⟨v, h⟩]
  split
  · rfl
  · split <;> rfl
/-- a byte, or -1 behind the end -/
def hr (b : Nat → Nat) (k p : Nat) : Int32 := if p < k then nI (b p) else -1
theorem here_ok {b : Nat → Nat} {k p d : Nat} {ρ : Mem} (hb : TB b k) (h : TM b k ρ) (h4 : ρ.1 1000 4 = nI p) (hp : p + d < 10000) : X12_here (nI d) ρ = some (hr b k (p + d), ρ) := by
  have h1600 := hb.1
  unfold X12_here hr
  rw [h.1.1, h4, ni_add]
  by_cases z : p + d < k
  · rw [if_neg (by rw [ni_le (by omega) (by omega)]; omega), if_pos (ib_t (by omega) (by omega)), ni_cl (by omega), if_pos z, h.2 _ z]
  · rw [if_pos (by rw [ni_le (by omega) (by omega)]; omega), if_neg z]
theorem isLetterM_hr {b : Nat → Nat} {k p : Nat} (hb : TB b k) (ρ : Mem) : X12_isLetter (hr b k p) ρ = some (tr (decide (p < k) && isL (b p)), ρ) := by
  unfold hr
  by_cases z : p < k
  · rw [if_pos z, isLetterM_ok (hb.2 p z), decide_eq_true z, Bool.true_and]
  · rw [if_neg z, decide_eq_false z]
    rfl
theorem isDigitM_hr {b : Nat → Nat} {k p : Nat} (hb : TB b k) (ρ : Mem) : X12_isDigit (hr b k p) ρ = some (tr (decide (p < k) && isDg (b p)), ρ) := by
  unfold hr
  by_cases z : p < k
  · rw [if_pos z, isDigitM_ok (hb.2 p z), decide_eq_true z, Bool.true_and]
  · rw [if_neg z, decide_eq_false z]
    rfl
/-! the middle's tokens -/
/-- how many from p on, at most r, that f likes -/
def run (f : Nat → Bool) (b : Nat → Nat) : Nat → Nat → Nat
  | 0, _ => 0
  | r + 1, p => if f (b p) then run f b r (p + 1) + 1 else 0
theorem run_le (f : Nat → Bool) (b : Nat → Nat) : ∀ r p, run f b r p ≤ r
  | 0, _ => Nat.le_refl _
  | r + 1, p => by
    unfold run
    split
    · exact Nat.succ_le_succ (run_le f b r (p + 1))
    · exact Nat.zero_le _
def numV (b : Nat → Nat) : Nat → Nat → Nat → Nat
  | 0, _, v => v
  | n + 1, p, v => numV b n (p + 1) (10 * v + (b p - 48))
def lets (b : Nat → Nat) : Nat → Nat → List Nat
  | 0, _ => []
  | n + 1, p => b p :: lets b n (p + 1)
/-- kind (0 end, 1 bad, 2 number, 3 word, else a sign), start, stop -/
abbrev Tk : Type := Nat × Nat × Nat
def tokAt (b : Nat → Nat) (k q : Nat) : Tk :=
  if q < k then
    if isL (b q) then (if run isL b (k - q) q ≤ 8 then 3 else 1, q, q + run isL b (k - q) q)
    else if isDg (b q) then (if 4 < run isDg b (k - q) q ∨ (q + run isDg b (k - q) q < k ∧ isL (b (q + run isDg b (k - q) q)) = true) then 1 else 2, q, q + run isDg b (k - q) q)
    else (if isSg (b q) then b q else 1, q, q + 1)
  else (0, q, q)
def nxt (b : Nat → Nat) (k p : Nat) : Tk := tokAt b k (p + run isBl b (k - p) p)
