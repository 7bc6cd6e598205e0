/-! single bits of an int -/
def tb (x : Int32) (k : Nat) : Bool := x.toBitVec.getLsbD k
theorem tb_or (x y : Int32) (k : Nat) : tb (x ||| y) k = (tb x k || tb y k) := by
  unfold tb
  rw [Int32.toBitVec_or, BitVec.getLsbD_or]
theorem tb_zero (k : Nat) : tb 0 k = false := by
  unfold tb
  exact BitVec.getLsbD_zero
theorem tb_one_fin : ∀ i k : Fin 32, tb ((1 : Int32) <<< (nI i.val &&& 31)) k.val = decide (k.val = i.val) := by decide
theorem tb_one {i : Nat} (hi : i < 32) {k : Nat} (hk : k < 32) : tb ((1 : Int32) <<< (nI i &&& 31)) k = decide (k = i) := tb_one_fin ⟨i, hi⟩ ⟨k, hk⟩
theorem sh_fin : ∀ i : Fin 32, ((nI i.val &&& 31).toBitVec.smod 32).toNat = i.val := by decide
theorem tb_shr (x : Int32) {i : Nat} (hi : i < 32) : (x >>> (nI i &&& 31)) &&& 1 = tr (tb x i) := by
  apply Int32.toBitVec_inj.mp
  rw [Int32.toBitVec_and, Int32.toBitVec_shiftRight]
  have h := sh_fin ⟨i, hi⟩
  rw [BitVec.sshiftRight_eq', h]
  rw [show (1 : Int32).toBitVec = 1#32 from rfl, BitVec.and_one_eq_setWidth_ofBool_getLsbD, BitVec.getLsbD_sshiftRight]
  unfold tb tr
  simp only [Nat.add_zero]
  have : ¬ 32 ≤ 0 := by omega
  cases hb : x.toBitVec.getLsbD i
  · simp [hb, hi]
  · simp [hb, hi]
theorem tb_shr0 (x : Int32) {i : Nat} (hi : i < 32) : (x >>> (nI i &&& 31)) &&& 1 = 0 ↔ tb x i = false := by
  rw [tb_shr x hi, tr_ne]
theorem tb_ext {x : Int32} (h : ∀ k, k < 32 → tb x k = false) : x = 0 := by
  apply Int32.toBitVec_inj.mp
  apply BitVec.eq_of_getLsbD_eq
  intro i hi
  rw [show (0 : Int32).toBitVec = 0#32 from rfl, BitVec.getLsbD_zero]
  exact h i hi
theorem tb_18 : tb 262144 18 = true := by decide
theorem tb_18n_fin : ∀ k : Fin 32, k.val ≠ 18 → tb 262144 k.val = false := by decide
theorem tb_18n {k : Nat} (h : k < 32) (hk : k ≠ 18) : tb 262144 k = false := tb_18n_fin ⟨k, h⟩ hk
