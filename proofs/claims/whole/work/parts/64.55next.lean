/-! town: the class's next token -/
def SG : List Nat := [59, 40, 41, 60, 62, 61, 43, 45, 42, 47, 37]
def ixF (v : Nat) : List Nat → Nat → Int32
  | [], _ => -1
  | c :: r, i => if c = v then nI i else ixF v r (i + 1)
theorem idx7_ok {v : Nat} {σ : Mem} (hv : v < 128) : ∀ (l : List Nat) (i n : Nat), i + l.length = 11 → (∀ q, q < l.length → l.getD q 0 = SG.getD (i + q) 0) → l.length < n → J1_indexOfChar_4cfef_7 0 n (nI 11) (nI v) (nI i) σ = some (ixF v l i, σ)
  | [], i, n, h1, h2, h3 => by
    obtain ⟨n, rfl⟩ : ∃ q, n = q + 1 := ⟨n - 1, by omega⟩
    have h1 : i = 11 := h1
    subst h1
    rw [J1_indexOfChar_4cfef_7, if_pos (Int32.le_refl _)]
    rfl
  | c :: r, i, n, h1, h2, h3 => by
    obtain ⟨n, rfl⟩ : ∃ q, n = q + 1 := ⟨n - 1, by omega⟩
    rw [List.length_cons] at h1 h3
    have e0 : c = SG.getD i 0 := h2 0 (by rw [List.length_cons]; omega)
    have hfin : ∀ i : Fin 11, (j_byt.getD 0 []).getD i.val 0 = nI (SG.getD i.val 0) ∧ SG.getD i.val 0 < 128 := by decide +kernel
    have ef := hfin ⟨i, by omega⟩
    rw [J1_indexOfChar_4cfef_7, if_neg (by rw [ni_le (by omega) (by omega)]; omega), if_pos (ib_t (k := j_len.getD 0 0) (show i < 11 by omega) (by decide)), ni_cl (by omega), ef.1, ← e0]
    unfold ixF
    have hc : c < 128 := by rw [e0]; exact ef.2
    by_cases z : c = v
    · rw [if_pos z, if_pos (by rw [z])]
    · rw [if_neg z, if_neg (by rw [ni_inj (by omega) (by omega)]; exact z)]
      show J1_indexOfChar_4cfef_7 0 n (nI 11) (nI v) (nI i + 1) σ = _
      rw [ni_succ]
      refine idx7_ok hv r (i + 1) n (by omega) (fun q hq => ?_) (by omega)
      have := h2 (q + 1) (by rw [List.length_cons]; omega)
      rw [List.getD_cons_succ] at this
      rw [this]
      congr 1
      omega
theorem ixF_sg : ∀ v : Fin 256, (ixF v.val SG 0 < 0 ↔ isSg v.val = false) := by decide +kernel
theorem sg_pos_fin : ∀ v : Fin 256, (¬ sg v.val ≤ 0 ↔ 0 < v.val ∧ v.val < 128) ∧ (v.val < 128 → sg v.val = nI v.val ∧ ((sg v.val).toUInt32 % 65536).toInt32 = nI v.val ∧ (nI v.val).toInt8.toInt32 = nI v.val) ∧ (isSg v.val = true → 3 < v.val ∧ v.val < 128) := by decide +kernel
theorem indexOf_ok {v : Nat} {σ : Mem} (hv : v < 128) : J0_indexOf_0f7a4 0 (nI v) σ = some (ixF v SG 0, σ) := by
  have hl : J0_length_8abf5 0 σ = some (nI 11, σ) := by
    unfold J0_length_8abf5 J0_coder_7d493
    rw [if_neg (by decide), Option.bind_some]
    show some (Int32.ofNat (j_len.getD 0 0) >>> ((Int32.toInt8 0).toInt32 &&& 31), σ) = some (nI 11, σ)
    rw [show Int32.ofNat (j_len.getD 0 0) >>> ((Int32.toInt8 0).toInt32 &&& 31) = nI 11 by decide +kernel]
  have hc : J1_canEncode_9a6ad (nI v) σ = some (1, σ) := by
    unfold J1_canEncode_9a6ad
    rw [if_neg (Int32.not_lt.mpr (ni_nn (by omega))), if_neg (by rw [show (255 : Int32) = nI 255 from rfl, ni_lt (by omega) (by omega)]; omega)]
  have h8 := (sg_pos_fin ⟨v, by omega⟩).2.1 hv
  have hi : J1_indexOfChar_4cfef 0 (nI v) 0 (nI 11) σ = some (ixF v SG 0, σ) := by
    unfold J1_indexOfChar_4cfef
    show J1_indexOfChar_4cfef_7 0 fu (nI 11) (nI v).toInt8.toInt32 (nI 0) σ = _
    rw [show (nI v).toInt8.toInt32 = nI v from h8.2.2]
    exact idx7_ok hv SG 0 fu (by decide) (fun q _ => by rw [Nat.zero_add]) (by decide)
  unfold J0_indexOf_0f7a4 J0_indexOf_7cf53 J0_isLatin1_aae02 J1_indexOf_4cfef
  rw [if_neg (by decide), if_pos rfl, Option.bind_some, if_neg (show ¬ (1 : Int32) = 0 by decide), hl, Option.bind_some, hc, Option.bind_some, if_neg (show ¬ (1 : Int32) = 0 by decide)]
  rw [bv_eq, bv_eq, show imax 0 0 = 0 by decide, show imin (nI 11, σ).1 (Int32.ofNat (j_len.getD 0 0)) = nI 11 from (show imin (nI 11) (Int32.ofNat (j_len.getD 0 0)) = nI 11 by decide), if_pos (show (0 : Int32) < nI 11 by decide)]
  show Option.bind (Option.bind (Option.bind (J1_indexOfChar_4cfef 0 (nI v) 0 (nI 11) σ) _) _) _ = _
  rw [hi]
  rfl
