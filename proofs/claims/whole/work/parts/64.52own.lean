/-! town: the class's own words -/
def OW : List (List Nat) := [[100, 97, 121], [112, 101, 114, 115, 111, 110], [97, 116], [111, 112, 101, 110], [116, 111], [99, 104, 97, 105, 114, 115], [114, 101, 115, 116], [112, 114, 105, 99, 101], [99, 111, 105, 110], [100, 101, 98, 116], [108, 97, 119], [105, 110, 116, 101, 114, 101, 115, 116], [114, 97, 105, 110], [111, 114], [97, 110, 100], [110, 111, 116], [111, 119, 101, 100], [100, 97, 116, 101], [104, 111, 117, 114], [119, 101, 116], [115, 101, 97, 116], [109, 101, 116], [112, 114, 111, 120, 121]]
def SB : List Nat := OW.flatMap (fun w => w ++ [32])
def own (W : List Nat) : List (List Nat) → Nat → Int32
  | [], _ => 3
  | w :: r, j => if w = W then nI j else own W r (j + 1)
def ownK (W : List Nat) : Int32 := own W OW 100
theorem SB_len : SB.length = 113 := by decide
def chF (i : Nat) : Int32 := ((((((j_byt.getD 1 []).getD i 0) &&& 255).toUInt32 % 65536).toInt32).toUInt32.toUInt16.toUInt32.toInt32).toUInt32.toUInt16.toUInt32.toInt32
theorem chF_fin : ∀ i : Fin 113, chF i.val = nI (SB.getD i.val 0) := by decide +kernel
theorem charAt_ok {i : Nat} (hi : i < 113) (σ : Mem) : J0_charAt_5068e 1 (nI i) σ = some (nI (SB.getD i 0), σ) := by
  have e : J0_charAt_5068e 1 (nI i) σ = some (chF i, σ) := by
    have hck : J0_checkIndex_df160 (nI i) (Int32.ofNat (j_len.getD 1 0)) σ = some σ := by
      unfold J0_checkIndex_df160 J3_checkIndex_8e157
      rw [show Int32.ofNat (j_len.getD 1 0) = nI 113 from rfl, if_neg (Int32.not_lt.mpr (ni_nn (by omega))), if_pos ((ni_lt (by omega) (by omega)).mpr hi)]
      rfl
    unfold J0_charAt_5068e J0_isLatin1_aae02 J1_charAt_3b067
    rw [if_neg (by decide), if_pos rfl, Option.bind_some, if_neg (show ¬ (1 : Int32) = 0 by decide), hck, Option.bind_some, if_pos (ib_t (k := j_len.getD 1 0) (show i < 113 from hi) (by decide)), Option.bind_some, ni_cl (by omega)]
    rfl
  rw [e, chF_fin ⟨i, hi⟩]
def pmS (W : List Nat) (x : Option Nat) (c : Nat) : Option Nat := match x with
  | none => none
  | some m => if m < W.length ∧ W.getD m 0 = c then some (m + 1) else none
theorem pm_none (W : List Nat) : ∀ w : List Nat, w.foldl (pmS W) none = none
  | [] => rfl
  | _ :: r => pm_none W r
theorem pm_ok (W : List Nat) : ∀ (w : List Nat) (m : Nat), m ≤ W.length → (w.foldl (pmS W) (some m) = some W.length ↔ W.drop m = w)
  | [], m, h => by
    rw [List.foldl_nil]
    constructor
    · intro e
      rw [Option.some.inj e]
      exact List.drop_length
    · intro e
      have := congrArg List.length e
      rw [List.length_drop] at this
      simp at this
      congr 1
      omega
  | c :: r, m, h => by
    rw [List.foldl_cons]
    show (r.foldl (pmS W) (if m < W.length ∧ W.getD m 0 = c then some (m + 1) else none) = _ ↔ _)
    by_cases z : m < W.length
    · have e : W.drop m = W[m] :: W.drop (m + 1) := List.drop_eq_getElem_cons z
      have g : W.getD m 0 = W[m] := by simp [List.getD, z]
      rw [e, g]
      by_cases y : W[m] = c
      · rw [if_pos ⟨z, y⟩, pm_ok W r (m + 1) (by omega), y]
        constructor
        · intro q
          rw [q]
        · intro q
          exact (List.cons.inj q).2
      · rw [if_neg (fun q => y q.2), pm_none]
        constructor
        · intro q
          cases q
        · intro q
          exact absurd (List.cons.inj q).1 y
    · rw [if_neg (fun q => z q.1), pm_none, List.drop_eq_nil_of_le (by omega)]
      constructor
      · intro q
        cases q
      · intro q
        cases q
theorem len1_ok (σ : Mem) : J0_length_8abf5 1 σ = some (nI 113, σ) := by
  unfold J0_length_8abf5 J0_coder_7d493
  rw [if_neg (by decide), Option.bind_some]
  show some (Int32.ofNat (j_len.getD 1 0) >>> ((Int32.toInt8 0).toInt32 &&& 31), σ) = some (nI 113, σ)
  rw [show Int32.ofNat (j_len.getD 1 0) >>> ((Int32.toInt8 0).toInt32 &&& 31) = nI 113 by decide +kernel]
def enc (x : Option Nat) : Int32 := match x with
  | none => -1
  | some m => nI m
theorem sg_let_fin : ∀ v : Fin 256, isL v.val = true → sg v.val = nI v.val := by decide +kernel
/-- the word on the tape -/
def onT (b : Nat → Nat) (k p : Nat) (W : List Nat) (σ : Mem) : Prop := TC b k σ ∧ W.length ≤ 8 ∧ p + W.length ≤ k ∧ σ.1 3 3 = nI p ∧ σ.1 3 4 = nI (p + W.length) ∧ ∀ m, m < W.length → b (p + m) = W.getD m 0 ∧ isL (b (p + m)) = true
theorem kind7_ok {b : Nat → Nat} {k p : Nat} {W : List Nat} {σ : Mem} (hb : TB b k) (h : onT b k p W σ) {Q : Int32 × Mem → Prop} {j : Nat} : ∀ (w : List Nat) (i n : Nat) (x : Option Nat), (∀ m, x = some m → m ≤ 8) → (∀ c, c ∈ w → c < 256 ∧ c ≠ 32) → i + w.length < 113 → (∀ q, q < w.length → SB.getD (i + q) 0 = w.getD q 0) → w.length < n →
    (∀ n', n ≤ n' + w.length → Ok (X9_kindOfWord_7 n' (nI j) (enc (w.foldl (pmS W) x)) (nI (i + w.length)) σ) Q) → Ok (X9_kindOfWord_7 n (nI j) (enc x) (nI i) σ) Q
  | [], i, n, x, hx, hw, hi, hS, hn, hk => hk n (by simp)
  | c :: r, i, n, x, hx, hw, hi, hS, hn, hk => by
    obtain ⟨n, rfl⟩ : ∃ q, n = q + 1 := ⟨n - 1, by omega⟩
    rw [List.length_cons] at hi hn
    have h1600 := hb.1
    have hc := hw c (.head _)
    have e0 : SB.getD i 0 = c := hS 0 (by rw [List.length_cons]; omega)
    have rec_ : ∀ y, y = pmS W x c → (∀ m, y = some m → m ≤ 8) → Ok (X9_kindOfWord_95 (X9_kindOfWord_7 n) (nI j) (enc y) (nI i) σ) Q := fun y hy hy8 => by
      unfold X9_kindOfWord_95
      refine ok_bv ?_
      rw [ni_succ]
      refine kind7_ok hb h r (i + 1) n y hy8 (fun d hd => hw d (.tail _ hd)) (by omega) (fun q hq => ?_) (by omega) (fun n' hn' => ?_)
      · have := hS (q + 1) (by rw [List.length_cons]; omega)
        rw [List.getD_cons_succ] at this
        rw [show i + 1 + q = i + (q + 1) by omega]
        exact this
      · have := hk n' (by rw [List.length_cons]; omega)
        rw [List.foldl_cons, ← hy, List.length_cons, show i + (r.length + 1) = i + 1 + r.length by omega] at this
        exact this
    rw [X9_kindOfWord_7]
    refine ok_bindE (len1_ok σ) (ok_neg (by show ¬ nI 113 ≤ nI i; rw [ni_le (by omega) (by omega)]; omega) (ok_bindE (charAt_ok (by omega) σ) (ok_bv ?_)))
    show Ok (if nI (SB.getD i 0) = 32 then _ else _) Q
    rw [e0]
    refine ok_neg (fun e => hc.2 ?_) ?_
    · rw [show (32 : Int32) = nI 32 from rfl, ni_inj (by omega) (by omega)] at e
      exact e
    have eL : σ.1 3 4 - σ.1 3 3 = nI W.length := by rw [h.2.2.2.1, h.2.2.2.2.1, ni_sub (by omega)]; congr 1; omega
    cases x with
    | none =>
      refine ok_pos (by decide) ?_
      unfold X9_kindOfWord_93
      exact ok_bv (rec_ none rfl (fun m hm => by cases hm))
    | some m =>
      have hm8 := hx m rfl
      have hW8 := h.2.1
      refine ok_neg (Int32.not_lt.mpr (ni_nn (by omega))) ?_
      show Ok (if σ.1 3 4 - σ.1 3 3 ≤ nI m then _ else _) Q
      rw [eL]
      refine ok_ite (fun z => ?_) (fun z => ?_)
      · rw [ni_le (by omega) (by omega)] at z
        unfold X9_kindOfWord_93
        refine ok_bv (rec_ none ?_ (fun m hm => by cases hm))
        show none = if m < W.length ∧ W.getD m 0 = c then some (m + 1) else none
        rw [if_neg (by omega)]
      · rw [ni_le (by omega) (by omega)] at z
        have hm := h.2.2.2.2.2 m (by omega)
        have hpk := h.2.2.1
        have e1 : σ.1 1 (p + m) = nI (W.getD m 0) := by
          have e3 : sg (b (p + m)) = nI (b (p + m)) := sg_let_fin ⟨b (p + m), hb.2 _ (by omega)⟩ hm.2
          rw [h.1.2.2 _ (by omega), e3, hm.1]
        have hW256 : W.getD m 0 < 256 := by rw [← hm.1]; exact hb.2 _ (by omega)
        refine ok_pos h.1.1.1 ?_
        show Ok (if ib (σ.1 3 3 + nI m) 1600 = true then (if σ.1 1 (σ.1 3 3 + nI m).toNatClampNeg = nI c then bv (nI m + 1) _ else _) else none) Q
        rw [h.2.2.2.1, ni_add, ni_cl (by omega), e1]
        refine ok_pos (ib_t (by omega) (by omega)) (ok_ite (fun y => ?_) (fun y => ?_))
        · rw [ni_inj (by omega) (by omega)] at y
          refine ok_bv ?_
          rw [ni_succ]
          refine rec_ (some (m + 1)) ?_ (fun q hq => by cases hq; omega)
          show some (m + 1) = if m < W.length ∧ W.getD m 0 = c then some (m + 1) else none
          rw [if_pos ⟨by omega, y⟩]
        · rw [ni_inj (by omega) (by omega)] at y
          unfold X9_kindOfWord_93
          refine ok_bv (rec_ none ?_ (fun q hq => by cases hq))
          show none = if m < W.length ∧ W.getD m 0 = c then some (m + 1) else none
          rw [if_neg (fun q => y q.2)]
