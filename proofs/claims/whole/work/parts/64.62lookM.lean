/-! town: what the reference looks at in a formula -/
def hasRel : List Int32 → Bool
  | [] => false
  | s :: r => if s = 20 then false else if tgN s ≤ 4 then decide (tgN s = 4) else hasRel r
theorem hasRel7_ok {ρ : Mem} : ∀ (stk : List Int32) (n : Nat), VS 0 stk (ρ.1 1009) → stk.length ≤ 160 → stk.length < n → X12_hasRelation_7 n (nI stk.length - 1) ρ = some (tr (hasRel stk), ρ)
  | [], n, _, _, hn => by
    obtain ⟨n, rfl⟩ : ∃ j, n = j + 1 := ⟨n - 1, by omega⟩
    rw [X12_hasRelation_7, if_pos (show nI ([] : List Int32).length - 1 < 0 by decide)]
    unfold X12_hasRelation_41
    rw [if_pos (show nI ([] : List Int32).length - 1 < 0 by decide)]
    rfl
  | s :: r, n, hV, hl, hn => by
    rw [List.length_cons] at hl hn ⊢
    obtain ⟨n, rfl⟩ : ∃ j, n = j + 1 := ⟨n - 1, by omega⟩
    have e9 : ρ.1 1009 r.length = s := by
      have := hV.1
      rw [Nat.zero_add] at this
      exact this
    have g0 : ¬ nI r.length < 0 := Int32.not_lt.mpr (ni_nn (by omega))
    have gb := ib_t (n := r.length) (k := 160) (by omega) (by omega)
    have ht := tgN_le s
    have e41 : X12_hasRelation_41 (nI r.length) ρ = some (if s = 20 then 0 else if tgN s = 4 then 1 else 0, ρ) := by
      unfold X12_hasRelation_41
      rw [if_neg g0, if_pos gb, ni_cl (by omega), e9]
      by_cases z : s = 20
      · rw [if_pos z, if_pos z]
      · rw [if_neg z, if_neg z, if_pos gb, tight_ok, Option.bind_some]
        show (if nI (tgN s) = nI 4 then _ else _) = _
        by_cases y : tgN s = 4
        · rw [if_pos y, if_pos (by rw [y])]
        · rw [if_neg y, if_neg (by rw [ni_inj (by omega) (by omega)]; exact y)]
    rw [ni_pred, X12_hasRelation_7, if_neg g0, if_pos gb, ni_cl (by omega), e9]
    unfold hasRel
    by_cases z : s = 20
    · rw [if_pos z, if_pos z, e41, if_pos z]
      rfl
    · rw [if_neg z, if_neg z, if_pos gb, tight_ok, Option.bind_some]
      show (if nI (tgN s) ≤ nI 4 then X12_hasRelation_41 (nI r.length) ρ else _) = _
      by_cases y : tgN s ≤ 4
      · rw [if_pos y, if_pos ((ni_le (by omega) (by omega)).mpr y), e41, if_neg z]
        by_cases q : tgN s = 4
        · rw [if_pos q, decide_eq_true q]
          rfl
        · rw [if_neg q, decide_eq_false q]
          rfl
      · rw [if_neg y, if_neg (by rw [ni_le (by omega) (by omega)]; exact y), bv_eq, ← Int32.sub_eq_add_neg]
        exact hasRel7_ok r n hV.2 (by omega) (by omega)
theorem hasRelation_ok {ρ : Mem} {stk : List Int32} (h : RS stk ρ) (hl : stk.length ≤ 160) : X12_hasRelation ρ = some (tr (hasRel stk), ρ) := by
  unfold X12_hasRelation
  rw [bv_eq, h.1]
  exact hasRel7_ok stk fu h.2.1 hl (by unfold fu; omega)
def anyB (g : Nat → Int32) : Nat → Nat → Bool
  | 0, _ => false
  | r + 1, i => decide (g i = 20) || anyB g r (i + 1)
def hasB (stk : List Int32) : Bool := stk.any (fun s => decide (s = 20))
theorem anyB_snoc (g : Nat → Int32) : ∀ r i, anyB g (r + 1) i = (anyB g r i || decide (g (i + r) = 20))
  | 0, i => by
    unfold anyB
    rw [Bool.or_comm]
    rfl
  | r + 1, i => by
    rw [anyB, anyB_snoc g r (i + 1), anyB, Bool.or_assoc, show i + 1 + r = i + (r + 1) by omega]
theorem anyB_stk (g : Nat → Int32) : ∀ stk, VS 0 stk g → anyB g stk.length 0 = hasB stk
  | [], _ => rfl
  | s :: r, h => by
    have e := h.1
    rw [List.length_cons, anyB_snoc, anyB_stk g r h.2, e, Bool.or_comm]
    rfl
theorem hb4_ok {ρ : Mem} {len : Nat} (h20 : ρ.1 1000 20 = nI len) (hl : len ≤ 160) : ∀ (r i n : Nat) (a : Bool), i + r = len → r < n → X12_hasBracket_4 n (tr a) (nI i) ρ = some (tr (a || anyB (ρ.1 1009) r i), ρ)
  | 0, i, n, a, h1, h2 => by
    obtain ⟨n, rfl⟩ : ∃ j, n = j + 1 := ⟨n - 1, by omega⟩
    rw [X12_hasBracket_4, h20, if_pos ((ni_le (by omega) (by omega)).mpr (by omega))]
    cases a <;> rfl
  | r + 1, i, n, a, h1, h2 => by
    obtain ⟨n, rfl⟩ : ∃ j, n = j + 1 := ⟨n - 1, by omega⟩
    have gb := ib_t (n := i) (k := 160) (by omega) (by omega)
    have yes := hb4_ok h20 hl r (i + 1) n true (by omega) (by omega)
    have no := hb4_ok h20 hl r (i + 1) n false (by omega) (by omega)
    rw [X12_hasBracket_4, h20, if_neg (by rw [ni_le (by omega) (by omega)]; omega)]
    unfold X12_hasBracket_27 X12_hasBracket_32
    rw [bv_eq, bv_eq, ni_succ, ni_cl (by omega)]
    unfold anyB
    cases a with
    | true =>
      rw [if_neg (show ¬ tr true = 0 from one_ne)]
      exact yes
    | false =>
      rw [if_pos (show tr false = 0 from rfl), if_pos gb]
      by_cases z : ρ.1 1009 i = 20
      · rw [if_pos z, decide_eq_true z]
        exact yes
      · rw [if_neg z, decide_eq_false z]
        exact no
theorem hasBracket_ok {ρ : Mem} {stk : List Int32} (h : RS stk ρ) (hl : stk.length ≤ 160) : X12_hasBracket ρ = some (tr (hasB stk), ρ) := by
  unfold X12_hasBracket
  rw [bv_eq, bv_eq, ← anyB_stk _ stk h.2.1]
  exact hb4_ok h.1 hl stk.length 0 fu false (by omega) (by unfold fu; omega)
def mayN : List Int32 → Bool
  | [] => true
  | s :: _ => decide (s = 20) || decide (tgN s < 4)
theorem mayNot_ok {ρ : Mem} {stk : List Int32} (h : RS stk ρ) (hl : stk.length ≤ 160) : X12_mayNot ρ = some (tr (mayN stk), ρ) := by
  unfold X12_mayNot
  cases stk with
  | nil =>
    rw [if_pos (show ρ.1 1000 20 = 0 from h.1)]
    rfl
  | cons s r =>
    rw [List.length_cons] at hl
    have e20 : ρ.1 1000 20 = nI (r.length + 1) := h.1
    have e9 : ρ.1 1009 r.length = s := by
      have := h.2.1.1
      rw [Nat.zero_add] at this
      exact this
    have gb := ib_t (n := r.length) (k := 160) (by omega) (by omega)
    have ht := tgN_le s
    rw [e20, if_neg (by rw [show (0 : Int32) = nI 0 from rfl, ni_inj (by omega) (by omega)]; omega), ni_pred, if_pos gb, ni_cl (by omega), e9]
    rw [show mayN (s :: r) = (decide (s = 20) || decide (tgN s < 4)) from rfl]
    by_cases z : s = 20
    · rw [if_pos z, decide_eq_true z]
      rfl
    · rw [if_neg z, if_pos gb, tight_ok, Option.bind_some, decide_eq_false z, Bool.false_or]
      show (if nI 4 ≤ nI (tgN s) then _ else _) = _
      by_cases y : tgN s < 4
      · rw [if_neg (by rw [ni_le (by omega) (by omega)]; omega), decide_eq_true y]
        rfl
      · rw [if_pos ((ni_le (by omega) (by omega)).mpr (by omega)), decide_eq_false y]
        rfl
def sgK (v : Int32) : Int32 := if v = 114 then 38 else if v = 113 then 124 else if v = 60 then 60 else if v = 62 then 62 else if v = 61 then 61 else if v = 43 then 43 else if v = 45 then 45 else if v = 42 then 42 else if v = 47 then 47 else if v = 37 then 37 else 0
theorem sign_ok {b : Nat → Nat} {k : Nat} {x : Tk} {ρ : Mem} (hw : TW b k x) (h : RTok b k x ρ) : X12_sign ρ = some (sgK (kindC b x), ρ) := by
  have e6 := h.2.2.1
  unfold X12_sign sgK
  rw [isWordM_ok 14 hw h (by decide) wc14, Option.bind_some]
  by_cases z : kindC b x = 114
  · rw [if_pos z]
    show (if tr (decide (kindC b x = nI 114)) = 0 then _ else _) = _
    rw [decide_eq_true (show kindC b x = nI 114 from z)]
    rfl
  rw [if_neg z]
  show (if tr (decide (kindC b x = nI 114)) = 0 then (X12_isWord 28530 ρ).bind _ else _) = _
  rw [decide_eq_false (show ¬ kindC b x = nI 114 from z), if_pos (show tr false = 0 from rfl), isWordM_ok 13 hw h (by decide) wc13, Option.bind_some]
  by_cases y : kindC b x = 113
  · rw [if_pos y]
    show (if tr (decide (kindC b x = nI 113)) = 0 then _ else _) = _
    rw [decide_eq_true (show kindC b x = nI 113 from y)]
    rfl
  rw [if_neg y]
  show (if tr (decide (kindC b x = nI 113)) = 0 then _ else _) = _
  rw [decide_eq_false (show ¬ kindC b x = nI 113 from y), if_pos (show tr false = 0 from rfl)]
  have ks : ∀ v : Nat, v ≠ 1 → v ≠ 3 → v < 100 → (ρ.1 1000 6 = nI v ↔ kindC b x = nI v) := fun v h1 h3 hv => by rw [e6]; exact kind_sort hw h1 h3 hv
  show (if ρ.1 1000 6 = 60 then some (ρ.1 1000 6, ρ) else if ρ.1 1000 6 = 62 then some (ρ.1 1000 6, ρ) else if ρ.1 1000 6 = 61 then some (ρ.1 1000 6, ρ) else if ρ.1 1000 6 = 43 then some (ρ.1 1000 6, ρ) else if ρ.1 1000 6 = 45 then some (ρ.1 1000 6, ρ) else if ρ.1 1000 6 = 42 then some (ρ.1 1000 6, ρ) else if ρ.1 1000 6 = 47 then some (ρ.1 1000 6, ρ) else if ρ.1 1000 6 = 37 then some (ρ.1 1000 6, ρ) else some (0, ρ)) = _
  by_cases z60 : kindC b x = 60
  · have e := (ks 60 (by decide) (by decide) (by decide)).mpr z60
    rw [if_pos z60, if_pos (show ρ.1 1000 6 = 60 from e), e]
    rfl
  rw [if_neg z60, if_neg (fun e : ρ.1 1000 6 = 60 => z60 ((ks 60 (by decide) (by decide) (by decide)).mp e))]
  by_cases z62 : kindC b x = 62
  · have e := (ks 62 (by decide) (by decide) (by decide)).mpr z62
    rw [if_pos z62, if_pos (show ρ.1 1000 6 = 62 from e), e]
    rfl
  rw [if_neg z62, if_neg (fun e : ρ.1 1000 6 = 62 => z62 ((ks 62 (by decide) (by decide) (by decide)).mp e))]
  by_cases z61 : kindC b x = 61
  · have e := (ks 61 (by decide) (by decide) (by decide)).mpr z61
    rw [if_pos z61, if_pos (show ρ.1 1000 6 = 61 from e), e]
    rfl
  rw [if_neg z61, if_neg (fun e : ρ.1 1000 6 = 61 => z61 ((ks 61 (by decide) (by decide) (by decide)).mp e))]
  by_cases z43 : kindC b x = 43
  · have e := (ks 43 (by decide) (by decide) (by decide)).mpr z43
    rw [if_pos z43, if_pos (show ρ.1 1000 6 = 43 from e), e]
    rfl
  rw [if_neg z43, if_neg (fun e : ρ.1 1000 6 = 43 => z43 ((ks 43 (by decide) (by decide) (by decide)).mp e))]
  by_cases z45 : kindC b x = 45
  · have e := (ks 45 (by decide) (by decide) (by decide)).mpr z45
    rw [if_pos z45, if_pos (show ρ.1 1000 6 = 45 from e), e]
    rfl
  rw [if_neg z45, if_neg (fun e : ρ.1 1000 6 = 45 => z45 ((ks 45 (by decide) (by decide) (by decide)).mp e))]
  by_cases z42 : kindC b x = 42
  · have e := (ks 42 (by decide) (by decide) (by decide)).mpr z42
    rw [if_pos z42, if_pos (show ρ.1 1000 6 = 42 from e), e]
    rfl
  rw [if_neg z42, if_neg (fun e : ρ.1 1000 6 = 42 => z42 ((ks 42 (by decide) (by decide) (by decide)).mp e))]
  by_cases z47 : kindC b x = 47
  · have e := (ks 47 (by decide) (by decide) (by decide)).mpr z47
    rw [if_pos z47, if_pos (show ρ.1 1000 6 = 47 from e), e]
    rfl
  rw [if_neg z47, if_neg (fun e : ρ.1 1000 6 = 47 => z47 ((ks 47 (by decide) (by decide) (by decide)).mp e))]
  by_cases z37 : kindC b x = 37
  · have e := (ks 37 (by decide) (by decide) (by decide)).mpr z37
    rw [if_pos z37, if_pos (show ρ.1 1000 6 = 37 from e), e]
    rfl
  rw [if_neg z37, if_neg (fun e : ρ.1 1000 6 = 37 => z37 ((ks 37 (by decide) (by decide) (by decide)).mp e))]
def askK (v : Int32) : Int32 := if v = 116 then 0 else if v = 117 then 1 else if v = 118 then 2 else if v = 119 then 3 else if v = 120 then 4 else if v = 121 then 5 else if v = 122 then 6 else -1
theorem asked_ok {b : Nat → Nat} {k : Nat} {x : Tk} {ρ : Mem} (hw : TW b k x) (h : RTok b k x ρ) : X12_asked ρ = some (askK (kindC b x), ρ) := by
  unfold X12_asked askK
  by_cases z : x.1 = 3
  · have e9 : ρ.2 1000 9 = pack (wd b x) := h.2.2.2.2.2 z
    have key : ∀ (i : Nat) (c : Int64), i < 23 → c = pack (OW.getD i []) → (lg_cmp (ρ.2 1000 9) c = 0 ↔ kindC b x = nI (100 + i)) := fun i c hi hc => by
      rw [lg_cmp_eq, e9, hc, pack_inj (wd_ltrs hw z) (OW_ltrs ⟨i, hi⟩), kindC_own hw hi]
      exact ⟨fun e => ⟨z, e⟩, fun e => e.2⟩
    rw [if_pos ((sort1 hw h).mpr z)]
    by_cases z16 : kindC b x = 116
    · rw [if_pos z16, if_pos ((key 16 _ (by decide) wc16).mpr z16)]
    rw [if_neg z16, if_neg (fun e => z16 ((key 16 _ (by decide) wc16).mp e))]
    by_cases z17 : kindC b x = 117
    · rw [if_pos z17, if_pos ((key 17 _ (by decide) wc17).mpr z17)]
    rw [if_neg z17, if_neg (fun e => z17 ((key 17 _ (by decide) wc17).mp e))]
    by_cases z18 : kindC b x = 118
    · rw [if_pos z18, if_pos ((key 18 _ (by decide) wc18).mpr z18)]
    rw [if_neg z18, if_neg (fun e => z18 ((key 18 _ (by decide) wc18).mp e))]
    by_cases z19 : kindC b x = 119
    · rw [if_pos z19, if_pos ((key 19 _ (by decide) wc19).mpr z19)]
    rw [if_neg z19, if_neg (fun e => z19 ((key 19 _ (by decide) wc19).mp e))]
    by_cases z20 : kindC b x = 120
    · rw [if_pos z20, if_pos ((key 20 _ (by decide) wc20).mpr z20)]
    rw [if_neg z20, if_neg (fun e => z20 ((key 20 _ (by decide) wc20).mp e))]
    by_cases z21 : kindC b x = 121
    · rw [if_pos z21, if_pos ((key 21 _ (by decide) wc21).mpr z21)]
    rw [if_neg z21, if_neg (fun e => z21 ((key 21 _ (by decide) wc21).mp e))]
    by_cases z22 : kindC b x = 122
    · rw [if_pos z22, if_pos ((key 22 _ (by decide) wc22).mpr z22)]
    rw [if_neg z22, if_neg (fun e => z22 ((key 22 _ (by decide) wc22).mp e))]
  · have no : ∀ i, i < 23 → ¬ kindC b x = nI (100 + i) := fun i hi e => z ((kindC_own hw hi).mp e).1
    rw [if_neg (fun e => z ((sort1 hw h).mp e))]
    rw [if_neg (show ¬ kindC b x = 116 from no 16 (by decide))]
    rw [if_neg (show ¬ kindC b x = 117 from no 17 (by decide))]
    rw [if_neg (show ¬ kindC b x = 118 from no 18 (by decide))]
    rw [if_neg (show ¬ kindC b x = 119 from no 19 (by decide))]
    rw [if_neg (show ¬ kindC b x = 120 from no 20 (by decide))]
    rw [if_neg (show ¬ kindC b x = 121 from no 21 (by decide))]
    rw [if_neg (show ¬ kindC b x = 122 from no 22 (by decide))]
theorem isFull_ok {ρ : Mem} {own all : Nat} (h1 : ρ.1 1000 21 = nI all) (h2 : ρ.1 1000 23 = nI own) (ha : all ≤ 80) (ho : own ≤ 30) : X12_isFull ρ = some (tr (decide (all = 80 ∨ own = 30)), ρ) := by
  unfold X12_isFull
  rw [h1, h2]
  by_cases z : all = 80
  · rw [if_pos (by rw [z]; rfl), decide_eq_true (.inl z)]
    rfl
  · rw [if_neg (by rw [show (80 : Int32) = nI 80 from rfl, ni_inj (by omega) (by omega)]; exact z)]
    by_cases y : own = 30
    · rw [if_pos (by rw [y]; rfl), decide_eq_true (.inr y)]
      rfl
    · rw [if_neg (by rw [show (30 : Int32) = nI 30 from rfl, ni_inj (by omega) (by omega)]; exact y), decide_eq_false (fun e => e.elim z y)]
      rfl
