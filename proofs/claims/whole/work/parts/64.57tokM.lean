/-! town: the reference's token -/
def pk (a : Int64) (c : Nat) : Int64 := (a <<< ((8 : Int32).toInt64 &&& 63)) ||| (nI c).toInt64
def pack (l : List Nat) : Int64 := l.foldl pk 0
def kindR (x : Tk) : Int32 := if x.1 = 1 then 3 else if x.1 = 3 then 1 else nI x.1
def RTok (b : Nat → Nat) (k : Nat) (x : Tk) (ρ : Mem) : Prop := TM b k ρ ∧ ρ.1 1000 7 = nI x.2.1 ∧ ρ.1 1000 6 = kindR x ∧ (x.1 ≠ 1 → ρ.1 1000 4 = nI x.2.2) ∧ (x.1 = 2 → ρ.1 1000 8 = nI (numV b (x.2.2 - x.2.1) x.2.1 0)) ∧ (x.1 = 3 → ρ.2 1000 9 = pack (lets b (x.2.2 - x.2.1) x.2.1))
theorem TM.set {b : Nat → Nat} {k j : Nat} {v : Int32} {ρ : Mem} (h : TM b k ρ) (h0 : j ≠ 5 ∧ j ≠ 3) : TM b k (sI ρ 1000 j v) :=
  ⟨⟨by rw [sI_k (fun e => h0.1 e.symm)]; exact h.1.1, by rw [sI_k (fun e => h0.2 e.symm)]; exact h.1.2⟩, fun i hi => by rw [sI_n (by decide)]; exact h.2 i hi⟩
theorem TM.setL {b : Nat → Nat} {k o j : Nat} {v : Int64} {ρ : Mem} (h : TM b k ρ) : TM b k (sL ρ o j v) := h
def LN (ρ ρ' : Mem) : Prop := ∀ a, a ≠ 1000 → ρ'.2 a = ρ.2 a
theorem LN.trans {ρ ρ1 ρ2 : Mem} (h : LN ρ ρ1) (g : LN ρ1 ρ2) : LN ρ ρ2 := fun a ha => (g a ha).trans (h a ha)
theorem LN_sL (ρ : Mem) (j : Nat) (v : Int64) : LN ρ (sL ρ 1000 j v) := fun a ha => by
  funext c
  rw [sL_r, if_neg (fun e => ha e.1)]
theorem lets_snoc (b : Nat → Nat) : ∀ m q, lets b (m + 1) q = lets b m q ++ [b (q + m)]
  | 0, q => rfl
  | m + 1, q => by
    rw [lets, lets_snoc b m (q + 1), lets, List.cons_append, show q + 1 + m = q + (m + 1) by omega]
theorem numV_snoc (b : Nat → Nat) : ∀ m q v, numV b (m + 1) q v = 10 * numV b m q v + (b (q + m) - 48)
  | 0, q, v => rfl
  | m + 1, q, v => by
    rw [numV, numV_snoc b m (q + 1), numV, show q + 1 + m = q + (m + 1) by omega]
theorem pack_snoc (l : List Nat) (c : Nat) : pack (l ++ [c]) = pk (pack l) c := by
  unfold pack
  rw [List.foldl_append]
  rfl
theorem here0_ok {b : Nat → Nat} {k p : Nat} {ρ : Mem} (hb : TB b k) (h : TM b k ρ) (h4 : ρ.1 1000 4 = nI p) (hp : p ≤ k) : X12_here 0 ρ = some (hr b k p, ρ) := by
  have := hb.1
  exact here_ok (d := 0) hb h h4 (by omega)
theorem run_or {f : Nat → Bool} {b : Nat → Nat} {k q m r : Nat} (h : q + m + r = k) : run f b r (q + m) = if q + m < k ∧ f (b (q + m)) = true then run f b (r - 1) (q + m + 1) + 1 else 0 := by
  cases r with
  | zero => rw [if_neg (fun e => by omega)]; rfl
  | succ r =>
    rw [run]
    by_cases z : f (b (q + m)) = true
    · rw [if_pos z, if_pos ⟨by omega, z⟩]
      rfl
    · rw [if_neg z, if_neg (fun e => z e.2)]
theorem tok78_ok {b : Nat → Nat} {k q : Nat} (hb : TB b k) : ∀ (r m n : Nat) (ρ : Mem), q + m + r = k → r < n → TM b k ρ → ρ.1 1000 4 = nI q → ρ.1 1000 7 = nI q → (m ≤ 8 → ρ.2 1000 9 = pack (lets b m q)) →
    Ok (X12_token_78 X12_token_232 n (nI m) ρ) (fun ρ' => RTok b k (if m + run isL b r (q + m) ≤ 8 then 3 else 1, q, q + (m + run isL b r (q + m))) ρ' ∧ LN ρ ρ')
  | r, m, n, ρ, h1, h2, hT, h4, h7, h9 => by
    obtain ⟨n, rfl⟩ : ∃ j, n = j + 1 := ⟨n - 1, by omega⟩
    have hk := hb.1
    rw [X12_token_78]
    refine ok_bindE (here_ok hb hT h4 (by omega)) (ok_bindE (isLetterM_hr hb ρ) ?_)
    rw [run_or h1]
    by_cases z : q + m < k ∧ isL (b (q + m)) = true
    · rw [if_pos z]
      have ez : (decide (q + m < k) && isL (b (q + m))) = true := by rw [decide_eq_true z.1, z.2]; rfl
      show Ok (if tr (decide (q + m < k) && isL (b (q + m))) = 0 then _ else _) _
      rw [ez]
      refine ok_neg one_ne ?_
      obtain ⟨r, rfl⟩ : ∃ j, r = j + 1 := ⟨r - 1, by omega⟩
      have e1 : m + (run isL b r (q + m + 1) + 1) = (m + 1) + run isL b r (q + (m + 1)) := by
        rw [show q + (m + 1) = q + m + 1 by omega]
        omega
      rw [show r + 1 - 1 = r by omega, e1]
      refine ok_ite (fun y => ?_) (fun y => ?_)
      · rw [show (8 : Int32) = nI 8 from rfl, ni_le (by omega) (by omega)] at y
        unfold X12_token_113
        refine ok_bv ?_
        rw [ni_succ]
        exact tok78_ok hb r (m + 1) n ρ (by omega) (by omega) hT h4 h7 (fun w => by omega)
      · rw [show (8 : Int32) = nI 8 from rfl, ni_le (by omega) (by omega)] at y
        refine ok_bindE (here_ok hb hT h4 (by omega)) (ok_bv ?_)
        unfold X12_token_113
        refine ok_bv ?_
        rw [ni_succ]
        refine ok_mono (tok78_ok hb r (m + 1) n _ (by omega) (by omega) hT.setL h4 h7 (fun w => ?_)) (fun ρ' h => ⟨h.1, (LN_sL _ _ _).trans h.2⟩)
        rw [sL_r, if_pos ⟨rfl, rfl⟩, lets_snoc, pack_snoc, ← h9 (by omega)]
        unfold pk hr
        rw [if_pos z.1]
    · rw [if_neg z]
      have ez : (decide (q + m < k) && isL (b (q + m))) = false := by
        by_cases y : q + m < k
        · rw [decide_eq_true y, Bool.true_and]
          cases w : isL (b (q + m)) with
          | false => rfl
          | true => exact absurd ⟨y, w⟩ z
        · rw [decide_eq_false y]
          rfl
      show Ok (if tr (decide (q + m < k) && isL (b (q + m))) = 0 then _ else _) _
      rw [ez]
      refine ok_pos rfl ?_
      show Ok (if nI m ≤ 8 then X12_token_131 X12_token_232 (nI m) 1 ρ else X12_token_131 X12_token_232 (nI m) 3 ρ) _
      rw [Nat.add_zero]
      unfold X12_token_131 X12_token_232
      refine ok_ite (fun y => ok_bv ?_) (fun y => ok_bv ?_)
      · rw [show (8 : Int32) = nI 8 from rfl, ni_le (by omega) (by omega)] at y
        rw [sI_e]
        refine ok_neg (by decide) (ok_bv (ok_some ?_))
        rw [if_pos y]
        refine ⟨⟨(hT.set (by decide)).set (by decide), ?_, ?_, fun _ => ?_, (fun w => by cases w), fun _ => ?_⟩, fun _ _ => rfl⟩
        · rw [sI_k (by decide), sI_k (by decide)]
          exact h7
        · rw [sI_k (by decide), sI_e]
          rfl
        · rw [sI_e, sI_k (by decide), h4, ni_add]
        · show ρ.2 1000 9 = pack (lets b (q + m - q) q)
          rw [show q + m - q = m by omega]
          exact h9 y
      · rw [show (8 : Int32) = nI 8 from rfl, ni_le (by omega) (by omega)] at y
        rw [sI_e]
        refine ok_pos rfl (ok_some ?_)
        rw [if_neg y]
        refine ⟨⟨hT.set (by decide), ?_, ?_, fun w => absurd rfl w, (fun w => by cases w), (fun w => by cases w)⟩, fun _ _ => rfl⟩
        · rw [sI_k (by decide)]
          exact h7
        · rw [sI_e]
          rfl
theorem tok144_ok {b : Nat → Nat} {k q : Nat} (hb : TB b k) : ∀ (r m n : Nat) (ρ : Mem), q + m + r = k → r < n → TM b k ρ → ρ.1 1000 4 = nI q → ρ.1 1000 7 = nI q → (m ≤ 4 → ρ.1 1000 8 = nI (numV b m q 0)) →
    Ok (X12_token_144 X12_token_232 n (nI m) ρ) (fun ρ' => RTok b k (if 4 < m + run isDg b r (q + m) ∨ (q + (m + run isDg b r (q + m)) < k ∧ isL (b (q + (m + run isDg b r (q + m)))) = true) then 1 else 2, q, q + (m + run isDg b r (q + m))) ρ' ∧ LN ρ ρ')
  | r, m, n, ρ, h1, h2, hT, h4, h7, h9 => by
    obtain ⟨n, rfl⟩ : ∃ j, n = j + 1 := ⟨n - 1, by omega⟩
    have hk := hb.1
    rw [X12_token_144]
    refine ok_bindE (here_ok hb hT h4 (by omega)) (ok_bindE (isDigitM_hr hb ρ) ?_)
    rw [run_or h1]
    by_cases z : q + m < k ∧ isDg (b (q + m)) = true
    · rw [if_pos z]
      have ez : (decide (q + m < k) && isDg (b (q + m))) = true := by rw [decide_eq_true z.1, z.2]; rfl
      show Ok (if tr (decide (q + m < k) && isDg (b (q + m))) = 0 then _ else _) _
      rw [ez]
      refine ok_neg one_ne ?_
      obtain ⟨r, rfl⟩ : ∃ j, r = j + 1 := ⟨r - 1, by omega⟩
      have e1 : m + (run isDg b r (q + m + 1) + 1) = (m + 1) + run isDg b r (q + (m + 1)) := by
        rw [show q + (m + 1) = q + m + 1 by omega]
        omega
      rw [show r + 1 - 1 = r by omega, e1]
      refine ok_ite (fun y => ?_) (fun y => ?_)
      · rw [show (4 : Int32) = nI 4 from rfl, ni_le (by omega) (by omega)] at y
        unfold X12_token_180
        refine ok_bv ?_
        rw [ni_succ]
        exact tok144_ok hb r (m + 1) n ρ (by omega) (by omega) hT h4 h7 (fun w => by omega)
      · rw [show (4 : Int32) = nI 4 from rfl, ni_le (by omega) (by omega)] at y
        refine ok_bindE (here_ok hb hT h4 (by omega)) (ok_bv ?_)
        unfold X12_token_180
        refine ok_bv ?_
        rw [ni_succ]
        refine tok144_ok hb r (m + 1) n _ (by omega) (by omega) (hT.set (by decide)) (by rw [sI_k (by decide)]; exact h4) (by rw [sI_k (by decide)]; exact h7) (fun w => ?_)
        have h48 : 48 ≤ b (q + m) := by
          have := z.2
          unfold isDg at this
          rw [Bool.and_eq_true, decide_eq_true_eq] at this
          exact this.1
        rw [sI_e, numV_snoc]
        show 10 * ρ.1 1000 8 + hr b k (q + m) - 48 = _
        unfold hr
        rw [if_pos z.1, h9 (by omega), show (10 : Int32) = nI 10 from rfl, show (48 : Int32) = nI 48 from rfl, ni_mul, ni_add, ni_sub (by omega)]
        congr 1
        omega
    · rw [if_neg z]
      have ez : (decide (q + m < k) && isDg (b (q + m))) = false := by
        by_cases y : q + m < k
        · rw [decide_eq_true y, Bool.true_and]
          cases w : isDg (b (q + m)) with
          | false => rfl
          | true => exact absurd ⟨y, w⟩ z
        · rw [decide_eq_false y]
          rfl
      show Ok (if tr (decide (q + m < k) && isDg (b (q + m))) = 0 then _ else _) _
      rw [ez]
      refine ok_pos rfl ?_
      show Ok (if 4 < nI m then X12_token_203 (X12_token_208 X12_token_232) (nI m) ρ else _) _
      rw [Nat.add_zero]
      have bad : (4 < m ∨ (q + m < k ∧ isL (b (q + m)) = true)) → Ok (X12_token_203 (X12_token_208 X12_token_232) (nI m) ρ) (fun ρ' => RTok b k (if 4 < m ∨ (q + m < k ∧ isL (b (q + m)) = true) then 1 else 2, q, q + m) ρ' ∧ LN ρ ρ') := fun y => by
        unfold X12_token_203 X12_token_208 X12_token_232
        refine ok_bv ?_
        rw [sI_e]
        refine ok_pos rfl (ok_some ?_)
        rw [if_pos y]
        refine ⟨⟨hT.set (by decide), ?_, ?_, fun w => absurd rfl w, (fun w => by cases w), (fun w => by cases w)⟩, fun _ _ => rfl⟩
        · rw [sI_k (by decide)]
          exact h7
        · rw [sI_e]
          rfl
      refine ok_ite (fun y => ?_) (fun y => ?_)
      · rw [show (4 : Int32) = nI 4 from rfl, ni_lt (by omega) (by omega)] at y
        exact bad (.inl y)
      · rw [show (4 : Int32) = nI 4 from rfl, ni_lt (by omega) (by omega)] at y
        refine ok_bindE (here_ok hb hT h4 (by omega)) (ok_bindE (isLetterM_hr hb ρ) ?_)
        by_cases x : q + m < k ∧ isL (b (q + m)) = true
        · have ex : (decide (q + m < k) && isL (b (q + m))) = true := by rw [decide_eq_true x.1, x.2]; rfl
          show Ok (if tr (decide (q + m < k) && isL (b (q + m))) = 0 then _ else _) _
          rw [ex]
          exact ok_neg one_ne (bad (.inr x))
        · have ex : (decide (q + m < k) && isL (b (q + m))) = false := by
            by_cases y : q + m < k
            · rw [decide_eq_true y, Bool.true_and]
              cases w : isL (b (q + m)) with
              | false => rfl
              | true => exact absurd ⟨y, w⟩ x
            · rw [decide_eq_false y]
              rfl
          show Ok (if tr (decide (q + m < k) && isL (b (q + m))) = 0 then _ else _) _
          rw [ex]
          refine ok_pos rfl ?_
          unfold X12_token_208 X12_token_232
          refine ok_bv ?_
          rw [sI_e]
          refine ok_neg (by decide) (ok_bv (ok_some ?_))
          rw [if_neg (fun e => e.elim y x)]
          refine ⟨⟨(hT.set (by decide)).set (by decide), ?_, ?_, fun _ => ?_, fun _ => ?_, (fun w => by cases w)⟩, fun _ _ => rfl⟩
          · rw [sI_k (by decide), sI_k (by decide)]
            exact h7
          · rw [sI_k (by decide), sI_e]
            rfl
          · rw [sI_e, sI_k (by decide), h4, ni_add]
          · show _ = nI (numV b (q + m - q) q 0)
            rw [sI_k (by decide), sI_k (by decide), show q + m - q = m by omega]
            exact h9 (by omega)
theorem isSign_fin : ∀ v : Fin 256, (if nI v.val = 59 then (1 : Int32) else if nI v.val = 40 then 1 else if nI v.val = 41 then 1 else if nI v.val = 60 then 1 else if nI v.val = 62 then 1 else if nI v.val = 61 then 1 else if nI v.val = 43 then 1 else if nI v.val = 45 then 1 else if nI v.val = 42 then 1 else if nI v.val = 47 then 1 else if nI v.val = 37 then 1 else 0) = tr (isSg v.val) := by decide +kernel
theorem isSignM_ok {v : Nat} (h : v < 256) (ρ : Mem) : X12_isSign (nI v) ρ = some (tr (isSg v), ρ) := by
  unfold X12_isSign
  rw [← isSign_fin ⟨v, h⟩]
  repeat' split
  all_goals rfl
theorem nI_32 {v : Nat} (h : v < 256) (c : Nat) (hc : c < 256) : nI v = nI c ↔ v = c := ni_inj (by omega) (by omega)
theorem tok0E_ok {b : Nat → Nat} {k q n : Nat} {ρ : Mem} (hb : TB b k) (hT : TM b k ρ) (h4 : ρ.1 1000 4 = nI q) (hq : q ≤ k) (hn : q < k → isBl (b q) = false) : Ok (X12_token_0 (n + 1) ρ) (fun ρ' => RTok b k (tokAt b k q) ρ' ∧ LN ρ ρ') := by
  have hk := hb.1
  have g32 : ¬ hr b k q = 32 := by
    unfold hr
    split
    · rename_i z
      have := hn z
      unfold isBl at this
      rw [show (32 : Int32) = nI 32 from rfl, nI_32 (hb.2 q z) 32 (by omega)]
      intro e
      rw [e] at this
      exact absurd this (by decide)
    · decide
  have g10 : ¬ hr b k q = 10 := by
    unfold hr
    split
    · rename_i z
      have := hn z
      unfold isBl at this
      rw [show (10 : Int32) = nI 10 from rfl, nI_32 (hb.2 q z) 10 (by omega)]
      intro e
      rw [e] at this
      exact absurd this (by decide)
    · decide
  rw [X12_token_0]
  refine ok_bindE (here0_ok hb hT h4 hq) (ok_neg g32 (ok_bindE (here0_ok hb hT h4 hq) (ok_neg g10 (ok_bv ?_))))
  have hT1 : TM b k (sI ρ 1000 7 (ρ.1 1000 4)) := hT.set (by decide)
  have e4 : (sI ρ 1000 7 (ρ.1 1000 4)).1 1000 4 = nI q := by rw [sI_k (by decide)]; exact h4
  have e7 : (sI ρ 1000 7 (ρ.1 1000 4)).1 1000 7 = nI q := by rw [sI_e]; exact h4
  have l1 : LN ρ (sI ρ 1000 7 (ρ.1 1000 4)) := fun _ _ => rfl
  show Ok ((X12_here 0 (sI ρ 1000 7 (ρ.1 1000 4))).bind _) _
  generalize sI ρ 1000 7 (ρ.1 1000 4) = ρ1 at *
  refine ok_bindE (here0_ok hb hT1 e4 hq) (ok_bv (ok_bv (ok_bv (ok_bv ?_))))
  show Ok (if 0 ≤ hr b k q then _ else _) _
  have hT2 : TM b k (sI (sL ρ1 1000 9 0) 1000 8 0) := hT1.setL.set (by decide)
  have f4 : (sI (sL ρ1 1000 9 0) 1000 8 0).1 1000 4 = nI q := by rw [sI_k (by decide)]; exact e4
  have f7 : (sI (sL ρ1 1000 9 0) 1000 8 0).1 1000 7 = nI q := by rw [sI_k (by decide)]; exact e7
  have f8 : (sI (sL ρ1 1000 9 0) 1000 8 0).1 1000 8 = nI 0 := by rw [sI_e]; rfl
  have f9 : (sI (sL ρ1 1000 9 0) 1000 8 0).2 1000 9 = pack (lets b 0 q) := by rw [sI_l, sL_r, if_pos ⟨rfl, rfl⟩]; rfl
  have l2 : LN ρ (sI (sL ρ1 1000 9 0) 1000 8 0) := l1.trans (LN_sL ρ1 9 0)
  show Ok (if 0 ≤ hr b k q then (X12_isLetter (hr b k q) (sI (sL ρ1 1000 9 0) 1000 8 0)).bind _ else _) _
  generalize sI (sL ρ1 1000 9 0) 1000 8 0 = ρ2 at *
  unfold tokAt
  by_cases z : q < k
  · have hv := hb.2 q z
    have eh : hr b k q = nI (b q) := if_pos z
    rw [if_pos z, eh]
    refine ok_pos (ni_nn (by omega)) (ok_bindE (isLetterM_ok hv ρ2) ?_)
    cases w : isL (b q) with
    | true =>
      rw [if_pos rfl]
      refine ok_neg one_ne ?_
      have := tok78_ok hb (k - q) 0 fu ρ2 (by omega) (by unfold fu; omega) hT2 f4 f7 (fun _ => f9)
      rw [Nat.add_zero, Nat.zero_add] at this
      exact ok_mono this (fun ρ' h => ⟨h.1, l2.trans h.2⟩)
    | false =>
      rw [if_neg (show ¬ (false = true) by decide)]
      refine ok_pos rfl (ok_bindE (isDigitM_ok hv ρ2) ?_)
      cases y : isDg (b q) with
      | true =>
        rw [if_pos rfl]
        refine ok_neg one_ne ?_
        have := tok144_ok hb (k - q) 0 fu ρ2 (by omega) (by unfold fu; omega) hT2 f4 f7 (fun _ => f8)
        rw [Nat.add_zero, Nat.zero_add] at this
        exact ok_mono this (fun ρ' h => ⟨h.1, l2.trans h.2⟩)
      | false =>
        rw [if_neg (show ¬ (false = true) by decide)]
        refine ok_pos rfl (ok_bv (ok_bindE (isSignM_ok hv ρ2) ?_))
        have s3 := (sg_pos_fin ⟨b q, hv⟩).2.2
        unfold X12_token_229 X12_token_232
        cases g : isSg (b q) with
        | false =>
          rw [if_neg (show ¬ (false = true) by decide)]
          refine ok_pos rfl (ok_bv ?_)
          rw [sI_e]
          refine ok_pos rfl (ok_some ⟨⟨hT2.set (by decide), ?_, ?_, fun w => absurd rfl w, (fun w => by cases w), (fun w => by cases w)⟩, l2⟩)
          · rw [sI_k (by decide)]
            exact f7
          · rw [sI_e]
            rfl
        | true =>
          have s3 : 3 < b q ∧ b q < 128 := s3 g
          rw [if_pos rfl]
          refine ok_neg one_ne (ok_bv ?_)
          rw [sI_e]
          refine ok_neg (by rw [show (3 : Int32) = nI 3 from rfl, ni_inj (by omega) (by omega)]; omega) (ok_bv (ok_some ⟨⟨(hT2.set (by decide)).set (by decide), ?_, ?_, fun _ => ?_, fun w => ?_, fun w => ?_⟩, l2⟩))
          · rw [sI_k (by decide), sI_k (by decide)]
            exact f7
          · rw [sI_k (by decide), sI_e]
            unfold kindR
            rw [if_neg (by show ¬ b q = 1; omega), if_neg (by show ¬ b q = 3; omega)]
          · rw [sI_e, sI_k (by decide), f4, ni_succ]
          · have w : b q = 2 := w
            omega
          · have w : b q = 3 := w
            omega
  · have eh : hr b k q = -1 := if_neg z
    rw [if_neg z, eh]
    refine ok_neg (by decide) (ok_bv ?_)
    unfold X12_token_232
    rw [sI_e]
    refine ok_neg (by decide) (ok_bv (ok_some ⟨⟨(hT2.set (by decide)).set (by decide), ?_, ?_, fun _ => ?_, (fun w => by cases w), (fun w => by cases w)⟩, l2⟩))
    · rw [sI_k (by decide), sI_k (by decide)]
      exact f7
    · rw [sI_k (by decide), sI_e]
      rfl
    · rw [sI_e, sI_k (by decide), f4, Int32.add_zero]
theorem tok0_ok {b : Nat → Nat} {k : Nat} (hb : TB b k) : ∀ (r p n : Nat) (ρ : Mem), p + r = k → r < n → TM b k ρ → ρ.1 1000 4 = nI p → Ok (X12_token_0 n ρ) (fun ρ' => RTok b k (tokAt b k (p + run isBl b r p)) ρ' ∧ LN ρ ρ')
  | 0, p, n, ρ, h1, h2, hT, h4 => by
    obtain ⟨n, rfl⟩ : ∃ j, n = j + 1 := ⟨n - 1, by omega⟩
    rw [show run isBl b 0 p = 0 from rfl, Nat.add_zero]
    exact tok0E_ok hb hT h4 (by omega) (fun z => by omega)
  | r + 1, p, n, ρ, h1, h2, hT, h4 => by
    obtain ⟨n, rfl⟩ : ∃ j, n = j + 1 := ⟨n - 1, by omega⟩
    have hk := hb.1
    unfold run
    cases z : isBl (b p) with
    | false =>
      rw [if_neg (show ¬ (false = true) by decide)]
      exact tok0E_ok hb hT h4 (by omega) (fun _ => z)
    | true =>
      rw [if_pos rfl]
      have go : Ok (X12_token_20 (X12_token_0 n) ρ) (fun ρ' => RTok b k (tokAt b k (p + (run isBl b r (p + 1) + 1))) ρ' ∧ LN ρ ρ') := by
        unfold X12_token_20
        refine ok_bv ?_
        rw [h4, ni_succ, show p + (run isBl b r (p + 1) + 1) = p + 1 + run isBl b r (p + 1) by omega]
        exact tok0_ok hb r (p + 1) n _ (by omega) (by omega) (hT.set (by decide)) (sI_e _ _ _ _)
      have eh : hr b k p = nI (b p) := if_pos (by omega)
      rw [X12_token_0]
      refine ok_bindE (here0_ok hb hT h4 (by omega)) (ok_ite (fun _ => go) (fun y => ok_bindE (here0_ok hb hT h4 (by omega)) (ok_pos ?_ go)))
      have y : ¬ hr b k p = 32 := y
      show hr b k p = 10
      rw [eh] at y ⊢
      unfold isBl at z
      rw [Bool.or_eq_true, decide_eq_true_eq, decide_eq_true_eq] at z
      rcases z with e | e
      · rw [e] at y
        exact absurd rfl y
      · rw [e]
        rfl
theorem tokenM_ok {b : Nat → Nat} {k p : Nat} {ρ : Mem} (hb : TB b k) (hT : TM b k ρ) (hp : p ≤ k) (h4 : ρ.1 1000 4 = nI p) : Ok (X12_token ρ) (fun ρ' => RTok b k (nxt b k p) ρ' ∧ LN ρ ρ') := by
  have hk := hb.1
  exact tok0_ok hb (k - p) p fu ρ (by omega) (by unfold fu; omega) hT h4
/-! good tokens -/
def TW (b : Nat → Nat) (k : Nat) (x : Tk) : Prop := x.2.1 ≤ x.2.2 ∧ x.2.2 ≤ k ∧ (x.1 ≠ 0 → x.2.1 < x.2.2) ∧ (x.1 = 3 → x.2.2 - x.2.1 ≤ 8 ∧ ∀ m, m < x.2.2 - x.2.1 → isL (b (x.2.1 + m)) = true) ∧ (x.1 = 2 → x.2.2 - x.2.1 ≤ 4 ∧ ∀ m, m < x.2.2 - x.2.1 → isDg (b (x.2.1 + m)) = true) ∧ (3 < x.1 → isSg x.1 = true)
theorem tokAt_wf {b : Nat → Nat} {k q : Nat} (hq : q ≤ k) : TW b k (tokAt b k q) ∧ (tokAt b k q).2.1 = q := by
  unfold tokAt
  by_cases z : q < k
  · rw [if_pos z]
    have l1 := run_le isL b (k - q) q
    have l2 := run_le isDg b (k - q) q
    have a1 := run_all isL b (k - q) q
    have a2 := run_all isDg b (k - q) q
    have p1 : isL (b q) = true → 0 < run isL b (k - q) q := fun e => by
      obtain ⟨r, hr⟩ : ∃ r, k - q = r + 1 := ⟨k - q - 1, by omega⟩
      rw [hr, run, if_pos e]
      omega
    have p2 : isDg (b q) = true → 0 < run isDg b (k - q) q := fun e => by
      obtain ⟨r, hr⟩ : ∃ r, k - q = r + 1 := ⟨k - q - 1, by omega⟩
      rw [hr, run, if_pos e]
      omega
    generalize run isL b (k - q) q = n1 at *
    generalize run isDg b (k - q) q = n2 at *
    cases w : isL (b q) with
    | true =>
      rw [if_pos rfl]
      have := p1 w
      refine ⟨⟨?_, ?_, fun _ => ?_, fun e => ?_, fun e => ?_, fun e => ?_⟩, rfl⟩
      · show q ≤ q + n1
        omega
      · show q + n1 ≤ k
        omega
      · show q < q + n1
        omega
      · show q + n1 - q ≤ 8 ∧ ∀ m, m < q + n1 - q → isL (b (q + m)) = true
        have e : (if n1 ≤ 8 then 3 else 1) = 3 := e
        rw [show q + n1 - q = n1 by omega]
        refine ⟨?_, a1⟩
        split at e
        · assumption
        · cases e
      · have e : (if n1 ≤ 8 then 3 else 1) = 2 := e
        split at e <;> cases e
      · have e : 3 < (if n1 ≤ 8 then 3 else 1) := e
        split at e <;> omega
    | false =>
      rw [if_neg (show ¬ (false = true) by decide)]
      cases y : isDg (b q) with
      | true =>
        rw [if_pos rfl]
        have := p2 y
        refine ⟨⟨?_, ?_, fun _ => ?_, fun e => ?_, fun e => ?_, fun e => ?_⟩, rfl⟩
        · show q ≤ q + n2
          omega
        · show q + n2 ≤ k
          omega
        · show q < q + n2
          omega
        · have e : (if 4 < n2 ∨ (q + n2 < k ∧ isL (b (q + n2)) = true) then 1 else 2) = 3 := e
          split at e <;> cases e
        · show q + n2 - q ≤ 4 ∧ ∀ m, m < q + n2 - q → isDg (b (q + m)) = true
          have e : (if 4 < n2 ∨ (q + n2 < k ∧ isL (b (q + n2)) = true) then 1 else 2) = 2 := e
          rw [show q + n2 - q = n2 by omega]
          refine ⟨?_, a2⟩
          split at e
          · cases e
          · rename_i h
            have : ¬ 4 < n2 := fun e => h (.inl e)
            omega
        · have e : 3 < (if 4 < n2 ∨ (q + n2 < k ∧ isL (b (q + n2)) = true) then 1 else 2) := e
          split at e <;> omega
      | false =>
        rw [if_neg (show ¬ (false = true) by decide)]
        have g3 : isSg (b q) = true → 3 < b q := fun e => by
          unfold isSg at e
          simp at e
          omega
        refine ⟨⟨?_, ?_, fun _ => ?_, fun e => ?_, fun e => ?_, fun e => ?_⟩, rfl⟩
        · show q ≤ q + 1
          omega
        · show q + 1 ≤ k
          omega
        · show q < q + 1
          omega
        · have e : (if isSg (b q) = true then b q else 1) = 3 := e
          split at e
          · have := g3 (by assumption)
            omega
          · cases e
        · have e : (if isSg (b q) = true then b q else 1) = 2 := e
          split at e
          · have := g3 (by assumption)
            omega
          · cases e
        · have e : 3 < (if isSg (b q) = true then b q else 1) := e
          show isSg (if isSg (b q) = true then b q else 1) = true
          split at e
          · rename_i h
            rw [if_pos h]
            exact h
          · omega
  · rw [if_neg z]
    refine ⟨⟨Nat.le_refl _, hq, fun e => absurd rfl e, (fun e => by cases e), (fun e => by cases e), fun e => ?_⟩, rfl⟩
    have e : 3 < 0 := e
    omega
theorem nxt_wf {b : Nat → Nat} {k p : Nat} (hp : p ≤ k) : TW b k (nxt b k p) ∧ p ≤ (nxt b k p).2.1 := by
  have hl := run_le isBl b (k - p) p
  obtain ⟨h1, h2⟩ := tokAt_wf (b := b) (k := k) (q := p + run isBl b (k - p) p) (by omega)
  unfold nxt
  exact ⟨h1, by rw [h2]; omega⟩
