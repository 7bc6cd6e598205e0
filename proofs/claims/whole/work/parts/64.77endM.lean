/-! town: what follows the reading -/
def townEnd (σ1 : Mem) : Option (Int32 × Mem) :=
  if (σ1.1 1000 2) ≤ 0 then
    bv (sI σ1 1000 45 (σ1.1 1000 42)) fun σ2 =>
    bv (sI σ2 1000 46 (σ2.1 1000 44)) fun σ3 =>
    if (σ3.1 1000 49) = 0 ∨ (σ3.1 1000 49) = 1 then bv (sI σ3 1000 52 (σ3.1 1000 49)) fun σ4 =>
      if (σ4.1 1000 50) = 0 ∨ (σ4.1 1000 50) = 1 then bv (sI σ4 1000 53 (σ4.1 1000 50)) fun σ5 =>
        if (σ5.1 1000 51) = 0 ∨ (σ5.1 1000 51) = 1 then bv (sI σ5 1000 54 (σ5.1 1000 51)) fun σ6 =>
          bv (sI σ6 1000 22 (σ6.1 1000 21)) fun σ7 =>
          bv (0 : Int32) fun v8 =>
          X12_town_63 fu v8 σ7
        else none
      else none
    else none
  else
    some ((-1), σ1)
theorem town_eq (ρ : Mem) : X12_town ρ = (X12_readAll ρ).bind townEnd := rfl
theorem all99 : ∀ (n : Nat) (ρ ρ' : Mem), X12_readAll_99 n ρ = some ρ' → ρ'.1 1000 1 = ρ.1 1000 1
  | 0, ρ, ρ', h => by cases h
  | n + 1, ρ, ρ', h => by
    rw [X12_readAll_99] at h
    split at h
    · split at h
      · cases h
        rfl
      · cases e : X12_readLine ρ with
        | none =>
          rw [e] at h
          cases h
        | some ρ1 =>
          rw [e] at h
          have h1 := all99 n ρ1 ρ' h
          have h2 := fr_X12_readLine (σ0 := ρ) ρ Fr.refl ρ1 e
          exact h1.trans (h2.1 1000 1 (by decide) (by decide))
    · cases h
      rfl
theorem all76 : ∀ (n : Nat) (x : Int32) (ρ ρ' : Mem), X12_readAll_76 n x ρ = some ρ' → ρ'.1 1000 1 = ρ.1 1000 1
  | 0, x, ρ, ρ', h => by cases h
  | n + 1, x, ρ, ρ', h => by
    rw [X12_readAll_76] at h
    split at h
    · cases e : X12_token ρ with
      | none =>
        rw [e] at h
        cases h
      | some ρ1 =>
        rw [e] at h
        have h1 := all99 fu ρ1 ρ' h
        have h2 := fr_X12_token (σ0 := ρ) ρ Fr.refl ρ1 e
        exact h1.trans (h2.1 1000 1 (by decide) (by decide))
    · split at h
      · have h1 := all76 n _ _ ρ' h
        rw [h1, sI_n (by decide)]
      · cases h
theorem all0 {ρ ρ' : Mem} (h : X12_readAll ρ = some ρ') : ρ'.1 1000 1 = 0 := by
  unfold X12_readAll at h
  rw [bv_eq, bv_eq, bv_eq, bv_eq, bv_eq, bv_eq, bv_eq, bv_eq, bv_eq, bv_eq, bv_eq, bv_eq, bv_eq, bv_eq, bv_eq] at h
  have h1 := all76 _ _ _ ρ' h
  rw [h1]
  rw [sI_k (by decide), sI_k (by decide), sI_k (by decide), sI_k (by decide), sI_k (by decide), sI_k (by decide), sI_k (by decide), sI_k (by decide), sI_k (by decide), sI_k (by decide), sI_k (by decide), sI_k (by decide), sI_e]
/-! the reference's loops -/
theorem t399_ok (ρ : Mem) : Ok (X12_town_399 fu (nI 0) ρ) (fun t => t.1 = ρ.1 1000 45 ∧ ∀ a c, t.2.1 a c = if a = 1050 ∧ c < 3 then 0 else ρ.1 a c) := by
  refine ok_loop0 (F := X12_town_399) (N := 3) (I := fun i ρ' => ∀ a c, ρ'.1 a c = if a = 1050 ∧ c < i then 0 else ρ.1 a c) 0 ρ (by omega) (by omega) (fun a c => by rw [if_neg (by omega)]) (fun n i s hi h next => ?_) (fun n s h => ?_)
  · rw [X12_town_399]
    refine ok_neg (by rw [show (3 : Int32) = nI 3 from rfl, ni_le (by omega) (by omega)]; omega) (ok_pos (ib_t hi (by omega)) (ok_bv (ok_bv ?_)))
    rw [ni_cl (by omega), ni_succ]
    refine next _ (fun a c => ?_)
    rw [sI_r, h]
    by_cases z : a = 1050 ∧ c = i
    · rw [if_pos z, if_pos (by omega)]
    · rw [if_neg z]
      by_cases y : a = 1050 ∧ c < i
      · rw [if_pos y, if_pos (by omega)]
      · rw [if_neg y, if_neg (by omega)]
  · rw [X12_town_399]
    exact ok_pos (Int32.le_refl _) (ok_some ⟨by rw [h, if_neg (by omega)], h⟩)
theorem t350_ok (ρ : Mem) : Ok (X12_town_350 fu (nI 0) ρ) (fun t => t.1 = ρ.1 1000 45 ∧ ∀ a c, t.2.1 a c = if a = 1050 ∧ c < 3 then 0 else if a = 1028 ∧ 24 ≤ c ∧ c < 60 then ρ.1 1027 (c - 24) else if a = 1000 ∧ (c = 69 ∨ c = 70 ∨ c = 75 ∨ c = 86) then 0 else ρ.1 a c) := by
  refine ok_loop0 (F := X12_town_350) (N := 36) (I := fun i ρ' => ∀ a c, ρ'.1 a c = if a = 1028 ∧ 24 ≤ c ∧ c < 24 + i then ρ.1 1027 (c - 24) else ρ.1 a c) 0 ρ (by omega) (by omega) (fun a c => by rw [if_neg (by omega)]) (fun n i s hi h next => ?_) (fun n s h => ?_)
  · rw [X12_town_350]
    refine ok_neg (by rw [show (36 : Int32) = nI 36 from rfl, ni_le (by omega) (by omega)]; omega) (ok_pos (ib_t hi (by omega)) ?_)
    rw [show (24 : Int32) = nI 24 from rfl, ni_add]
    refine ok_pos (ib_t (by omega) (by omega)) (ok_bv (ok_bv ?_))
    rw [ni_cl (by omega), ni_cl (by omega), ni_succ]
    refine next _ (fun a c => ?_)
    rw [sI_r, h, h, if_neg (show ¬ (1027 = 1028 ∧ 24 ≤ i ∧ i < 24 + i) by omega)]
    by_cases z : a = 1028 ∧ c = 24 + i
    · rw [if_pos z, if_pos (by omega), z.2, show 24 + i - 24 = i by omega]
    · rw [if_neg z]
      by_cases y : a = 1028 ∧ 24 ≤ c ∧ c < 24 + i
      · rw [if_pos y, if_pos (by omega)]
      · rw [if_neg y, if_neg (by omega)]
  · rw [X12_town_350]
    refine ok_pos (Int32.le_refl _) (ok_bv (ok_bv (ok_bv (ok_bv (ok_bv ?_)))))
    refine ok_mono (t399_ok _) (fun t g => ⟨?_, fun a c => ?_⟩)
    · rw [g.1, sI_k (by decide), sI_k (by decide), sI_k (by decide), sI_k (by decide), h, if_neg (by omega)]
    · rw [g.2]
      by_cases z : a = 1050 ∧ c < 3
      · rw [if_pos z, if_pos z]
      · rw [if_neg z, if_neg z, sI_r, sI_r, sI_r, sI_r, h]
        by_cases y : a = 1028 ∧ 24 ≤ c ∧ c < 60
        · rw [if_pos y, if_neg (by omega), if_neg (by omega), if_neg (by omega), if_neg (by omega), if_pos (by omega)]
        · rw [if_neg y, if_neg (show ¬ (a = 1028 ∧ 24 ≤ c ∧ c < 24 + 36) by omega)]
          by_cases x : a = 1000 ∧ (c = 69 ∨ c = 70 ∨ c = 75 ∨ c = 86)
          · rw [if_pos x]
            split
            · rfl
            · split
              · rfl
              · split
                · rfl
                · rw [if_pos (by omega)]
          · rw [if_neg x, if_neg (by omega), if_neg (by omega), if_neg (by omega), if_neg (by omega)]
def prs (ρ : Mem) (i c : Nat) : Int32 := if c < i then ρ.1 1020 c else if 6 ≤ c ∧ c < 6 + i then -1 else if 12 ≤ c ∧ c < 12 + i then nI (c - 12) else if 18 ≤ c ∧ c < 18 + i then ρ.1 1026 (c - 18) else ρ.1 1028 c
theorem t285_ok {N : Nat} (ρ : Mem) (hN : N ≤ 6) (h45 : ρ.1 1000 45 = nI N) : Ok (X12_town_285 fu (nI 0) ρ) (fun t => t.1 = nI N ∧ ∀ a c, t.2.1 a c = if a = 1050 ∧ c < 3 then 0 else if a = 1028 ∧ 24 ≤ c ∧ c < 60 then ρ.1 1027 (c - 24) else if a = 1000 ∧ (c = 69 ∨ c = 70 ∨ c = 75 ∨ c = 86) then 0 else if a = 1028 then prs ρ N c else ρ.1 a c) := by
  refine ok_loop0 (F := X12_town_285) (N := N) (I := fun i ρ' => ∀ a c, ρ'.1 a c = if a = 1028 then prs ρ i c else ρ.1 a c) 0 ρ (by omega) (by omega) (fun a c => ?_) (fun n i s hi h next => ?_) (fun n s h => ?_)
  · by_cases z : a = 1028
    · rw [if_pos z, z]
      unfold prs
      rw [if_neg (by omega), if_neg (by omega), if_neg (by omega), if_neg (by omega)]
    · rw [if_neg z]
  · have gb := ib_t (n := i) (k := 6) (by omega) (by omega)
    rw [X12_town_285, show s.1 1000 45 = nI N by rw [h, if_neg (show ¬ 1000 = 1028 by decide)]; exact h45]
    refine ok_neg (by rw [ni_le (by omega) (by omega)]; omega) (ok_pos gb ?_)
    rw [show (0 : Int32) = nI 0 from rfl, show (6 : Int32) = nI 6 from rfl, show (12 : Int32) = nI 12 from rfl, show (18 : Int32) = nI 18 from rfl, ni_add, ni_add, ni_add, ni_add]
    refine ok_pos (ib_t (by omega) (by omega)) (ok_bv (ok_pos (ib_t (by omega) (by omega)) (ok_bv (ok_pos (ib_t (by omega) (by omega)) (ok_bv (ok_pos gb (ok_pos (ib_t (by omega) (by omega)) (ok_bv (ok_bv ?_)))))))))
    rw [ni_cl (by omega), ni_cl (by omega), ni_cl (by omega), ni_cl (by omega), ni_cl (by omega), ni_succ]
    refine next _ (fun a c => ?_)
    rw [sI_r, sI_n (by decide), sI_n (by decide), sI_n (by decide), sI_r, sI_r, sI_r, h, h, h, if_neg (show ¬ 1026 = 1028 by decide), if_neg (show ¬ 1020 = 1028 by decide)]
    by_cases z : a = 1028
    · subst z
      rw [if_pos rfl, if_pos rfl]
      unfold prs
      by_cases y0 : c = 0 + i
      · rw [if_neg (by omega), if_neg (by omega), if_neg (by omega), if_pos ⟨rfl, y0⟩, if_pos (by omega), y0, Nat.zero_add]
      by_cases y1 : c = 6 + i
      · rw [if_neg (by omega), if_neg (by omega), if_pos ⟨rfl, y1⟩, if_neg (by omega), if_pos (by omega)]
      by_cases y2 : c = 12 + i
      · rw [if_neg (by omega), if_pos ⟨rfl, y2⟩, if_neg (by omega), if_neg (by omega), if_pos (by omega), y2, show 12 + i - 12 = i by omega]
      by_cases y3 : c = 18 + i
      · rw [if_pos ⟨rfl, y3⟩, if_neg (by omega), if_neg (by omega), if_neg (by omega), if_pos (by omega), y3, show 18 + i - 18 = i by omega]
      rw [if_neg (by omega), if_neg (by omega), if_neg (by omega), if_neg (by omega)]
      have q0 : (c < i + 1) = (c < i) := propext (by omega)
      have q1 : (6 ≤ c ∧ c < 6 + (i + 1)) = (6 ≤ c ∧ c < 6 + i) := propext (by omega)
      have q2 : (12 ≤ c ∧ c < 12 + (i + 1)) = (12 ≤ c ∧ c < 12 + i) := propext (by omega)
      have q3 : (18 ≤ c ∧ c < 18 + (i + 1)) = (18 ≤ c ∧ c < 18 + i) := propext (by omega)
      simp only [q0, q1, q2, q3]
    · rw [if_neg (by omega), if_neg (by omega), if_neg (by omega), if_neg (by omega), if_neg z, if_neg z]
  · have e45 : s.1 1000 45 = nI N := by rw [h, if_neg (show ¬ 1000 = 1028 by decide)]; exact h45
    rw [X12_town_285, e45]
    refine ok_pos (Int32.le_refl _) (ok_bv (ok_mono (t350_ok s) (fun t g => ⟨by rw [g.1, e45], fun a c => ?_⟩)))
    rw [g.2, h, h, if_neg (show ¬ 1027 = 1028 by decide)]
theorem t264_ok {N : Nat} (ρ : Mem) (hN : N ≤ 6) (h45 : ρ.1 1000 45 = nI N) : Ok (X12_town_264 fu (nI 0) ρ) (fun t => t.1 = nI N ∧ ∀ a c, t.2.1 a c = if a = 1050 ∧ c < 3 then 0 else if a = 1028 ∧ 24 ≤ c ∧ c < 60 then ρ.1 1027 (c - 24) else if a = 1000 ∧ (c = 69 ∨ c = 70 ∨ c = 75 ∨ c = 86) then 0 else if a = 1028 then (if c < N then ρ.1 1020 c else if 6 ≤ c ∧ c < 6 + N then -1 else if 12 ≤ c ∧ c < 12 + N then nI (c - 12) else if 18 ≤ c ∧ c < 18 + N then ρ.1 1026 (c - 18) else if c < 63 then 0 else ρ.1 1028 c) else ρ.1 a c) := by
  refine ok_loop0 (F := X12_town_264) (N := 63) (I := fun i ρ' => ∀ a c, ρ'.1 a c = if a = 1028 ∧ c < i then 0 else ρ.1 a c) 0 ρ (by omega) (by omega) (fun a c => by rw [if_neg (by omega)]) (fun n i s hi h next => ?_) (fun n s h => ?_)
  · rw [X12_town_264]
    refine ok_neg (by rw [show (63 : Int32) = nI 63 from rfl, ni_le (by omega) (by omega)]; omega) (ok_pos (ib_t (by omega) (by omega)) (ok_bv (ok_bv ?_)))
    rw [ni_cl (by omega), ni_succ]
    refine next _ (fun a c => ?_)
    rw [sI_r, h]
    by_cases z : a = 1028 ∧ c = i
    · rw [if_pos z, if_pos (by omega)]
    · rw [if_neg z]
      by_cases y : a = 1028 ∧ c < i
      · rw [if_pos y, if_pos (by omega)]
      · rw [if_neg y, if_neg (by omega)]
  · rw [X12_town_264]
    refine ok_pos (Int32.le_refl _) (ok_bv (ok_mono (t285_ok s hN (by rw [h, if_neg (by omega)]; exact h45)) (fun t g => ⟨g.1, fun a c => ?_⟩)))
    rw [g.2, h, h, if_neg (show ¬ (1027 = 1028 ∧ c - 24 < 63) by omega)]
    unfold prs
    rw [h, h, h, if_neg (show ¬ (1020 = 1028 ∧ c < 63) by omega), if_neg (show ¬ (1026 = 1028 ∧ c - 18 < 63) by omega)]
    by_cases z : a = 1028
    · subst z
      by_cases y : c < 63
      · simp only [y, and_self, if_true]
      · simp only [y, and_false, if_false]
    · simp only [z, false_and, if_false]
theorem t238_ok {N : Nat} (ρ : Mem) (hN : N ≤ 6) (h45 : ρ.1 1000 45 = nI N) : Ok (X12_town_238 fu (nI 0) ρ) (fun t => t.1 = nI N ∧ (∀ a c, a ≠ 1050 → a ≠ 1028 → a ≠ 1027 → ¬ (a = 1000 ∧ (c = 69 ∨ c = 70 ∨ c = 75 ∨ c = 86)) → t.2.1 a c = ρ.1 a c) ∧ (∀ c, c < 3 → t.2.1 1050 c = 0) ∧ (∀ c, c = 69 ∨ c = 70 ∨ c = 75 ∨ c = 86 → t.2.1 1000 c = 0) ∧ (∀ c, c < 36 → t.2.1 1028 (24 + c) = ρ.1 1019 c) ∧ (∀ p, p < N → t.2.1 1028 p = ρ.1 1020 p ∧ t.2.1 1028 (6 + p) = -1 ∧ t.2.1 1028 (12 + p) = nI p ∧ t.2.1 1028 (18 + p) = ρ.1 1026 p) ∧ t.2.1 1028 60 = 0 ∧ t.2.1 1028 61 = 0 ∧ t.2.1 1028 62 = 0) := by
  refine ok_loop0 (F := X12_town_238) (N := 36) (I := fun i ρ' => ∀ a c, ρ'.1 a c = if a = 1027 ∧ c < i then ρ.1 1019 c else ρ.1 a c) 0 ρ (by omega) (by omega) (fun a c => by rw [if_neg (by omega)]) (fun n i s hi h next => ?_) (fun n s h => ?_)
  · have gb := ib_t (n := i) (k := 36) (by omega) (by omega)
    rw [X12_town_238]
    refine ok_neg (by rw [show (36 : Int32) = nI 36 from rfl, ni_le (by omega) (by omega)]; omega) (ok_pos gb (ok_pos gb (ok_bv (ok_bv ?_))))
    rw [ni_cl (by omega), ni_succ]
    refine next _ (fun a c => ?_)
    rw [sI_r, h, h, if_neg (show ¬ (1019 = 1027 ∧ i < i) by omega)]
    by_cases z : a = 1027 ∧ c = i
    · rw [if_pos z, if_pos (by omega), z.2]
    · rw [if_neg z]
      by_cases y : a = 1027 ∧ c < i
      · rw [if_pos y, if_pos (by omega)]
      · rw [if_neg y, if_neg (by omega)]
  · rw [X12_town_238]
    refine ok_pos (Int32.le_refl _) (ok_bv (ok_mono (t264_ok s hN (by rw [h, if_neg (by omega)]; exact h45)) (fun t g => ⟨g.1, fun a c h1 h2 h3 h4 => ?_, fun c hc => ?_, fun c hc => ?_, fun c hc => ?_, fun p hp => ⟨?_, ?_, ?_, ?_⟩, ?_, ?_, ?_⟩)))
    · rw [g.2, if_neg (by omega), if_neg (by omega), if_neg h4, if_neg h2, h, if_neg (by omega)]
    · rw [g.2, if_pos ⟨rfl, hc⟩]
    · rw [g.2, if_neg (by omega), if_neg (by omega), if_pos ⟨rfl, hc⟩]
    · rw [g.2, if_neg (by omega), if_pos (by omega), h, if_pos (by omega), show 24 + c - 24 = c by omega]
    · rw [g.2, if_neg (by omega), if_neg (by omega), if_neg (by omega), if_pos rfl, if_pos hp, h, if_neg (by omega)]
    · rw [g.2, if_neg (by omega), if_neg (by omega), if_neg (by omega), if_pos rfl, if_neg (by omega), if_pos (by omega)]
    · rw [g.2, if_neg (by omega), if_neg (by omega), if_neg (by omega), if_pos rfl, if_neg (by omega), if_neg (by omega), if_pos (by omega), show 12 + p - 12 = p by omega]
    · rw [g.2, if_neg (by omega), if_neg (by omega), if_neg (by omega), if_pos rfl, if_neg (by omega), if_neg (by omega), if_neg (by omega), if_pos (by omega), show 18 + p - 18 = p by omega, h, if_neg (by omega)]
    · rw [g.2, if_neg (by omega), if_neg (by omega), if_neg (by omega), if_pos rfl, if_neg (by omega), if_neg (by omega), if_neg (by omega), if_neg (by omega), if_pos (by omega)]
    · rw [g.2, if_neg (by omega), if_neg (by omega), if_neg (by omega), if_pos rfl, if_neg (by omega), if_neg (by omega), if_neg (by omega), if_neg (by omega), if_pos (by omega)]
    · rw [g.2, if_neg (by omega), if_neg (by omega), if_neg (by omega), if_pos rfl, if_neg (by omega), if_neg (by omega), if_neg (by omega), if_neg (by omega), if_pos (by omega)]
def TE (N : Nat) (ρ : Mem) (t : Int32 × Mem) : Prop := t.1 = nI N ∧ (∀ a c, a < 1020 ∨ 1050 < a → a ≠ 1006 → a ≠ 1007 → a ≠ 1008 → ¬ (a = 1000 ∧ (c = 69 ∨ c = 70 ∨ c = 75 ∨ c = 86)) → t.2.1 a c = ρ.1 a c) ∧ (∀ c, c < 3 → t.2.1 1050 c = 0) ∧ (∀ c, c = 69 ∨ c = 70 ∨ c = 75 ∨ c = 86 → t.2.1 1000 c = 0) ∧ (∀ c, c < 36 → t.2.1 1028 (24 + c) = ρ.1 1019 c) ∧ (∀ p, p < N → t.2.1 1028 p = ρ.1 1012 p ∧ t.2.1 1028 (6 + p) = -1 ∧ t.2.1 1028 (12 + p) = nI p ∧ t.2.1 1028 (18 + p) = ρ.1 1018 p) ∧ (t.2.1 1028 60 = 0 ∧ t.2.1 1028 61 = 0 ∧ t.2.1 1028 62 = 0) ∧ ∀ j p, j < 7 → p < 6 → t.2.1 (1020 + j) p = ρ.1 (1012 + j) p
theorem t140_ok {N : Nat} (ρ : Mem) (hN : N ≤ 6) (h45 : ρ.1 1000 45 = nI N) : Ok (X12_town_140 fu (nI 0) ρ) (fun t => TE N ρ t ∧ ∀ c, t.2.1 1006 c = ρ.1 1006 c ∧ t.2.1 1007 c = ρ.1 1007 c ∧ t.2.1 1008 c = ρ.1 1008 c) := by
  refine ok_loop0 (F := X12_town_140) (N := 6) (I := fun i ρ' => ∀ a c, ρ'.1 a c = if (1020 ≤ a ∧ a ≤ 1026) ∧ c < i then ρ.1 (a - 8) c else ρ.1 a c) 0 ρ (by omega) (by omega) (fun a c => by rw [if_neg (by omega)]) (fun n i s hi h next => ?_) (fun n s h => ?_)
  · have gb := ib_t (n := i) (k := 6) (by omega) (by omega)
    rw [X12_town_140]
    refine ok_neg (by rw [show (6 : Int32) = nI 6 from rfl, ni_le (by omega) (by omega)]; omega) (ok_pos gb (ok_pos gb (ok_bv (ok_pos gb (ok_pos gb (ok_bv (ok_pos gb (ok_pos gb (ok_bv (ok_pos gb (ok_pos gb (ok_bv (ok_pos gb (ok_pos gb (ok_bv (ok_pos gb (ok_pos gb (ok_bv (ok_pos gb (ok_pos gb (ok_bv (ok_bv ?_))))))))))))))))))))))
    rw [ni_cl (by omega), ni_succ]
    refine next _ (fun a c => ?_)
    have hs : ∀ a, a < 1020 → s.1 a i = ρ.1 a i := fun a ha => by rw [h, if_neg (by omega)]
    by_cases z : (1020 ≤ a ∧ a ≤ 1026) ∧ c = i
    · rw [if_pos (by omega), z.2]
      rcases (show a = 1020 ∨ a = 1021 ∨ a = 1022 ∨ a = 1023 ∨ a = 1024 ∨ a = 1025 ∨ a = 1026 by omega) with e | e | e | e | e | e | e
      all_goals
        subst e
        simp only [sI_r]
        simp
        exact hs _ (by omega)
    · have e : ∀ (τ : Mem) (o : Nat) (v : Int32), 1020 ≤ o → o ≤ 1026 → (sI τ o i v).1 a c = τ.1 a c := fun τ o v h1 h2 => by rw [sI_r, if_neg (by omega)]
      rw [e _ _ _ (by omega) (by omega), e _ _ _ (by omega) (by omega), e _ _ _ (by omega) (by omega), e _ _ _ (by omega) (by omega), e _ _ _ (by omega) (by omega), e _ _ _ (by omega) (by omega), e _ _ _ (by omega) (by omega), h]
      by_cases y : (1020 ≤ a ∧ a ≤ 1026) ∧ c < i
      · rw [if_pos y, if_pos (by omega)]
      · rw [if_neg y, if_neg (by omega)]
  · rw [X12_town_140]
    refine ok_pos (Int32.le_refl _) (ok_bv (ok_mono (t238_ok s hN (by rw [h, if_neg (by omega)]; exact h45)) (fun t g => ?_)))
    obtain ⟨g1, g2, g3, g4, g5, g6, g7, g8, g9⟩ := g
    refine ⟨⟨g1, fun a c q1 q2 q3 q4 q5 => ?_, g3, g4, fun c hc => ?_, fun p hp => ?_, ⟨g7, g8, g9⟩, fun j p hj hp => ?_⟩, fun c => ⟨?_, ?_, ?_⟩⟩
    · rw [g2 a c (by omega) (by omega) (by omega) q5, h, if_neg (by omega)]
    · rw [g5 c hc, h, if_neg (by omega)]
    · obtain ⟨e1, e2, e3, e4⟩ := g6 p hp
      rw [e1, e2, e3, e4, h, if_pos (by omega), h, if_pos (by omega)]
      exact ⟨rfl, rfl, rfl, rfl⟩
    · rw [g2 _ _ (by omega) (by omega) (by omega) (by omega), h, if_pos (by omega), show 1020 + j - 8 = 1012 + j by omega]
    · rw [g2 _ _ (by omega) (by omega) (by omega) (by omega), h, if_neg (by omega)]
    · rw [g2 _ _ (by omega) (by omega) (by omega) (by omega), h, if_neg (by omega)]
    · rw [g2 _ _ (by omega) (by omega) (by omega) (by omega), h, if_neg (by omega)]
theorem t86_ok {k63 : Int32 → Mem → Option (Int32 × Mem)} {Q : Int32 × Mem → Prop} {w len : Nat} (hw : w < 3) (hl : len ≤ 320) : ∀ (r j n : Nat) (ρ : Mem), j + r = len → r < n → ρ.1 1008 w = nI len → (∀ ρ' : Mem, (∀ a c, ρ'.1 a c = if a = 1006 ∧ 320 * w + j ≤ c ∧ c < 320 * w + len then ρ.1 1003 c else if a = 1007 ∧ 320 * w + j ≤ c ∧ c < 320 * w + len then ρ.1 1004 c else ρ.1 a c) → Ok (k63 (nI (w + 1)) ρ') Q) → Ok (X12_town_86 k63 n (nI w) (nI (320 * w + j)) ρ) Q
  | 0, j, n, ρ, h1, h2, h8, hQ => by
    obtain ⟨n, rfl⟩ : ∃ i, n = i + 1 := ⟨n - 1, by omega⟩
    rw [X12_town_86]
    refine ok_pos (ib_t hw (by omega)) ?_
    rw [ni_cl (by omega), h8, show (320 : Int32) = nI 320 from rfl, ni_mul, ni_add]
    refine ok_pos ((ni_le (by omega) (by omega)).mpr (by omega)) (ok_bv ?_)
    rw [ni_succ]
    refine hQ ρ (fun a c => ?_)
    rw [if_neg (by omega), if_neg (by omega)]
  | r + 1, j, n, ρ, h1, h2, h8, hQ => by
    obtain ⟨n, rfl⟩ : ∃ i, n = i + 1 := ⟨n - 1, by omega⟩
    have gb := ib_t (n := 320 * w + j) (k := 960) (by omega) (by omega)
    rw [X12_town_86]
    refine ok_pos (ib_t hw (by omega)) ?_
    rw [ni_cl (show w < 2147483648 by omega), h8, show (320 : Int32) = nI 320 from rfl, ni_mul, ni_add]
    refine ok_neg (by rw [ni_le (by omega) (by omega)]; omega) (ok_pos gb (ok_pos gb (ok_bv (ok_pos gb (ok_pos gb (ok_bv (ok_bv ?_)))))))
    rw [ni_cl (show 320 * w + j < 2147483648 by omega), ni_succ]
    have e3 : ∀ a c, (sI (sI ρ 1006 (320 * w + j) (ρ.1 1003 (320 * w + j))) 1007 (320 * w + j) ((sI ρ 1006 (320 * w + j) (ρ.1 1003 (320 * w + j))).1 1004 (320 * w + j))).1 a c = if a = 1007 ∧ c = 320 * w + j then ρ.1 1004 (320 * w + j) else if a = 1006 ∧ c = 320 * w + j then ρ.1 1003 (320 * w + j) else ρ.1 a c := fun a c => by
      rw [sI_r, sI_n (a := 1004) (by decide), sI_r]
    refine t86_ok hw hl r (j + 1) n _ (by omega) (by omega) (by rw [sI_n (by decide), sI_n (by decide)]; exact h8) (fun ρ' g => hQ ρ' (fun a c => ?_))
    have g' := g a c
    rw [e3, e3, e3, if_neg (show ¬ (1003 = 1007 ∧ c = 320 * w + j) by omega), if_neg (show ¬ (1003 = 1006 ∧ c = 320 * w + j) by omega), if_neg (show ¬ (1004 = 1007 ∧ c = 320 * w + j) by omega), if_neg (show ¬ (1004 = 1006 ∧ c = 320 * w + j) by omega)] at g'
    rw [g']
    by_cases y : c = 320 * w + j
    · subst y
      rw [if_neg (show ¬ (a = 1006 ∧ 320 * w + (j + 1) ≤ 320 * w + j ∧ 320 * w + j < 320 * w + len) by omega), if_neg (show ¬ (a = 1007 ∧ 320 * w + (j + 1) ≤ 320 * w + j ∧ 320 * w + j < 320 * w + len) by omega)]
      by_cases z7 : a = 1007
      · rw [if_pos ⟨z7, rfl⟩, if_neg (show ¬ (a = 1006 ∧ 320 * w + j ≤ 320 * w + j ∧ 320 * w + j < 320 * w + len) by omega), if_pos (show a = 1007 ∧ 320 * w + j ≤ 320 * w + j ∧ 320 * w + j < 320 * w + len by omega)]
      · rw [if_neg (show ¬ (a = 1007 ∧ 320 * w + j = 320 * w + j) by omega)]
        by_cases z6 : a = 1006
        · rw [if_pos ⟨z6, rfl⟩, if_pos (show a = 1006 ∧ 320 * w + j ≤ 320 * w + j ∧ 320 * w + j < 320 * w + len by omega)]
        · rw [if_neg (show ¬ (a = 1006 ∧ 320 * w + j = 320 * w + j) by omega), if_neg (show ¬ (a = 1006 ∧ 320 * w + j ≤ 320 * w + j ∧ 320 * w + j < 320 * w + len) by omega), if_neg (show ¬ (a = 1007 ∧ 320 * w + j ≤ 320 * w + j ∧ 320 * w + j < 320 * w + len) by omega)]
    · rw [if_neg (show ¬ (a = 1007 ∧ c = 320 * w + j) by omega), if_neg (show ¬ (a = 1006 ∧ c = 320 * w + j) by omega)]
      have q : (320 * w + (j + 1) ≤ c ∧ c < 320 * w + len) = (320 * w + j ≤ c ∧ c < 320 * w + len) := by
        apply propext
        omega
      simp only [q]
/-- the formulas that are taken over -/
def Tk3 (ρ ρ' : Mem) (w : Nat) : Prop := ∀ v, v < w → ρ'.1 1008 v = ρ.1 1005 v ∧ ∀ len, ρ.1 1005 v = nI len → len ≤ 320 → ∀ c, c < len → ρ'.1 1006 (320 * v + c) = ρ.1 1003 (320 * v + c) ∧ ρ'.1 1007 (320 * v + c) = ρ.1 1004 (320 * v + c)
theorem t63_ok {N : Nat} (ρ : Mem) (hN : N ≤ 6) (h45 : ρ.1 1000 45 = nI N) (h5 : B5 ρ) : Ok (X12_town_63 fu (nI 0) ρ) (fun t => TE N ρ t ∧ Tk3 ρ t.2 3) := by
  have go : ∀ (r w n : Nat) (ρ' : Mem), w + r = 3 → r < n → (∀ a c, a ≠ 1006 → a ≠ 1007 → a ≠ 1008 → ρ'.1 a c = ρ.1 a c) → Tk3 ρ ρ' w → Ok (X12_town_63 n (nI w) ρ') (fun t => TE N ρ t ∧ Tk3 ρ t.2 3) := by
    intro r
    induction r with
    | zero =>
      intro w n ρ' hw hn hO hT
      obtain ⟨n, rfl⟩ : ∃ i, n = i + 1 := ⟨n - 1, by omega⟩
      have hw3 : w = 3 := by omega
      subst hw3
      rw [X12_town_63]
      refine ok_pos (Int32.le_refl _) (ok_bv (ok_mono (t140_ok ρ' hN (by rw [hO _ _ (by decide) (by decide) (by decide)]; exact h45)) (fun t g => ?_)))
      obtain ⟨⟨g1, g2, g3, g4, g5, g6, g7, g8⟩, g9⟩ := g
      refine ⟨⟨g1, fun a c q1 q2 q3 q4 q5 => ?_, g3, g4, fun c hc => ?_, fun p hp => ?_, g7, fun j p hj hp => ?_⟩, fun v hv => ?_⟩
      · rw [g2 a c q1 q2 q3 q4 q5, hO a c q2 q3 q4]
      · rw [g5 c hc, hO _ _ (by decide) (by decide) (by decide)]
      · rw [← hO 1012 p (by decide) (by decide) (by decide), ← hO 1018 p (by decide) (by decide) (by decide)]
        exact g6 p hp
      · rw [g8 j p hj hp, hO _ _ (by omega) (by omega) (by omega)]
      · rw [(g9 v).2.2]
        refine ⟨(hT v hv).1, fun len hl hl2 c hc => ?_⟩
        rw [(g9 _).1, (g9 _).2.1]
        exact (hT v hv).2 len hl hl2 c hc
    | succ r ih =>
      intro w n ρ' hw hn hO hT
      obtain ⟨n, rfl⟩ : ∃ i, n = i + 1 := ⟨n - 1, by omega⟩
      have gb := ib_t (n := w) (k := 3) (by omega) (by omega)
      obtain ⟨len, hl, el⟩ := h5 w (by omega)
      have el' : ρ'.1 1005 w = nI len := by rw [hO _ _ (by decide) (by decide) (by decide)]; exact el
      rw [X12_town_63]
      refine ok_neg (by rw [show (3 : Int32) = nI 3 from rfl, ni_le (by omega) (by omega)]; omega) (ok_pos gb (ok_pos gb (ok_bv (ok_bv ?_))))
      rw [ni_cl (by omega), show (320 : Int32) = nI 320 from rfl, ni_mul]
      refine t86_ok (len := len) (by omega) hl len 0 fu _ (by omega) (by unfold fu; omega) (by rw [sI_e]; exact el') (fun ρ2 g => ih (w + 1) n ρ2 (by omega) (by omega) (fun a c q1 q2 q3 => ?_) (fun v hv => ?_))
      · rw [g, if_neg (by omega), if_neg (by omega), sI_n q3]
        exact hO a c q1 q2 q3
      · by_cases e : v = w
        · subst e
          refine ⟨?_, fun len' hl' hl2 c hc => ?_⟩
          · rw [g, if_neg (by omega), if_neg (by omega), sI_e, el', el]
          · rw [el, ni_inj (by omega) (by omega)] at hl'
            subst hl'
            rw [g, if_pos (by omega), g, if_neg (by omega), if_pos (by omega), sI_n (by decide), sI_n (by decide), hO _ _ (by decide) (by decide) (by decide), hO _ _ (by decide) (by decide) (by decide)]
            exact ⟨rfl, rfl⟩
        · obtain ⟨t1, t2⟩ := hT v (by omega)
          refine ⟨?_, fun len' hl' hl2 c hc => ?_⟩
          · rw [g, if_neg (by omega), if_neg (by omega), sI_k e]
            exact t1
          · rw [g, if_neg (by omega), if_neg (by omega), sI_n (by decide), g, if_neg (by omega), if_neg (by omega), sI_n (by decide)]
            exact t2 len' hl' hl2 c hc
  exact go 3 0 fu ρ (by omega) (by decide) (fun _ _ _ _ _ => rfl) (fun v hv => by omega)
theorem townEnd_ok {N : Nat} {ρ : Mem} (h2 : ρ.1 1000 2 = 0) (h42 : ρ.1 1000 42 = nI N) (hN : N ≤ 6) (hfl : ∀ w, w < 3 → ρ.1 1000 (49 + w) = 0 ∨ ρ.1 1000 (49 + w) = 1) (h5 : B5 ρ) :
    Ok (townEnd ρ) (fun t => (t.1 = nI N ∧ (∀ a c, a < 1020 ∨ 1050 < a → a ≠ 1006 → a ≠ 1007 → a ≠ 1008 → ¬ (a = 1000 ∧ (c = 69 ∨ c = 70 ∨ c = 75 ∨ c = 86 ∨ c = 45 ∨ c = 46 ∨ c = 52 ∨ c = 53 ∨ c = 54 ∨ c = 22)) → t.2.1 a c = ρ.1 a c) ∧ (∀ c, c < 3 → t.2.1 1050 c = 0) ∧ (∀ c, c = 69 ∨ c = 70 ∨ c = 75 ∨ c = 86 → t.2.1 1000 c = 0) ∧ (∀ c, c < 36 → t.2.1 1028 (24 + c) = ρ.1 1019 c) ∧ (∀ p, p < N → t.2.1 1028 p = ρ.1 1012 p ∧ t.2.1 1028 (6 + p) = -1 ∧ t.2.1 1028 (12 + p) = nI p ∧ t.2.1 1028 (18 + p) = ρ.1 1018 p) ∧ (t.2.1 1028 60 = 0 ∧ t.2.1 1028 61 = 0 ∧ t.2.1 1028 62 = 0) ∧ ∀ j p, j < 7 → p < 6 → t.2.1 (1020 + j) p = ρ.1 (1012 + j) p) ∧ Tk3 ρ t.2 3 ∧ t.2.1 1000 45 = ρ.1 1000 42 ∧ t.2.1 1000 46 = ρ.1 1000 44 ∧ (∀ w, w < 3 → t.2.1 1000 (52 + w) = ρ.1 1000 (49 + w)) ∧ t.2.1 1000 22 = ρ.1 1000 21) := by
  have f0 := hfl 0 (by decide)
  have f1 := hfl 1 (by decide)
  have f2 := hfl 2 (by decide)
  unfold townEnd
  refine ok_pos (by rw [h2]; exact Int32.le_refl _) (ok_bv (ok_bv ?_))
  refine ok_pos (by rw [sI_k (by decide), sI_k (by decide)]; exact f0) (ok_bv ?_)
  refine ok_pos (by rw [sI_k (by decide), sI_k (by decide), sI_k (by decide)]; exact f1) (ok_bv ?_)
  refine ok_pos (by rw [sI_k (by decide), sI_k (by decide), sI_k (by decide), sI_k (by decide)]; exact f2) (ok_bv (ok_bv (ok_bv ?_)))
  rw [sI_k (a := 1000) (b := 44) (by decide), sI_k (a := 1000) (b := 49) (by decide), sI_k (a := 1000) (b := 49) (by decide), sI_k (a := 1000) (b := 50) (by decide), sI_k (a := 1000) (b := 50) (by decide), sI_k (a := 1000) (b := 50) (by decide), sI_k (a := 1000) (b := 51) (by decide), sI_k (a := 1000) (b := 51) (by decide), sI_k (a := 1000) (b := 51) (by decide), sI_k (a := 1000) (b := 51) (by decide), sI_k (a := 1000) (b := 21) (by decide), sI_k (a := 1000) (b := 21) (by decide), sI_k (a := 1000) (b := 21) (by decide), sI_k (a := 1000) (b := 21) (by decide), sI_k (a := 1000) (b := 21) (by decide)]
  obtain ⟨ρ1, hρ1⟩ : ∃ y, y = sI (sI (sI (sI (sI (sI ρ 1000 45 (ρ.1 1000 42)) 1000 46 (ρ.1 1000 44)) 1000 52 (ρ.1 1000 49)) 1000 53 (ρ.1 1000 50)) 1000 54 (ρ.1 1000 51)) 1000 22 (ρ.1 1000 21) := ⟨_, rfl⟩
  rw [← hρ1]
  have e45 : ρ1.1 1000 45 = ρ.1 1000 42 := by rw [hρ1]; simp [sI_r]
  have e46 : ρ1.1 1000 46 = ρ.1 1000 44 := by rw [hρ1]; simp [sI_r]
  have e52 : ρ1.1 1000 52 = ρ.1 1000 49 := by rw [hρ1]; simp [sI_r]
  have e53 : ρ1.1 1000 53 = ρ.1 1000 50 := by rw [hρ1]; simp [sI_r]
  have e54 : ρ1.1 1000 54 = ρ.1 1000 51 := by rw [hρ1]; simp [sI_r]
  have e22 : ρ1.1 1000 22 = ρ.1 1000 21 := by rw [hρ1]; simp [sI_r]
  have eO : ∀ a c, ¬ (a = 1000 ∧ (c = 45 ∨ c = 46 ∨ c = 52 ∨ c = 53 ∨ c = 54 ∨ c = 22)) → ρ1.1 a c = ρ.1 a c := fun a c g => by
    rw [hρ1, sI_r, if_neg (by omega), sI_r, if_neg (by omega), sI_r, if_neg (by omega), sI_r, if_neg (by omega), sI_r, if_neg (by omega), sI_r, if_neg (by omega)]
  clear hρ1
  have h5' : B5 ρ1 := fun w hw => by
    rw [eO _ _ (by omega)]
    exact h5 w hw
  refine ok_mono (t63_ok ρ1 hN (by rw [e45]; exact h42) h5') (fun t g => ?_)
  obtain ⟨⟨g1, g2, g3, g4, g5, g6, g7, g8⟩, g9⟩ := g
  refine ⟨⟨g1, fun a c q1 q2 q3 q4 q5 => ?_, g3, g4, fun c hc => ?_, fun p hp => ?_, g7, fun j p hj hp => ?_⟩, fun v hv => ?_, ?_, ?_, fun w hw => ?_, ?_⟩
  · rw [g2 a c q1 q2 q3 q4 (by omega), eO a c (by omega)]
  · rw [g5 c hc, eO _ _ (by omega)]
  · rw [← eO 1012 p (by omega), ← eO 1018 p (by omega)]
    exact g6 p hp
  · rw [g8 j p hj hp, eO _ _ (by omega)]
  · obtain ⟨k1, k2⟩ := g9 v hv
    rw [eO 1005 v (by omega)] at k1 k2
    refine ⟨k1, fun len hl hl2 c hc => ?_⟩
    obtain ⟨k3, k4⟩ := k2 len hl hl2 c hc
    rw [k3, k4, eO _ _ (by omega), eO _ _ (by omega)]
    exact ⟨rfl, rfl⟩
  · rw [g2 1000 45 (by omega) (by decide) (by decide) (by decide) (by omega)]
    exact e45
  · rw [g2 1000 46 (by omega) (by decide) (by decide) (by decide) (by omega)]
    exact e46
  · rw [g2 1000 (52 + w) (by omega) (by decide) (by decide) (by decide) (by omega)]
    match w, hw with
    | 0, _ => exact e52
    | 1, _ => exact e53
    | 2, _ => exact e54
    | n + 3, h => exact absurd h (by omega)
  · rw [g2 1000 22 (by omega) (by decide) (by decide) (by decide) (by omega)]
    exact e22
