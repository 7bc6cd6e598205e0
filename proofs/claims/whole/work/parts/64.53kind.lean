/-! town: the class's kind of a word -/
def fl (ws : List (List Nat)) : List Nat := ws.flatMap (fun w => w ++ [32])
theorem fl_cons (w : List Nat) (r : List (List Nat)) : fl (w :: r) = w ++ 32 :: fl r := by
  show (w ++ [32]) ++ fl r = _
  rw [List.append_assoc]
  rfl
theorem pm_le (W : List Nat) : ∀ (w : List Nat) (x : Option Nat), (∀ m, x = some m → m ≤ W.length) → ∀ m, w.foldl (pmS W) x = some m → m ≤ W.length
  | [], _, hx, m, h => hx m h
  | c :: r, x, hx, m, h => by
    refine pm_le W r (pmS W x c) (fun q hq => ?_) m h
    cases x with
    | none => cases hq
    | some y =>
      have hq : (if y < W.length ∧ W.getD y 0 = c then some (y + 1) else none) = some q := hq
      split at hq
      · rename_i z
        cases hq
        omega
      · cases hq
theorem kindW_ok {b : Nat → Nat} {k p : Nat} {W : List Nat} {σ : Mem} (hb : TB b k) (h : onT b k p W σ) : ∀ (ws : List (List Nat)) (i j n : Nat), i + (fl ws).length = 113 → (∀ q, q < (fl ws).length → SB.getD (i + q) 0 = (fl ws).getD q 0) → (∀ w, w ∈ ws → ∀ c, c ∈ w → c < 256 ∧ c ≠ 32) → (fl ws).length < n →
    Ok (X9_kindOfWord_7 n (nI j) (nI 0) (nI i) σ) (fun r => r = (own W ws j, σ))
  | [], i, j, n, hi, hS, hw, hn => by
    obtain ⟨n, rfl⟩ : ∃ q, n = q + 1 := ⟨n - 1, by omega⟩
    have hi : i = 113 := hi
    subst hi
    rw [X9_kindOfWord_7]
    exact ok_bindE (len1_ok σ) (ok_pos (Int32.le_refl _) (ok_some rfl))
  | w :: r, i, j, n, hi, hS, hw, hn => by
    rw [fl_cons, List.length_append, List.length_cons] at hi hn
    rw [fl_cons] at hS
    have hW8 := h.2.1
    refine kind7_ok hb h w i n (some 0) (fun m hm => by cases hm; omega) (hw w (.head _)) (by omega) (fun q hq => ?_) (by omega) (fun n' hn' => ?_)
    · rw [hS q (by rw [List.length_append]; omega)]
      simp only [List.getD]
      rw [List.getElem?_append_left hq]
    · obtain ⟨n', rfl⟩ : ∃ q, n' = q + 1 := ⟨n' - 1, by omega⟩
      have e32 : SB.getD (i + w.length) 0 = 32 := by
        rw [hS w.length (by rw [List.length_append, List.length_cons]; omega)]
        simp
      have eL : σ.1 3 4 - σ.1 3 3 = nI W.length := by rw [h.2.2.2.1, h.2.2.2.2.1, ni_sub (by omega)]; congr 1; omega
      have hpm := pm_ok W w 0 (by omega)
      rw [List.drop_zero] at hpm
      have hle := pm_le W w (some 0) (fun m hm => by cases hm; omega)
      generalize w.foldl (pmS W) (some 0) = x at *
      rw [X9_kindOfWord_7]
      refine ok_bindE (len1_ok σ) (ok_neg (by show ¬ nI 113 ≤ nI (i + w.length); rw [ni_le (by omega) (by omega)]; omega) (ok_bindE (charAt_ok (by omega) σ) (ok_bv ?_)))
      show Ok (if nI (SB.getD (i + w.length) 0) = 32 then (if enc x = σ.1 3 4 - σ.1 3 3 then some (nI j, σ) else _) else _) _
      rw [e32, eL]
      refine ok_pos rfl ?_
      have key : enc x = nI W.length ↔ w = W := by
        rw [eq_comm (a := w), ← hpm]
        cases x with
        | none =>
          constructor
          · intro e
            exact absurd e.symm (ni_ne_neg (by omega))
          · intro e
            cases e
        | some m =>
          have := hle m rfl
          show nI m = nI W.length ↔ some m = some W.length
          rw [ni_inj (by omega) (by omega)]
          constructor
          · intro e
            rw [e]
          · intro e
            exact Option.some.inj e
      refine ok_ite (fun z => ok_some ?_) (fun z => ok_bv (ok_bv ?_))
      · unfold own
        rw [if_pos (key.mp z)]
      · unfold X9_kindOfWord_95
        refine ok_bv ?_
        rw [ni_succ, ni_succ]
        unfold own
        rw [if_neg (fun e => z (key.mpr e))]
        refine kindW_ok hb h r (i + w.length + 1) (j + 1) n' (by omega) (fun q hq => ?_) (fun v hv => hw v (.tail _ hv)) (by omega)
        have := hS (w.length + 1 + q) (by rw [List.length_append, List.length_cons]; omega)
        rw [show i + w.length + 1 + q = i + (w.length + 1 + q) by omega, this]
        simp only [List.getD]
        rw [List.getElem?_append_right (by omega), show w.length + 1 + q - w.length = q + 1 by omega, List.getElem?_cons_succ]
theorem OW_let : ∀ w, w ∈ OW → ∀ c, c ∈ w → c < 256 ∧ c ≠ 32 := by decide
theorem kind_ok {b : Nat → Nat} {k p : Nat} {W : List Nat} {σ : Mem} (hb : TB b k) (h : onT b k p W σ) : Ok (X9_kindOfWord σ) (fun r => r = (ownK W, σ)) := by
  unfold X9_kindOfWord
  refine ok_bv (ok_bv (ok_bv ?_))
  exact kindW_ok hb h OW 0 100 fu (by decide) (fun q _ => by rw [Nat.zero_add]; rfl) OW_let (by decide)
