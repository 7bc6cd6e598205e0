/-! word: the step -/
def LCw (t : Nat) : List Nat := [45, 46, 47, 49, 50, 51, 52, 53, 55, 56, 57, 58, 59, 60, 123, t + 12, t + 17, t + 22]
def KCw : List (Nat × Nat) := [(0, 14), (43, 4), (43, 5), (48, 5), (48, 6), (48, 7), (54, 5), (54, 6), (54, 7)]
def LMw : List Nat := [1010, 1011, 1029, 1030, 1031, 1032, 1033, 1034, 1035, 1036, 1037, 1038, 1042]
theorem CN_30 {T : Tn} {t : Nat} {σ : Mem} (h : CN T t σ) (pr : Pg) (e : tP T 0 = some pr) : (pos pr 0).length ≤ 30 := by
  unfold CN at h
  rw [e] at h
  exact h.1
theorem s_word (a0 a1 a2 : Int32) : StpI Inv (X11_word a0 a1 a2) (X12_word a0 a1 a2) := by
  refine stp (fun σ => fr_X11_word a0 a1 a2 σ Fr.refl) (fun σ => fr_X12_word a0 a1 a2 σ Fr.refl) (by decide) (by decide) (fun σ ρ hI => ?_)
  have fC : Fr [] [(0, 14)] σ (sI σ 0 14 0) := frIk Fr.refl (.inl (.head _))
  have fM : Fr [] [(1000, 75)] ρ (sI ρ 1000 75 0) := frIk Fr.refl (.inl (.head _))
  have hI1 : InvR (sI σ 0 14 0) (sI ρ 1000 75 0) := hI.lie fC fM (by decide) (by decide) ⟨0, by omega, sI_e _ _ _ _, sI_e _ _ _ _, fun i hi => by omega⟩
  have z14 : (sI σ 0 14 0).1 0 14 = 0 := sI_e _ _ _ _
  have z75 : (sI ρ 1000 75 0).1 1000 75 = 0 := sI_e _ _ _ _
  have eC : ∀ σ1, σ1 = sI σ 0 14 0 → X11_word a0 a1 a2 σ = (X11_isPair a0 a1 σ1).bind fun r2 => if r2.1 = 0 then some ((-1), r2.2) else if a2 < 1 then some ((-1), r2.2) else if a2 ≤ 60 then gT (r2.2.1 0 12) fun q3 => (X11_cell a0 a1 r2.2).bind fun r4 => (X1_countWords q3 31 r4.1 a2 r4.2).bind fun r5 => bv (r5.1 : Int32) fun v6 => if v6 ≤ 0 then some (v6, r5.2) else bv (sI r5.2 123 0 (r5.2.1 43 4)) fun σ7 => bv (sI σ7 123 1 (σ7.1 43 5)) fun σ8 => bv (sI σ8 0 14 2) fun σ9 => some (v6, σ9) else some ((-1), r2.2) := fun σ1 g => by
    subst g
    rfl
  have eM : ∀ ρ1, ρ1 = sI ρ 1000 75 0 → X12_word a0 a1 a2 ρ = (X12_areTwo a0 a1 ρ1).bind fun r2 => if r2.1 = 0 then some ((-1), r2.2) else (X12_isIn a2 1 60 r2.2).bind fun r3 => if r3.1 = 0 then some ((-1), r3.2) else X12_word_35 fu a0 a1 a2 0 0 0 r3.2 := fun ρ1 g => by
    subst g
    rfl
  have eC := eC _ rfl
  have eM := eM _ rfl
  generalize sI σ 0 14 0 = σ1 at *
  generalize sI ρ 1000 75 0 = ρ1 at *
  rw [eC, eM]
  obtain ⟨t, T, s, h1, h2, -, -, -, -, -, -, -⟩ := id hI1
  have hT := h1.2.2.2.1
  have hn := hT.1
  have ht := h1.1
  rw [isPairC_ok h1, areTwo_ok h1, Option.bind_some, Option.bind_some]
  cases hb : isTwo (tN T) a0 a1 with
  | false =>
    rw [if_pos (show tr false = 0 from rfl), if_pos (show tr false = 0 from rfl)]
    exact ⟨_, _, _, rfl, rfl, hI1⟩
  | true =>
    rw [if_neg (show ¬ tr true = 0 from one_ne), if_neg (show ¬ tr true = 0 from one_ne), isIn_ok, Option.bind_some]
    by_cases z : a2 < 1
    · rw [if_pos z, if_pos (show tr (decide (1 ≤ a2) && decide (a2 ≤ 60)) = 0 by rw [decide_eq_false (Int32.not_le.mpr z)]; rfl)]
      exact ⟨_, _, _, rfl, rfl, hI1⟩
    rw [if_neg z]
    by_cases y : a2 ≤ 60
    · rw [if_pos y, if_neg (show ¬ tr (decide (1 ≤ a2) && decide (a2 ≤ 60)) = 0 by rw [decide_eq_true (Int32.not_lt.mp z), decide_eq_true y]; exact one_ne)]
      obtain ⟨p, q, hp, hq, hpq, rfl, rfl⟩ := isTwo_t hn hb
      obtain ⟨m, hm1, hm, rfl⟩ := rng (a := 1) (b := 60) (by omega) (by omega) z y
      rw [show (tr true, σ1).2.1 0 12 = nI t from h1.2.1, gT_ok ht, cell_ok, Option.bind_some]
      obtain ⟨⟨x, σ2⟩, e1, c1, c2, c3⟩ := words_ok (p := p) (q := q) (m := m) hT h2.1 ht hm (by omega) (by omega) h1.2.2.2.2.1 h1.2.2.2.2.2.1 h2.2.1
      obtain ⟨⟨x', ρ2⟩, e2, d1, d2, d3, d4⟩ := wordM_ok (p := p) (q := q) (m := m) hT h2.1 hm (by omega) (by omega) h1.2.2.2.2.2.2.1 h2.2.2 (CN_30 h1.2.2.2.2.2.1) z75
      have g1 : Fr (L_X1_countWords t 31) (K_X1_countWords t 31) σ1 σ2 := fr_X1_countWords t 31 _ _ σ1 Fr.refl _ e1
      have g2 : Fr L_X12_word K_X12_word ρ1 ρ2 := fr_X12_word_35 fu _ _ _ _ _ _ ρ1 Fr.refl _ e2
      have c3 : σ2.1 (t + 11) = σ1.1 (t + 11) := c3
      have d4 : ρ2.1 1007 = ρ1.1 1007 := d4
      have c1 : x = _ := c1
      have d1 : x' = _ := d1
      have g1' : Fr (LCw t) (K_X1_countWords t 31) σ1 σ2 := g1.cut (fun a ha hb => by
        by_cases v : a = t + 11
        · rw [v]
          exact c3
        · exfalso
          apply hb
          simp [L_X1_countWords, LCw] at ha ⊢
          omega) (by simp [L_X1_countWords]; omega)
      have g2' : Fr LMw K_X12_word ρ1 ρ2 := g2.cut (fun a ha hb => by
        by_cases v : a = 1007
        · rw [v]
          exact d4
        · exfalso
          apply hb
          simp [L_X12_word, LMw] at ha ⊢
          omega) (by decide)
      have g1'' : Fr (LCw t) KCw σ1 σ2 := g1'.mono (fun a h => h) (by simp [K_X1_countWords, KCw])
      have e14 : σ2.1 0 14 = 0 := by
        rw [← z14]
        exact g1.1 0 14 (by simp [L_X1_countWords]) (by simp [K_X1_countWords])
      subst c1
      subst d1
      show ∃ (r : Int32) (σ' ρ' : Mem), ((X1_countWords t 31 (nI (6 * p + q)) (nI m) σ1).bind fun r5 => bv (r5.1 : Int32) fun v6 => if v6 ≤ 0 then some (v6, r5.2) else bv (sI r5.2 123 0 (r5.2.1 43 4)) fun σ7 => bv (sI σ7 123 1 (σ7.1 43 5)) fun σ8 => bv (sI σ8 0 14 2) fun σ9 => some (v6, σ9)) = some (r, σ') ∧ X12_word_35 fu (nI p) (nI q) (nI m) 0 0 0 ρ1 = some (r, ρ') ∧ InvR σ' ρ'
      rw [e1, e2, Option.bind_some]
      have c2 : wC (wF T s m (6 * p + q)) σ2 := c2
      have d3 : wR (wF T s m (6 * p + q)) ρ2 := d3
      generalize wF T s m (6 * p + q) = W at *
      have off1 : offL (LCw t) KCw (esA.erase 123) (esB.erase (0, 14)) = true := by rcases ht with rfl | rfl <;> decide
      have off2 : offL LMw K_X12_word (esC.erase 1042) (esD.erase (1000, 75)) = true := by decide
      by_cases w : W.1 = 0
      · refine ⟨nI W.1, σ2, ρ2, ?_, rfl, hI1.lie g1'' g2' off1 off2 ⟨0, by omega, e14, d3.1 w, fun i hi => by omega⟩⟩
        show (if nI W.1 ≤ 0 then _ else _) = _
        rw [w, if_pos (show nI 0 ≤ 0 from Int32.le_refl _)]
      · have wc := c2 w
        have wr := d3.2 w
        refine ⟨nI W.1, sI (sI (sI σ2 123 0 (σ2.1 43 4)) 123 1 (σ2.1 43 5)) 0 14 2, ρ2, ?_, rfl, hI1.lie (frIk (frI (frI g1'' (by simp [LCw])) (by simp [LCw])) (.inl (by simp [KCw]))) g2' off1 off2 ⟨2, by omega, sI_e _ _ _ _, wr.1, fun i hi => ?_⟩⟩
        · show (if nI W.1 ≤ 0 then _ else _) = _
          rw [if_neg (by rw [show (0 : Int32) = nI 0 from rfl, ni_le (by omega) (by omega)]; omega)]
          rfl
        · rw [sI_n (by decide)]
          by_cases i0 : i = 0
          · rw [i0, sI_k (by decide), sI_e, wc.1, wr.2.1]
          · rw [show i = 1 by omega, sI_e, wc.2, wr.2.2]
    · rw [if_neg y, if_pos (show tr (decide (1 ≤ a2) && decide (a2 ≤ 60)) = 0 by rw [decide_eq_false y, Bool.and_false]; rfl)]
      exact ⟨_, _, _, rfl, rfl, hI1⟩
