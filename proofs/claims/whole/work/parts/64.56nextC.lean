/-! town: the class's next token, whole -/
theorem next57_ok {b : Nat → Nat} {k q : Nat} {σ : Mem} (hb : TB b k) (hT : TC b k σ) (hq : q ≤ k) (h3 : σ.1 3 3 = nI q) : Ok (X9_next_57 σ) (fun σ' => CTok b k (tokAt b k q) σ') := by
  have h1600 := hb.1
  unfold X9_next_57
  refine ok_bv ?_
  have hT1 : TC b k (sI σ 3 4 (σ.1 3 3)) := hT.set (by decide) (by decide)
  have e3 : (sI σ 3 4 (σ.1 3 3)).1 3 3 = nI q := by rw [sI_k (by decide)]; exact h3
  have e4 : (sI σ 3 4 (σ.1 3 3)).1 3 4 = nI q := by rw [sI_e]; exact h3
  generalize sI σ 3 4 (σ.1 3 3) = σ1 at *
  rw [e3, hT1.2.1]
  unfold tokAt
  refine ok_ite (fun z => ?_) (fun z => ok_bv (ok_some ?_))
  · rw [ni_lt (by omega) (by omega)] at z
    rw [if_pos z]
    refine ok_bindE (isLetterC_ok hb hT1 z) ?_
    cases w : isL (b q) with
    | true =>
      rw [if_pos rfl]
      exact ok_neg one_ne (wordC_ok hb hT1 z e3 e4)
    | false =>
      rw [if_neg (show ¬ (false = true) by decide)]
      refine ok_pos rfl ?_
      show Ok ((X9_isDigit (σ1.1 3 3) σ1).bind _) _
      rw [e3]
      refine ok_bindE (isDigitC_ok hb hT1 z) ?_
      cases y : isDg (b q) with
      | true =>
        rw [if_pos rfl]
        exact ok_neg one_ne (ok_bind (numC_ok hb hT1 z e3 e4) (fun σ2 h => ok_some h))
      | false =>
        rw [if_neg (show ¬ (false = true) by decide)]
        refine ok_pos rfl (ok_bv ?_)
        have bq := ib_t (n := q) (k := 1600) (by omega) (by omega)
        have hT2 : TC b k (sI σ1 3 4 (σ1.1 3 3 + 1)) := hT1.set (by decide) (by decide)
        have f3 : (sI σ1 3 4 (σ1.1 3 3 + 1)).1 3 3 = nI q := by rw [sI_k (by decide)]; exact e3
        have f4 : (sI σ1 3 4 (σ1.1 3 3 + 1)).1 3 4 = nI (q + 1) := by rw [sI_e, e3, ni_succ]
        show Ok (if (sI σ1 3 4 (σ1.1 3 3 + 1)).1 3 0 = nI 1 then _ else _) _
        generalize sI σ1 3 4 (σ1.1 3 3 + 1) = σ2 at *
        have hv := hb.2 q z
        obtain ⟨s1, s2, s3⟩ := sg_pos_fin ⟨b q, hv⟩
        have fin : ∀ x : Int32, x = (if isSg (b q) = true then nI (b q) else 1) → Ok (X9_next_200 x σ2) (fun σ' => CTok b k (if isSg (b q) = true then b q else 1, q, q + 1) σ') := by
          intro x hx
          unfold X9_next_200
          refine ok_bv (ok_some ⟨hT2.set (by decide) (by decide), by rw [sI_k (by decide)]; exact f3, by rw [sI_k (by decide)]; exact f4, ?_, fun u => ?_⟩)
          · rw [sI_e, hx]
            unfold kindC
            by_cases g : isSg (b q) = true
            · have s4 : 3 < b q ∧ b q < 128 := s3 g
              simp only [if_pos g]
              rw [if_neg (by omega)]
            · simp only [if_neg g]
              rw [if_neg (by decide)]
              rfl
          · exfalso
            by_cases g : isSg (b q) = true
            · have s4 : 3 < b q ∧ b q < 128 := s3 g
              simp only [if_pos g] at u
              omega
            · simp only [if_neg g] at u
              omega
        rw [f3]
        refine ok_pos hT2.1.1 (ok_pos bq ?_)
        rw [ni_cl (by omega), hT2.2.2 q z]
        refine ok_ite (fun g => ?_) (fun g => ok_pos hT2.1.1 (ok_pos bq ?_))
        · unfold X9_next_199
          refine fin 1 ?_
          rw [if_neg (fun e => absurd g (s1.mpr (by have := s3 e; omega)))]
        · have g' := s1.mp g
          have s2 := s2 g'.2
          rw [show ((sg (b q)).toUInt32 % 65536).toInt32 = nI (b q) from s2.2.1]
          refine ok_bindE (indexOf_ok g'.2) ?_
          have hx := ixF_sg ⟨b q, hv⟩
          refine ok_ite (fun u => ?_) (fun u => ?_)
          · unfold X9_next_199
            refine fin 1 ?_
            rw [if_neg (by rw [hx.mp u]; decide)]
          · refine ok_pos hT2.1.1 ?_
            show Ok (if ib (σ2.1 3 3) 1600 = true then X9_next_200 (σ2.1 1 (σ2.1 3 3).toNatClampNeg) σ2 else none) _
            rw [f3, ni_cl (by omega), hT2.2.2 q z]
            refine ok_pos bq (fin _ ?_)
            have hs : isSg (b q) = true := by
              cases e : isSg (b q) with
              | true => rfl
              | false => exact absurd (hx.mpr e) u
            rw [if_pos hs]
            exact s2.1
  · rw [ni_lt (by omega) (by omega)] at z
    rw [if_neg z]
    refine ⟨hT1.set (by decide) (by decide), by rw [sI_k (by decide)]; exact e3, by rw [sI_k (by decide)]; exact e4, by rw [sI_e]; rfl, fun u => by cases u⟩
theorem nextC_ok {b : Nat → Nat} {k p : Nat} {σ : Mem} (hb : TB b k) (hT : TC b k σ) (hp : p ≤ k) (h4 : σ.1 3 4 = nI p) : Ok (X9_next σ) (fun σ' => CTok b k (nxt b k p) σ') := by
  have h1600 := hb.1
  unfold X9_next
  refine ok_bv (ok_bv ?_)
  rw [sI_k (by decide), h4]
  refine next13_ok hb (k - p) p fu _ (by omega) (by unfold fu; omega) (hT.set (by decide) (by decide)) (by rw [sI_e]; exact hT.2.1) (fun σ' q1 _ q3 => ?_)
  have := run_le isBl b (k - p) p
  exact next57_ok hb q1 (by omega) q3
