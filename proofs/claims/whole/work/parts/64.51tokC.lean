/-! town: the class's loops over the tape -/
theorem TC.set {b : Nat → Nat} {k j : Nat} {v : Int32} {σ : Mem} (h : TC b k σ) (h0 : j ≠ 0) (h1 : j ≠ 1) : TC b k (sI σ 3 j v) :=
  ⟨⟨by rw [sI_k (fun e => h0 e.symm)]; exact h.1.1, by rw [sI_n (by decide)]; exact h.1.2⟩, by rw [sI_k (fun e => h1 e.symm)]; exact h.2.1, fun i hi => by rw [sI_n (by decide)]; exact h.2.2 i hi⟩
theorem readLetters5_ok {b : Nat → Nat} {k : Nat} {Q : Mem → Prop} (hb : TB b k) : ∀ (r p n : Nat) (σ : Mem), p + r = k → r < n → TC b k σ → σ.1 3 4 = nI p → (∀ σ', TC b k σ' → Fr [] [(3, 4)] σ σ' → σ'.1 3 4 = nI (p + run isL b r p) → Q σ') → Ok (X9_readLetters_5 n (nI p) σ) Q
  | 0, p, n, σ, h1, h2, hT, h4, hQ => by
    obtain ⟨n, rfl⟩ : ∃ q, n = q + 1 := ⟨n - 1, by omega⟩
    have := hb.1
    rw [X9_readLetters_5, hT.2.1]
    exact ok_pos (by rw [ni_le (by omega) (by omega)]; omega) (ok_some (hQ σ hT Fr.refl h4))
  | r + 1, p, n, σ, h1, h2, hT, h4, hQ => by
    obtain ⟨n, rfl⟩ : ∃ q, n = q + 1 := ⟨n - 1, by omega⟩
    have := hb.1
    rw [X9_readLetters_5, hT.2.1]
    refine ok_neg (by rw [ni_le (by omega) (by omega)]; omega) (ok_bindE (isLetterC_ok hb hT (by omega)) ?_)
    unfold run at hQ
    cases z : isL (b p) with
    | false =>
      rw [z, if_neg (by decide)] at hQ
      exact ok_pos rfl (ok_some (hQ σ hT Fr.refl h4))
    | true =>
      rw [z, if_pos rfl] at hQ
      refine ok_neg one_ne (ok_bv (ok_bv ?_))
      rw [ni_succ]
      refine readLetters5_ok hb r (p + 1) n _ (by omega) (by omega) (hT.set (by decide) (by decide)) (sI_e _ _ _ _) (fun σ' q1 q2 q3 => hQ σ' q1 ((frIk Fr.refl (.inl (.head _))).trans q2) ?_)
      rw [q3]
      congr 1
      omega
theorem sg_num_fin : ∀ v : Fin 256, isDg v.val = true → sg v.val = nI v.val := by decide +kernel
theorem readNumber10_ok {b : Nat → Nat} {k : Nat} {Q : Mem → Prop} (hb : TB b k) : ∀ (r p n : Nat) (σ : Mem) (v : Nat), p + r = k → r < n → TC b k σ → σ.1 3 4 = nI p → σ.1 3 5 = nI v → (∀ σ', TC b k σ' → Fr [] [(3, 4), (3, 5)] σ σ' → σ'.1 3 4 = nI (p + run isDg b r p) → σ'.1 3 5 = nI (numV b (run isDg b r p) p v) → Ok (X9_readNumber_60 σ') Q) → Ok (X9_readNumber_10 n (nI p) σ) Q
  | 0, p, n, σ, v, h1, h2, hT, h4, h5, hQ => by
    obtain ⟨n, rfl⟩ : ∃ q, n = q + 1 := ⟨n - 1, by omega⟩
    have := hb.1
    rw [X9_readNumber_10, hT.2.1]
    exact ok_pos (by rw [ni_le (by omega) (by omega)]; omega) (hQ σ hT Fr.refl h4 h5)
  | r + 1, p, n, σ, v, h1, h2, hT, h4, h5, hQ => by
    obtain ⟨n, rfl⟩ : ∃ q, n = q + 1 := ⟨n - 1, by omega⟩
    have := hb.1
    rw [X9_readNumber_10, hT.2.1]
    refine ok_neg (by rw [ni_le (by omega) (by omega)]; omega) (ok_bindE (isDigitC_ok hb hT (by omega)) ?_)
    unfold run at hQ
    cases z : isDg (b p) with
    | false =>
      rw [z, if_neg (by decide)] at hQ
      exact ok_pos rfl (hQ σ hT Fr.refl h4 h5)
    | true =>
      rw [z, if_pos rfl] at hQ
      have e1 : σ.1 1 p = nI (b p) := by rw [hT.2.2 p (by omega)]; exact sg_num_fin ⟨b p, hb.2 p (by omega)⟩ z
      have h48 : 48 ≤ b p := by
        unfold isDg at z
        rw [Bool.and_eq_true, decide_eq_true_eq] at z
        exact z.1
      refine ok_neg one_ne (ok_pos hT.1.1 (ok_pos (ib_t (by omega) (by omega)) (ok_bv (ok_bv (ok_bv ?_)))))
      rw [ni_succ, ni_cl (by omega), h5, e1, show (10 : Int32) = nI 10 from rfl, show (48 : Int32) = nI 48 from rfl, ni_mul, ni_add, ni_sub (by omega), show v * 10 + b p - 48 = 10 * v + (b p - 48) by omega]
      refine readNumber10_ok hb r (p + 1) n _ (10 * v + (b p - 48)) (by omega) (by omega) ((hT.set (by decide) (by decide)).set (by decide) (by decide)) (sI_e _ _ _ _) (by rw [sI_k (by decide), sI_e]) (fun σ' q1 q2 q3 q4 => hQ σ' q1 ((frIk (frIk Fr.refl (by simp)) (by simp)).trans q2) ?_ ?_)
      · rw [q3]
        congr 1
        omega
      · exact q4
theorem next13_ok {b : Nat → Nat} {k : Nat} {Q : Mem → Prop} (hb : TB b k) : ∀ (r p n : Nat) (σ : Mem), p + r = k → r < n → TC b k σ → σ.1 3 3 = nI k → (∀ σ', TC b k σ' → Fr [] [(3, 3)] σ σ' → σ'.1 3 3 = nI (p + run isBl b r p) → Ok (X9_next_57 σ') Q) → Ok (X9_next_13 n (nI p) σ) Q
  | 0, p, n, σ, h1, h2, hT, h3, hQ => by
    obtain ⟨n, rfl⟩ : ∃ q, n = q + 1 := ⟨n - 1, by omega⟩
    have := hb.1
    rw [X9_next_13, hT.2.1]
    have hk : p = k := by omega
    subst hk
    exact ok_pos (Int32.le_refl _) (hQ σ hT Fr.refl h3)
  | r + 1, p, n, σ, h1, h2, hT, h3, hQ => by
    obtain ⟨n, rfl⟩ : ∃ q, n = q + 1 := ⟨n - 1, by omega⟩
    have := hb.1
    have bp := ib_t (n := p) (k := 1600) (by omega) (by omega)
    have hs := sg_32_fin ⟨b p, hb.2 p (by omega)⟩
    rw [X9_next_13, hT.2.1]
    refine ok_neg (by rw [ni_le (by omega) (by omega)]; omega) (ok_pos hT.1.1 (ok_pos bp ?_))
    rw [ni_cl (by omega), hT.2.2 p (by omega)]
    unfold run at hQ
    have go : isBl (b p) = true → Ok (X9_next_51 (X9_next_13 n) (nI p) σ) Q := fun z => by
      rw [z, if_pos rfl] at hQ
      unfold X9_next_51
      refine ok_bv ?_
      rw [ni_succ]
      refine next13_ok hb r (p + 1) n σ (by omega) (by omega) hT h3 (fun σ' q1 q2 q3 => hQ σ' q1 q2 ?_)
      rw [q3]
      congr 1
      omega
    refine ok_ite (fun z => go ?_) (fun z => ok_pos hT.1.1 (ok_pos bp (ok_ite (fun y => go ?_) (fun y => ok_bv ?_))))
    · unfold isBl
      rw [decide_eq_true (hs.1.mp z), Bool.true_or]
    · unfold isBl
      rw [decide_eq_true (hs.2.mp y), Bool.or_true]
    · have hn : isBl (b p) = false := by
        unfold isBl
        rw [decide_eq_false (fun e => z (hs.1.mpr e)), decide_eq_false (fun e => y (hs.2.mpr e))]
        rfl
      rw [hn, if_neg (by decide)] at hQ
      exact hQ _ (hT.set (by decide) (by decide)) (frIk Fr.refl (.inl (.head _))) (sI_e _ _ _ _)
