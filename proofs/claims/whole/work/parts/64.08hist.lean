/-! history: rows of states, kept and brought back -/
theorem cpok_t {a b c n0 n1 : Nat} (ha : a < 1000000) (hb : b < 1000000) (hc : c < 1000000) (h1 : a + c ≤ n0) (h2 : b + c ≤ n1) : cpok (nI a) (nI b) (nI c) n0 n1 = true := by
  unfold cpok
  rw [ni_cl (by omega), ni_cl (by omega), ni_cl (by omega), decide_eq_true (ni_nn (by omega)), decide_eq_true (ni_nn (by omega)), decide_eq_true (ni_nn (by omega)), decide_eq_true h1, decide_eq_true h2]
  rfl
/-- a state of the class as one row -/
def stRow (σ : Mem) (u k : Nat) : Int32 := if k < 6 then σ.1 (u + 1) k else if k < 12 then σ.1 (u + 2) (k - 6) else if k < 18 then σ.1 (u + 3) (k - 12) else if k < 24 then σ.1 (u + 4) (k - 18) else if k < 60 then σ.1 (u + 5) (k - 24) else if k = 60 then σ.1 u 5 else if k = 61 then σ.1 u 6 else σ.1 u 7
theorem stRow_R {T : Tn} {s : St} {σ : Mem} {u : Nat} (hn : tN T ≤ 6) (h : CS T s σ u) : rowR (tN T) s (stRow σ u) := by
  refine ⟨fun p hp => ?_, fun k hk => ?_, ?_, ?_, ?_⟩
  · have := h.1 p hp
    unfold stRow
    rw [if_pos (by omega), if_neg (by omega), if_pos (by omega), if_neg (by omega), if_neg (by omega), if_pos (by omega), if_neg (by omega), if_neg (by omega), if_neg (by omega), if_pos (by omega)]
    rw [show 6 + p - 6 = p by omega, show 12 + p - 12 = p by omega, show 18 + p - 18 = p by omega]
    exact this
  · unfold stRow
    rw [if_neg (by omega), if_neg (by omega), if_neg (by omega), if_neg (by omega), if_pos (by omega), show 24 + k - 24 = k by omega]
    exact h.2.1 k hk
  · exact h.2.2.1
  · exact h.2.2.2.1
  · exact h.2.2.2.2
theorem rowR.congr {n : Nat} {s : St} {f g : Nat → Int32} (hn : n ≤ 6) (h : rowR n s f) (e : ∀ k, k < 63 → g k = f k) : rowR n s g := by
  refine ⟨fun p hp => ?_, fun k hk => ?_, ?_, ?_, ?_⟩
  · rw [e p (by omega), e (6 + p) (by omega), e (12 + p) (by omega), e (18 + p) (by omega)]
    exact h.1 p hp
  · rw [e _ (by omega)]
    exact h.2.1 k hk
  · rw [e 60 (by omega)]
    exact h.2.2.1
  · rw [e 61 (by omega)]
    exact h.2.2.2.1
  · rw [e 62 (by omega)]
    exact h.2.2.2.2
theorem store_ok {o a al m : Nat} {σ : Mem} (ha : a < o ∨ o + 5 < a) (hal : al < 10000) (hm : m + 63 ≤ al) : Ok (X7_store o a al (nI m) σ) (fun σ' => ∀ j, σ'.1 a j = if m ≤ j ∧ j < m + 63 then stRow σ o (j - m) else σ.1 a j) := by
  have e6 : nI m + 6 = nI (m + 6) := ni_add m 6
  have e12 : nI m + 12 = nI (m + 12) := ni_add m 12
  have e18 : nI m + 18 = nI (m + 18) := ni_add m 18
  have e24 : nI m + 24 = nI (m + 24) := ni_add m 24
  have e63 : nI m + 63 = nI (m + 63) := ni_add m 63
  have e60 : nI (m + 63) - 3 = nI (m + 60) := ni_sub (b := 3) (by omega)
  have e61 : nI (m + 63) - 2 = nI (m + 61) := ni_sub (b := 2) (by omega)
  have e62 : nI (m + 63) - 1 = nI (m + 62) := ni_sub (b := 1) (by omega)
  unfold X7_store
  rw [e6, e12, e18, e24, e63, e60, e61, e62]
  refine ok_pos (cpok_t (a := 0) (c := 6) (by omega) (by omega) (by omega) (by omega) (by omega)) (ok_bv ?_)
  refine ok_pos (cpok_t (a := 0) (c := 6) (by omega) (by omega) (by omega) (by omega) (by omega)) (ok_bv ?_)
  refine ok_pos (cpok_t (a := 0) (c := 6) (by omega) (by omega) (by omega) (by omega) (by omega)) (ok_bv ?_)
  refine ok_pos (cpok_t (a := 0) (c := 6) (by omega) (by omega) (by omega) (by omega) (by omega)) (ok_bv ?_)
  refine ok_pos (cpok_t (a := 0) (c := 36) (by omega) (by omega) (by omega) (by omega) (by omega)) (ok_bv ?_)
  refine ok_pos (ib_t (by omega) (by omega)) (ok_bv (ok_pos (ib_t (by omega) (by omega)) (ok_bv (ok_pos (ib_t (by omega) (by omega)) (ok_bv (ok_some (fun j => ?_)))))))
  rw [ni_cl (n := m) (by omega), ni_cl (n := m + 6) (by omega), ni_cl (n := m + 12) (by omega), ni_cl (n := m + 18) (by omega), ni_cl (n := m + 24) (by omega), ni_cl (n := m + 60) (by omega), ni_cl (n := m + 61) (by omega), ni_cl (n := m + 62) (by omega), show (0 : Int32).toNatClampNeg = 0 by decide, show (6 : Int32).toNatClampNeg = 6 by decide, show (36 : Int32).toNatClampNeg = 36 by decide]
  simp only [sI_r, sC_r, if_neg (show ¬ o = a by omega), if_neg (show ¬ o + 1 = a by omega), if_neg (show ¬ o + 2 = a by omega), if_neg (show ¬ o + 3 = a by omega), if_neg (show ¬ o + 4 = a by omega), if_neg (show ¬ o + 5 = a by omega), show ¬ o = a by omega, true_and, false_and, if_true, if_false, Nat.zero_add]
  unfold stRow
  by_cases h0 : m ≤ j ∧ j < m + 63
  · rw [if_pos h0]
    by_cases h62 : j = m + 62
    · rw [if_pos h62, if_neg (by omega), if_neg (by omega), if_neg (by omega), if_neg (by omega), if_neg (by omega), if_neg (by omega), if_neg (by omega)]
    · rw [if_neg h62]
      by_cases h61 : j = m + 61
      · rw [if_pos h61, if_neg (by omega), if_neg (by omega), if_neg (by omega), if_neg (by omega), if_neg (by omega), if_neg (by omega), if_pos (by omega)]
      · rw [if_neg h61]
        by_cases h60 : j = m + 60
        · rw [if_pos h60, if_neg (by omega), if_neg (by omega), if_neg (by omega), if_neg (by omega), if_neg (by omega), if_pos (by omega)]
        · rw [if_neg h60]
          by_cases h24 : m + 24 ≤ j
          · rw [if_pos (by omega), if_neg (by omega), if_neg (by omega), if_neg (by omega), if_neg (by omega), if_pos (by omega), show j - (m + 24) = j - m - 24 by omega]
          · rw [if_neg (by omega)]
            by_cases h18 : m + 18 ≤ j
            · rw [if_pos (by omega), if_neg (by omega), if_neg (by omega), if_neg (by omega), if_pos (by omega), show j - (m + 18) = j - m - 18 by omega]
            · rw [if_neg (by omega)]
              by_cases h12 : m + 12 ≤ j
              · rw [if_pos (by omega), if_neg (by omega), if_neg (by omega), if_pos (by omega), show j - (m + 12) = j - m - 12 by omega]
              · rw [if_neg (by omega)]
                by_cases h6 : m + 6 ≤ j
                · rw [if_pos (by omega), if_neg (by omega), if_pos (by omega), show j - (m + 6) = j - m - 6 by omega]
                · rw [if_neg (by omega), if_pos (by omega), if_pos (by omega)]
  · rw [if_neg h0, if_neg (by omega), if_neg (by omega), if_neg (by omega), if_neg (by omega), if_neg (by omega), if_neg (by omega), if_neg (by omega), if_neg (by omega)]
theorem loadC_ok {T : Tn} {s : St} {o a al m : Nat} {σ : Mem} (hn : tN T ≤ 6) (ha : a < o ∨ o + 5 < a) (hal : al < 10000) (hm : m + 63 ≤ al) (h : rowR (tN T) s (fun k => σ.1 a (m + k))) : Ok (X7_load o a al (nI m) σ) (fun σ' => CS T s σ' o) := by
  have e6 : nI m + 6 = nI (m + 6) := ni_add m 6
  have e12 : nI m + 12 = nI (m + 12) := ni_add m 12
  have e18 : nI m + 18 = nI (m + 18) := ni_add m 18
  have e24 : nI m + 24 = nI (m + 24) := ni_add m 24
  have e63 : nI m + 63 = nI (m + 63) := ni_add m 63
  have e60 : nI (m + 63) - 3 = nI (m + 60) := ni_sub (b := 3) (by omega)
  have e61 : nI (m + 63) - 2 = nI (m + 61) := ni_sub (b := 2) (by omega)
  have e62 : nI (m + 63) - 1 = nI (m + 62) := ni_sub (b := 1) (by omega)
  unfold X7_load
  rw [e6, e12, e18, e24, e63, e60, e61, e62]
  refine ok_pos (cpok_t (b := 0) (c := 6) (by omega) (by omega) (by omega) (by omega) (by omega)) (ok_bv ?_)
  refine ok_pos (cpok_t (b := 0) (c := 6) (by omega) (by omega) (by omega) (by omega) (by omega)) (ok_bv ?_)
  refine ok_pos (cpok_t (b := 0) (c := 6) (by omega) (by omega) (by omega) (by omega) (by omega)) (ok_bv ?_)
  refine ok_pos (cpok_t (b := 0) (c := 6) (by omega) (by omega) (by omega) (by omega) (by omega)) (ok_bv ?_)
  refine ok_pos (cpok_t (b := 0) (c := 36) (by omega) (by omega) (by omega) (by omega) (by omega)) (ok_bv ?_)
  refine ok_pos (ib_t (by omega) (by omega)) (ok_bv (ok_pos (ib_t (by omega) (by omega)) (ok_bv (ok_pos (ib_t (by omega) (by omega)) (ok_bv (ok_some ?_))))))
  rw [ni_cl (n := m) (by omega), ni_cl (n := m + 6) (by omega), ni_cl (n := m + 12) (by omega), ni_cl (n := m + 18) (by omega), ni_cl (n := m + 24) (by omega), ni_cl (n := m + 60) (by omega), ni_cl (n := m + 61) (by omega), ni_cl (n := m + 62) (by omega), show (0 : Int32).toNatClampNeg = 0 by decide, show (6 : Int32).toNatClampNeg = 6 by decide, show (36 : Int32).toNatClampNeg = 36 by decide]
  refine ⟨fun p hp => ⟨?_, ?_, ?_, ?_⟩, fun k hk => ?_, ?_, ?_, ?_⟩
  · rw [sI_n (by omega), sI_n (by omega), sI_n (by omega), sC_n (by omega), sC_n (by omega), sC_n (by omega), sC_n (by omega), sC_o, if_pos (by omega), Nat.sub_zero]
    exact (h.1 p hp).1
  · rw [sI_n (by omega), sI_n (by omega), sI_n (by omega), sC_n (by omega), sC_n (by omega), sC_n (by omega), sC_o, if_pos (by omega), Nat.sub_zero, sC_n (by omega), Nat.add_assoc]
    exact (h.1 p hp).2.1
  · rw [sI_n (by omega), sI_n (by omega), sI_n (by omega), sC_n (by omega), sC_n (by omega), sC_o, if_pos (by omega), Nat.sub_zero, sC_n (by omega), sC_n (by omega), Nat.add_assoc]
    exact (h.1 p hp).2.2.1
  · rw [sI_n (by omega), sI_n (by omega), sI_n (by omega), sC_n (by omega), sC_o, if_pos (by omega), Nat.sub_zero, sC_n (by omega), sC_n (by omega), sC_n (by omega), Nat.add_assoc]
    exact (h.1 p hp).2.2.2
  · rw [sI_n (by omega), sI_n (by omega), sI_n (by omega), sC_o, if_pos (by omega), Nat.sub_zero, sC_n (by omega), sC_n (by omega), sC_n (by omega), sC_n (by omega), Nat.add_assoc]
    exact h.2.1 k hk
  · rw [sI_k (by decide), sI_k (by decide), sI_e, sC_n (by omega), sC_n (by omega), sC_n (by omega), sC_n (by omega), sC_n (by omega)]
    exact h.2.2.1
  · rw [sI_k (by decide), sI_e, sI_n (by omega), sC_n (by omega), sC_n (by omega), sC_n (by omega), sC_n (by omega), sC_n (by omega)]
    exact h.2.2.2.1
  · rw [sI_e, sI_n (by omega), sI_n (by omega), sC_n (by omega), sC_n (by omega), sC_n (by omega), sC_n (by omega), sC_n (by omega)]
    exact h.2.2.2.2
/-- the reference's act: rows shifted where it is full, then now laid down -/
theorem act51_ok {ρ : Mem} {c : Nat} (hc : c < 40) (h : ρ.1 1000 69 = nI c) : Ok (X12_act_49 ρ) (fun ρ' => ρ'.1 1000 69 = nI (c + 1) ∧ ρ'.1 1000 70 = 0 ∧ ∀ j, ρ'.1 1039 j = if 64 * c ≤ j ∧ j < 64 * c + 63 then ρ.1 1028 (j - 64 * c) else ρ.1 1039 j) := by
  unfold X12_act_49
  refine ok_bv ?_
  refine ok_loop0 (F := fun n i ρ => X12_act_51 n i ρ) (N := 63) (I := fun i ρ' => Fr [1039] [] ρ ρ' ∧ ∀ j, ρ'.1 1039 j = if 64 * c ≤ j ∧ j < 64 * c + i then ρ.1 1028 (j - 64 * c) else ρ.1 1039 j) 0 ρ (by omega) (by omega) ⟨Fr.refl, fun j => by rw [if_neg (by omega)]⟩ ?_ ?_
  · rintro n i ρ' hi ⟨hf, hI⟩ hk
    have o := hf.off (A := [1028]) (B := [(1000, 69)]) (by decide)
    show Ok (X12_act_51 (n + 1) (nI i) ρ') _
    rw [X12_act_51]
    refine ok_neg (by rw [show (63 : Int32) = nI 63 from rfl, ni_le (by omega) (by omega)]; omega) (ok_pos (ib_t (by omega) (by omega)) ?_)
    rw [o.2 1000 69 (by decide), h, show (64 : Int32) = nI 64 from rfl, ni_mul, ni_add]
    refine ok_pos (ib_t (by omega) (by omega)) (ok_bv (ok_bv ?_))
    rw [ni_cl (by omega), ni_cl (by omega), ni_succ, o.1 1028 (by decide)]
    refine hk _ ⟨frI hf (.head _), fun j => ?_⟩
    rw [sI_o]
    by_cases z : j = 64 * c + i
    · rw [if_pos z, if_pos (by omega), show j - 64 * c = i by omega]
    · rw [if_neg z, hI j]
      by_cases y : 64 * c ≤ j ∧ j < 64 * c + i
      · rw [if_pos y, if_pos (by omega)]
      · rw [if_neg y, if_neg (by omega)]
  · rintro n ρ' ⟨hf, hI⟩
    have o := hf.off (A := []) (B := [(1000, 69)]) (by decide)
    show Ok (X12_act_51 (n + 1) (nI 63) ρ') _
    rw [X12_act_51]
    refine ok_pos (Int32.le_refl _) (ok_bv (ok_bv (ok_some ⟨?_, sI_e _ _ _ _, fun j => ?_⟩)))
    · rw [sI_k (by decide), sI_e, o.2 1000 69 (by decide), h, ni_succ]
    · rw [sI_n (by decide), sI_n (by decide)]
      exact hI j
theorem act_ok {ρ : Mem} {c : Nat} (hc : c ≤ 40) (h : ρ.1 1000 69 = nI c) : Ok (X12_act ρ) (fun ρ' => ρ'.1 1000 69 = nI (if c = 40 then 40 else c + 1) ∧ ρ'.1 1000 70 = 0 ∧ ∀ i k, k < 63 → ρ'.1 1039 (64 * i + k) = if i = (if c = 40 then 39 else c) then ρ.1 1028 k else if c = 40 ∧ i < 39 then ρ.1 1039 (64 * (i + 1) + k) else ρ.1 1039 (64 * i + k)) := by
  unfold X12_act
  rw [h]
  by_cases z : c = 40
  · subst z
    refine ok_pos rfl (ok_bv ?_)
    refine ok_loop0 (F := fun n i ρ => X12_act_11 X12_act_49 n i ρ) (N := 2496) (I := fun i ρ' => Fr [1039] [] ρ ρ' ∧ ∀ j, ρ'.1 1039 j = if j < i then ρ.1 1039 (64 + j) else ρ.1 1039 j) 0 ρ (by omega) (by omega) ⟨Fr.refl, fun j => by rw [if_neg (by omega)]⟩ ?_ ?_
    · rintro n i ρ' hi ⟨hf, hI⟩ hk
      show Ok (X12_act_11 X12_act_49 (n + 1) (nI i) ρ') _
      rw [X12_act_11, show (64 : Int32) + nI i = nI (64 + i) from ni_add 64 i]
      refine ok_neg (by rw [show (2496 : Int32) = nI 2496 from rfl, ni_le (by omega) (by omega)]; omega) (ok_pos (ib_t (by omega) (by omega)) (ok_pos (ib_t (by omega) (by omega)) (ok_bv (ok_bv ?_))))
      rw [ni_cl (by omega), ni_cl (by omega), ni_succ, hI (64 + i), if_neg (by omega)]
      refine hk _ ⟨frI hf (.head _), fun j => ?_⟩
      rw [sI_o]
      by_cases z : j = i
      · rw [if_pos z, if_pos (by omega), z]
      · rw [if_neg z, hI j]
        by_cases y : j < i
        · rw [if_pos y, if_pos (by omega)]
        · rw [if_neg y, if_neg (by omega)]
    · rintro n ρ' ⟨hf, hI⟩
      have o := hf.off (A := [1028]) (B := [(1000, 69)]) (by decide)
      show Ok (X12_act_11 X12_act_49 (n + 1) (nI 2496) ρ') _
      rw [X12_act_11]
      refine ok_pos (Int32.le_refl _) (ok_bv ?_)
      rw [o.2 1000 69 (by decide), h, show nI 40 - 1 = nI 39 by decide]
      refine ok_mono (act51_ok (c := 39) (by omega) (sI_e _ _ _ _)) ?_
      rintro ρ2 ⟨a1, a2, a3⟩
      refine ⟨a1, a2, fun i k hk => ?_⟩
      rw [a3, sI_n (by decide), sI_n (by decide), o.1 1028 (by decide), hI]
      rw [if_pos rfl]
      by_cases y : i = 39
      · rw [if_pos y, if_pos (by omega), show 64 * i + k - 64 * 39 = k by omega]
      · rw [if_neg y, if_neg (by omega)]
        by_cases x : i < 39
        · rw [if_pos (by omega), if_pos ⟨rfl, x⟩, show 64 + (64 * i + k) = 64 * (i + 1) + k by omega]
        · rw [if_neg (by omega), if_neg (by omega)]
  · refine ok_neg (by rw [show (40 : Int32) = nI 40 from rfl, ni_inj (by omega) (by omega)]; exact z) ?_
    refine ok_mono (act51_ok (c := c) (by omega) h) ?_
    rintro ρ2 ⟨a1, a2, a3⟩
    refine ⟨by rw [if_neg z]; exact a1, a2, fun i k hk => ?_⟩
    rw [a3, if_neg z]
    by_cases y : i = c
    · rw [if_pos y, if_pos (by omega), show 64 * i + k - 64 * c = k by omega]
    · rw [if_neg y, if_neg (by omega), if_neg (fun g => z g.1)]
theorem add_ok {σ : Mem} {c : Nat} (hc : c ≤ 40) (h : σ.1 37 1 = nI c) : Ok (X3_add 31 σ) (fun σ' => σ'.1 37 1 = nI (if c = 40 then 40 else c + 1) ∧ σ'.1 37 2 = nI (if c = 40 then 40 else c + 1) ∧ ∀ i k, k < 63 → σ'.1 38 (63 * i + k) = if i = (if c = 40 then 40 else c + 1) then stRow σ 31 k else if c = 40 ∧ i < 40 then σ.1 38 (63 * (i + 1) + k) else σ.1 38 (63 * i + k)) := by
  have h39 : ∀ (σ1 : Mem) (m : Nat), m ≤ 40 → σ1.1 37 1 = nI m → (∀ a, 31 ≤ a → a ≤ 36 → σ1.1 a = σ.1 a) → Ok (X3_add_39 31 σ1) (fun σ' => σ'.1 37 1 = nI m ∧ σ'.1 37 2 = nI m ∧ ∀ j, σ'.1 38 j = if 63 * m ≤ j ∧ j < 63 * m + 63 then stRow σ 31 (j - 63 * m) else σ1.1 38 j) := by
    intro σ1 m hm e1 es
    unfold X3_add_39
    refine ok_bv ?_
    rw [sI_k (by decide), e1, show nI m * 63 = nI (63 * m) by rw [show (63 : Int32) = nI 63 from rfl, ni_mul, Nat.mul_comm]]
    refine ok_bind (ok_fr (store_ok (o := 31) (a := 38) (al := 2583) (m := 63 * m) (by omega) (by omega) (by omega)) (fr_X7_store _ _ _ _ _ Fr.refl)) ?_
    rintro σ2 ⟨a1, f2⟩
    have f2 : Fr [38] [] (sI σ1 37 2 (nI m)) σ2 := f2
    have e37 := f2.ne (a := 37) (by decide)
    refine ok_some ⟨?_, ?_, fun j => ?_⟩
    · rw [e37, sI_k (by decide)]
      exact e1
    · rw [e37, sI_e]
    · rw [a1 j, sI_n (by decide)]
      have : stRow (sI σ1 37 2 (nI m)) 31 (j - 63 * m) = stRow σ 31 (j - 63 * m) := by
        unfold stRow
        simp only [sI_n (show (31 + 1 : Nat) ≠ 37 by decide), sI_n (show (31 + 2 : Nat) ≠ 37 by decide), sI_n (show (31 + 3 : Nat) ≠ 37 by decide), sI_n (show (31 + 4 : Nat) ≠ 37 by decide), sI_n (show (31 + 5 : Nat) ≠ 37 by decide), sI_n (show (31 : Nat) ≠ 37 by decide)]
        rw [es 31 (by omega) (by omega), es (31 + 1) (by omega) (by omega), es (31 + 2) (by omega) (by omega), es (31 + 3) (by omega) (by omega), es (31 + 4) (by omega) (by omega), es (31 + 5) (by omega) (by omega)]
      rw [this]
  unfold X3_add
  rw [h]
  by_cases z : c = 40
  · subst z
    refine ok_pos rfl (ok_pos (by decide) (ok_bv ?_))
    rw [show (0 : Int32).toNatClampNeg = 0 by decide, show (63 : Int32).toNatClampNeg = 63 by decide, show (2520 : Int32).toNatClampNeg = 2520 by decide]
    refine ok_mono (h39 _ 40 (by omega) ?_ ?_) ?_
    · rw [sC_n (by decide)]
      exact h
    · intro a g1 g2
      funext b
      rw [sC_n (by omega)]
    · rintro σ2 ⟨a1, a2, a3⟩
      refine ⟨a1, a2, fun i k hk => ?_⟩
      rw [a3, if_pos rfl, sC_o]
      by_cases y : i = 40
      · rw [if_pos y, if_pos (by omega), show 63 * i + k - 63 * 40 = k by omega]
      · rw [if_neg y, if_neg (by omega)]
        by_cases x : i < 40
        · rw [if_pos (by omega), if_pos ⟨rfl, x⟩, show 63 + (63 * i + k - 0) = 63 * (i + 1) + k by omega]
        · rw [if_neg (by omega), if_neg (by omega)]
  · refine ok_neg (by rw [show (40 : Int32) = nI 40 from rfl, ni_inj (by omega) (by omega)]; exact z) (ok_bv ?_)
    rw [ni_succ]
    refine ok_mono (h39 _ (c + 1) (by omega) (sI_e _ _ _ _) ?_) ?_
    · intro a g1 g2
      funext b
      rw [sI_n (by omega)]
    · rintro σ2 ⟨a1, a2, a3⟩
      rw [if_neg z]
      refine ⟨a1, a2, fun i k hk => ?_⟩
      rw [a3, sI_n (by decide)]
      by_cases y : i = c + 1
      · rw [if_pos y, if_pos (by omega), show 63 * i + k - 63 * (c + 1) = k by omega]
      · rw [if_neg y, if_neg (by omega), if_neg (fun g => z g.1)]
/-- an act: the class adds the new state, the reference lays down the old one -/
theorem hist_add {T : Tn} {s s' : St} {σ ρ : Mem} (hn : tN T ≤ 6) (h : I_hist T s σ ρ) (hs : okN T s') (hc : CS T s' σ 31) (hr : rowR (tN T) s (ρ.1 1028)) : ∃ σ' ρ', X3_add 31 σ = some σ' ∧ X12_act ρ = some ρ' ∧ I_hist T s' σ' ρ' := by
  obtain ⟨H, dn, kp, h1, h2, h3, h4, h5, h6, h7, h8, h9, h10⟩ := h
  obtain ⟨σ', e1, a1, a2, a3⟩ := add_ok (c := dn) (by omega) h4
  obtain ⟨ρ', e2, b1, b2, b3⟩ := act_ok (c := dn) (by omega) h6
  refine ⟨σ', ρ', e1, e2, ?_⟩
  have hst := stRow_R hn hc
  by_cases z : dn = 40
  · subst z
    rw [if_pos rfl] at a1 a2 b1
    refine ⟨fun i => if i = 40 then s' else H (i + 1), 40, 40, by omega, by omega, if_pos rfl, a1, a2, b1, b2, fun i hi => ?_, fun i hi => ?_, fun i h1 h2 => by omega⟩
    · show okN T (if i = 40 then s' else H (i + 1)) ∧ rowR _ (if i = 40 then s' else H (i + 1)) _
      by_cases y : i = 40
      · rw [if_pos y]
        refine ⟨hs, hst.congr hn (fun k hk => ?_)⟩
        show σ'.1 38 (63 * i + k) = _
        rw [a3 i k hk, if_pos rfl, if_pos y]
      · rw [if_neg y]
        refine ⟨(h8 (i + 1) (by omega)).1, (h8 (i + 1) (by omega)).2.congr hn (fun k hk => ?_)⟩
        show σ'.1 38 (63 * i + k) = _
        rw [a3 i k hk, if_pos rfl, if_neg y, if_pos ⟨rfl, by omega⟩]
    · show rowR _ (if i = 40 then s' else H (i + 1)) _
      rw [if_neg (by omega)]
      by_cases y : i = 39
      · subst y
        rw [h3]
        refine hr.congr hn (fun k hk => ?_)
        show ρ'.1 1039 (64 * 39 + k) = _
        rw [b3 39 k hk, if_pos rfl, if_pos rfl]
      · refine (h9 (i + 1) (by omega)).congr hn (fun k hk => ?_)
        show ρ'.1 1039 (64 * i + k) = _
        rw [b3 i k hk, if_pos rfl, if_neg y, if_pos ⟨rfl, by omega⟩]
  · rw [if_neg z] at a1 a2 b1
    refine ⟨fun i => if i = dn + 1 then s' else H i, dn + 1, dn + 1, by omega, by omega, if_pos rfl, a1, a2, b1, by rw [b2, Nat.sub_self]; rfl, fun i hi => ?_, fun i hi => ?_, fun i h1 h2 => by omega⟩
    · show okN T (if i = dn + 1 then s' else H i) ∧ rowR _ (if i = dn + 1 then s' else H i) _
      by_cases y : i = dn + 1
      · rw [if_pos y]
        refine ⟨hs, hst.congr hn (fun k hk => ?_)⟩
        show σ'.1 38 (63 * i + k) = _
        rw [a3 i k hk, if_neg z, if_pos y]
      · rw [if_neg y]
        refine ⟨(h8 i (by omega)).1, (h8 i (by omega)).2.congr hn (fun k hk => ?_)⟩
        show σ'.1 38 (63 * i + k) = _
        rw [a3 i k hk, if_neg z, if_neg y, if_neg (fun g => z g.1)]
    · show rowR _ (if i = dn + 1 then s' else H i) _
      rw [if_neg (by omega)]
      by_cases y : i = dn
      · rw [y, h3]
        refine hr.congr hn (fun k hk => ?_)
        show ρ'.1 1039 (64 * dn + k) = _
        rw [b3 dn k hk, if_neg z, if_pos rfl]
      · refine (h9 i (by omega)).congr hn (fun k hk => ?_)
        show ρ'.1 1039 (64 * i + k) = _
        rw [b3 i k hk, if_neg z, if_neg y, if_neg (fun g => z g.1)]
theorem exch_ok {ρ : Mem} {c : Nat} (hc : c < 40) : Ok (X12_exchange (nI (64 * c)) ρ) (fun ρ' => (∀ k, k < 63 → ρ'.1 1028 k = ρ.1 1039 (64 * c + k)) ∧ ∀ j, ρ'.1 1039 j = if 64 * c ≤ j ∧ j < 64 * c + 63 then ρ.1 1028 (j - 64 * c) else ρ.1 1039 j) := by
  unfold X12_exchange
  refine ok_bv ?_
  refine ok_loop0 (F := fun n i ρ => X12_exchange_2 n (nI (64 * c)) i ρ) (N := 63) (I := fun i ρ' => (∀ k, ρ'.1 1028 k = if k < i then ρ.1 1039 (64 * c + k) else ρ.1 1028 k) ∧ ∀ j, ρ'.1 1039 j = if 64 * c ≤ j ∧ j < 64 * c + i then ρ.1 1028 (j - 64 * c) else ρ.1 1039 j) 0 ρ (by omega) (by omega) ⟨fun k => by rw [if_neg (by omega)], fun j => by rw [if_neg (by omega)]⟩ ?_ ?_
  · rintro n i ρ' hi ⟨hI, hJ⟩ hk
    show Ok (X12_exchange_2 (n + 1) (nI (64 * c)) (nI i) ρ') _
    rw [X12_exchange_2, ni_add]
    refine ok_neg (by rw [show (63 : Int32) = nI 63 from rfl, ni_le (by omega) (by omega)]; omega) (ok_pos (ib_t (by omega) (by omega)) (ok_bv (ok_pos (ib_t (by omega) (by omega)) (ok_pos (ib_t (by omega) (by omega)) (ok_bv (ok_pos (ib_t (by omega) (by omega)) (ok_bv (ok_bv ?_))))))))
    rw [ni_cl (by omega), ni_cl (by omega), ni_succ, hI i, if_neg (by omega), hJ (64 * c + i), if_neg (by omega)]
    refine hk _ ⟨fun k => ?_, fun j => ?_⟩
    · rw [sI_o, sI_n (by decide), hI k]
      by_cases z : k = i
      · rw [if_pos z, if_pos (by omega), z]
      · rw [if_neg z]
        by_cases y : k < i
        · rw [if_pos y, if_pos (by omega)]
        · rw [if_neg y, if_neg (by omega)]
    · rw [sI_n (by decide), sI_o, hJ j]
      by_cases z : j = 64 * c + i
      · rw [if_pos z, if_pos (by omega), show j - 64 * c = i by omega]
      · rw [if_neg z]
        by_cases y : 64 * c ≤ j ∧ j < 64 * c + i
        · rw [if_pos y, if_pos (by omega)]
        · rw [if_neg y, if_neg (by omega)]
  · rintro n ρ' ⟨hI, hJ⟩
    show Ok (X12_exchange_2 (n + 1) (nI (64 * c)) (nI 63) ρ') _
    rw [X12_exchange_2]
    exact ok_pos (Int32.le_refl _) (ok_some ⟨fun k hk => by rw [hI k, if_pos hk], hJ⟩)
