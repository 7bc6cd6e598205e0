/-! town: the class reads a word, a number -/
def kindC (b : Nat → Nat) (x : Tk) : Int32 := if x.1 = 3 then ownK (lets b (x.2.2 - x.2.1) x.2.1) else nI x.1
def CTok (b : Nat → Nat) (k : Nat) (x : Tk) (σ : Mem) : Prop := TC b k σ ∧ σ.1 3 3 = nI x.2.1 ∧ σ.1 3 4 = nI x.2.2 ∧ σ.1 3 2 = kindC b x ∧ (x.1 = 2 → σ.1 3 5 = nI (numV b (x.2.2 - x.2.1) x.2.1 0))
theorem lets_len (b : Nat → Nat) : ∀ n p, (lets b n p).length = n
  | 0, _ => rfl
  | n + 1, p => by
    unfold lets
    rw [List.length_cons, lets_len b n]
theorem lets_get (b : Nat → Nat) : ∀ n p m, m < n → (lets b n p).getD m 0 = b (p + m)
  | 0, _, _, h => by omega
  | n + 1, p, 0, _ => rfl
  | n + 1, p, m + 1, h => by
    unfold lets
    rw [List.getD_cons_succ, lets_get b n (p + 1) m (by omega)]
    congr 1
    omega
theorem run_all (f : Nat → Bool) (b : Nat → Nat) : ∀ r p m, m < run f b r p → f (b (p + m)) = true
  | 0, _, _, h => by simp [run] at h
  | r + 1, p, m, h => by
    unfold run at h
    split at h
    · rename_i z
      cases m with
      | zero => exact z
      | succ m =>
        rw [show p + (m + 1) = p + 1 + m by omega]
        exact run_all f b r (p + 1) m (by omega)
    · omega
theorem wordC_ok {b : Nat → Nat} {k q : Nat} {σ : Mem} (hb : TB b k) (hT : TC b k σ) (hq : q < k) (h3 : σ.1 3 3 = nI q) (h4 : σ.1 3 4 = nI q) : Ok ((X9_readLetters σ).bind fun τ => if ((τ.1 3 4) - (τ.1 3 3)) ≤ 8 then (X9_kindOfWord τ).bind fun r => X9_next_122 r.1 r.2 else X9_next_122 1 τ) (fun σ' => CTok b k (if run isL b (k - q) q ≤ 8 then 3 else 1, q, q + run isL b (k - q) q) σ') := by
  have h1600 := hb.1
  have hrl := run_le isL b (k - q) q
  have hall := run_all isL b (k - q) q
  have hl : Ok (X9_readLetters σ) (fun σ' => TC b k σ' ∧ Fr [] [(3, 4)] σ σ' ∧ σ'.1 3 4 = nI (q + run isL b (k - q) q)) := by
    unfold X9_readLetters
    refine ok_bv ?_
    rw [h3]
    exact readLetters5_ok hb (k - q) q fu σ (by omega) (by unfold fu; omega) hT h4 (fun σ' q1 q2 q3 => ⟨q1, q2, q3⟩)
  refine ok_bind hl (fun σ' hq' => ?_)
  obtain ⟨q1, q2, q3⟩ := hq'
  have e3 : σ'.1 3 3 = nI q := (q2.1 3 3 (by simp) (by simp)).trans h3
  generalize run isL b (k - q) q = n at *
  rw [e3, q3, ni_sub (by omega), show q + n - q = n by omega]
  refine ok_ite (fun z => ?_) (fun z => ?_)
  · rw [show (8 : Int32) = nI 8 from rfl, ni_le (by omega) (by omega)] at z
    have hon : onT b k q (lets b n q) σ' := ⟨q1, by rw [lets_len]; exact z, by rw [lets_len]; omega, e3, by rw [lets_len]; exact q3, fun m hm => by
      rw [lets_len] at hm
      exact ⟨(lets_get b n q m hm).symm, hall m hm⟩⟩
    refine ok_bind (kind_ok hb hon) ?_
    rintro _ rfl
    unfold X9_next_122
    refine ok_bv (ok_some ⟨q1.set (by decide) (by decide), by rw [sI_k (by decide)]; exact e3, by rw [sI_k (by decide)]; exact q3, ?_, fun w => ?_⟩)
    · rw [sI_e]
      unfold kindC
      simp only [if_pos z]
      rw [if_pos trivial, show q + n - q = n by omega]
    · simp only [if_pos z] at w
      omega
  · rw [show (8 : Int32) = nI 8 from rfl, ni_le (by omega) (by omega)] at z
    unfold X9_next_122
    refine ok_bv (ok_some ⟨q1.set (by decide) (by decide), by rw [sI_k (by decide)]; exact e3, by rw [sI_k (by decide)]; exact q3, ?_, fun w => ?_⟩)
    · rw [sI_e]
      unfold kindC
      simp only [if_neg z]
      rw [if_neg (by decide)]
      rfl
    · simp only [if_neg z] at w
      omega
theorem numC_ok {b : Nat → Nat} {k q : Nat} {σ : Mem} (hb : TB b k) (hT : TC b k σ) (hq : q < k) (h3 : σ.1 3 3 = nI q) (h4 : σ.1 3 4 = nI q) : Ok (X9_readNumber σ) (fun σ' => CTok b k (if 4 < run isDg b (k - q) q ∨ (q + run isDg b (k - q) q < k ∧ isL (b (q + run isDg b (k - q) q)) = true) then 1 else 2, q, q + run isDg b (k - q) q) σ') := by
  have h1600 := hb.1
  have hrl := run_le isDg b (k - q) q
  unfold X9_readNumber
  refine ok_bv (ok_bv ?_)
  rw [sI_k (by decide), h3]
  refine readNumber10_ok hb (k - q) q fu _ 0 (by omega) (by unfold fu; omega) (hT.set (by decide) (by decide)) (by rw [sI_k (by decide)]; exact h4) (sI_e _ _ _ _) (fun σ' q1 q2 q3 q4 => ?_)
  have e3 : σ'.1 3 3 = nI q := by
    rw [q2.1 3 3 (by simp) (by simp), sI_k (by decide)]
    exact h3
  generalize run isDg b (k - q) q = n at *
  have go1 : (4 < n ∨ (q + n < k ∧ isL (b (q + n)) = true)) → Ok (X9_readNumber_99 (X9_readNumber_100) σ') (fun σ' => CTok b k (if 4 < n ∨ (q + n < k ∧ isL (b (q + n)) = true) then 1 else 2, q, q + n) σ') := fun z => by
    unfold X9_readNumber_99 X9_readNumber_100 X9_readNumber_111
    refine ok_pos rfl (ok_bv (ok_some ⟨q1.set (by decide) (by decide), by rw [sI_k (by decide)]; exact e3, by rw [sI_k (by decide)]; exact q3, ?_, fun w => ?_⟩))
    · rw [sI_e]
      unfold kindC
      simp only [if_pos z]
      rw [if_neg (by decide)]
      rfl
    · simp only [if_pos z] at w
      omega
  have go2 : ¬ (4 < n ∨ (q + n < k ∧ isL (b (q + n)) = true)) → Ok (X9_readNumber_95 (X9_readNumber_100) σ') (fun σ' => CTok b k (if 4 < n ∨ (q + n < k ∧ isL (b (q + n)) = true) then 1 else 2, q, q + n) σ') := fun z => by
    unfold X9_readNumber_95 X9_readNumber_100 X9_readNumber_111
    refine ok_neg one_ne (ok_bv (ok_some ⟨q1.set (by decide) (by decide), by rw [sI_k (by decide)]; exact e3, by rw [sI_k (by decide)]; exact q3, ?_, fun w => ?_⟩))
    · rw [sI_e]
      unfold kindC
      simp only [if_neg z]
      rw [if_neg (by decide)]
      rfl
    · rw [sI_k (by decide), q4]
      show _ = nI (numV b (q + n - q) q 0)
      rw [show q + n - q = n by omega]
  unfold X9_readNumber_60
  rw [e3, q3, q1.2.1, ni_sub (by omega), show q + n - q = n by omega]
  refine ok_ite (fun z => ?_) (fun z => ok_ite (fun y => ?_) (fun y => ?_))
  · rw [show (4 : Int32) = nI 4 from rfl, ni_lt (by omega) (by omega)] at z
    exact go1 (.inl z)
  · rw [show (4 : Int32) = nI 4 from rfl, ni_lt (by omega) (by omega)] at z
    rw [ni_le (by omega) (by omega)] at y
    exact go2 (by omega)
  · rw [show (4 : Int32) = nI 4 from rfl, ni_lt (by omega) (by omega)] at z
    rw [ni_le (by omega) (by omega)] at y
    refine ok_bindE (isLetterC_ok hb q1 (by omega)) ?_
    cases w : isL (b (q + n)) with
    | false =>
      rw [w] at go2
      exact ok_pos rfl (go2 (fun e => e.elim z (fun e => by cases e.2)))
    | true =>
      rw [w] at go1
      exact ok_neg one_ne (go1 (.inr ⟨by omega, rfl⟩))
