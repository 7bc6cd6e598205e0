/-! calls that only look: fault, person, owed, sum, wet, lies, about -/
def Eq2 (a b : Option (Int32 × Mem)) : Prop := ∃ r : Int32, Ok a (fun x => x.1 = r) ∧ Ok b (fun x => x.1 = r)
theorem eq2_some {x y : Int32} {σ ρ : Mem} (h : x = y) : Eq2 (some (x, σ)) (some (y, ρ)) := ⟨x, ok_some rfl, ok_some h.symm⟩
theorem eq2_ite {a a' b b' : Option (Int32 × Mem)} {c : Prop} [Decidable c] (h1 : c → Eq2 a b) (h2 : ¬ c → Eq2 a' b') : Eq2 (if c then a else a') (if c then b else b') := by
  by_cases h : c
  · rw [if_pos h, if_pos h]
    exact h1 h
  · rw [if_neg h, if_neg h]
    exact h2 h
theorem eq2_lpos {a a' b : Option (Int32 × Mem)} {c : Prop} [Decidable c] (h : c) (h1 : Eq2 a b) : Eq2 (if c then a else a') b := by
  rw [if_pos h]
  exact h1
theorem eq2_lneg {a a' b : Option (Int32 × Mem)} {c : Prop} [Decidable c] (h : ¬ c) (h1 : Eq2 a' b) : Eq2 (if c then a else a') b := by
  rw [if_neg h]
  exact h1
theorem eq2_rpos {a b b' : Option (Int32 × Mem)} {c : Prop} [Decidable c] (h : c) (h1 : Eq2 a b) : Eq2 a (if c then b else b') := by
  rw [if_pos h]
  exact h1
theorem eq2_rneg {a b b' : Option (Int32 × Mem)} {c : Prop} [Decidable c] (h : ¬ c) (h1 : Eq2 a b') : Eq2 a (if c then b else b') := by
  rw [if_neg h]
  exact h1
theorem eq2_lbind {α : Type} {r : Option α} {x : α} {f : α → Option (Int32 × Mem)} {b : Option (Int32 × Mem)} (h : r = some x) (h1 : Eq2 (f x) b) : Eq2 (r.bind f) b := by
  subst h
  exact h1
theorem eq2_rbind {α : Type} {r : Option α} {x : α} {f : α → Option (Int32 × Mem)} {a : Option (Int32 × Mem)} (h : r = some x) (h1 : Eq2 a (f x)) : Eq2 a (r.bind f) := by
  subst h
  exact h1
theorem eq2_lokb {α : Type} {r : Option α} {P : α → Prop} {f : α → Option (Int32 × Mem)} {b : Option (Int32 × Mem)} (h : Ok r P) (h1 : ∀ x, P x → Eq2 (f x) b) : Eq2 (r.bind f) b := by
  obtain ⟨x, rfl, hx⟩ := h
  exact h1 x hx
theorem eq2_rokb {α : Type} {r : Option α} {P : α → Prop} {f : α → Option (Int32 × Mem)} {a : Option (Int32 × Mem)} (h : Ok r P) (h1 : ∀ x, P x → Eq2 a (f x)) : Eq2 a (r.bind f) := by
  obtain ⟨x, rfl, hx⟩ := h
  exact h1 x hx
/-! who is a person -/
def isP (n : Nat) (x : Int32) : Bool := decide (0 ≤ x) && decide (x < nI n)
theorem isP_t {n : Nat} {x : Int32} (hn : n ≤ 6) (h : isP n x = true) : ∃ p, p < n ∧ x = nI p := by
  unfold isP at h
  rw [Bool.and_eq_true, decide_eq_true_eq, decide_eq_true_eq] at h
  obtain ⟨p, hp, e⟩ := ni_of h.1
  refine ⟨p, ?_, e⟩
  rw [e] at h
  exact (ni_lt hp (by omega)).mp h.2
theorem isP_nI {n p : Nat} (hn : n ≤ 6) (hp : p < n) : isP n (nI p) = true := by
  unfold isP
  rw [decide_eq_true (ni_nn (by omega)), decide_eq_true ((ni_lt (by omega) (by omega)).mpr hp)]
  rfl
theorem gT_ok {α : Type} {t : Nat} (ht : t = 7 ∨ t = 124) (f : Nat → Option α) : gT (nI t) f = f t := by
  unfold gT
  rcases ht with rfl | rfl
  · rw [if_pos rfl]
  · rw [if_neg (by decide), if_pos rfl]
theorem isPersonC_ok {t : Nat} {T : Tn} {σ ρ : Mem} (h : I_town t T σ ρ) (x : Int32) : X11_isPerson x σ = some (tr (isP (tN T) x), σ) := by
  unfold X11_isPerson isP
  rw [h.2.1, gT_ok h.1, h.2.2.2.2.1.1]
  by_cases z : x < 0
  · rw [if_pos z, decide_eq_false (Int32.not_le.mpr z)]
    rfl
  · rw [if_neg z, decide_eq_true (Int32.not_lt.mp z)]
    by_cases y : nI (tN T) ≤ x
    · rw [if_pos y, decide_eq_false (Int32.not_lt.mpr y)]
      rfl
    · rw [if_neg y, decide_eq_true (Int32.not_le.mp y)]
      rfl
theorem pred_lt {n : Nat} (hn : n < 1000000) (x : Int32) : nI n - 1 < x ↔ nI n ≤ x := by
  rw [Int32.lt_iff_toInt_lt, Int32.le_iff_toInt_le]
  have e : (nI n).toInt = n := toInt_nI (by omega)
  have h1 : (1 : Int32).toInt = 1 := rfl
  rw [toInt_sub_of (by omega) (by omega), e, h1]
  omega
theorem isPersonN_ok {n : Nat} {ρ : Mem} (hn : n ≤ 6) (h : ρ.1 1000 45 = nI n) (x : Int32) : X12_isPerson x ρ = some (tr (isP n x), ρ) := by
  have a0 : (0 : Int32) &&& 1 = 0 := by decide
  have a1 : (1 : Int32) &&& 1 = 1 := by decide
  unfold X12_isPerson X12_isIn isP
  rw [h]
  by_cases z : x < 0
  · rw [if_pos z, decide_eq_false (Int32.not_le.mpr z), Option.bind_some, a0]
    rfl
  · rw [if_neg z, decide_eq_true (Int32.not_lt.mp z)]
    by_cases y : nI n ≤ x
    · rw [if_pos ((pred_lt (by omega) x).mpr y), decide_eq_false (Int32.not_lt.mpr y), Option.bind_some, a0]
      rfl
    · rw [if_neg (fun g => y ((pred_lt (by omega) x).mp g)), decide_eq_true (Int32.not_le.mp y), Option.bind_some, a1]
      rfl
theorem isPersonM_ok {t : Nat} {T : Tn} {σ ρ : Mem} (h : I_town t T σ ρ) (x : Int32) : X12_isPerson x ρ = some (tr (isP (tN T) x), ρ) := isPersonN_ok h.2.2.2.1.1 h.2.2.2.2.2.2.1.1 x
def isTwo (n : Nat) (x y : Int32) : Bool := isP n x && isP n y && !decide (x = y)
theorem isTwo_t {n : Nat} {x y : Int32} (hn : n ≤ 6) (h : isTwo n x y = true) : ∃ p q, p < n ∧ q < n ∧ p ≠ q ∧ x = nI p ∧ y = nI q := by
  unfold isTwo at h
  rw [Bool.and_eq_true, Bool.and_eq_true] at h
  obtain ⟨p, hp, e1⟩ := isP_t hn h.1.1
  obtain ⟨q, hq, e2⟩ := isP_t hn h.1.2
  refine ⟨p, q, hp, hq, fun g => ?_, e1, e2⟩
  rw [e1, e2, g] at h
  simp at h
theorem isPairC_ok {t : Nat} {T : Tn} {σ ρ : Mem} (h : I_town t T σ ρ) (x y : Int32) : X11_isPair x y σ = some (tr (isTwo (tN T) x y), σ) := by
  unfold X11_isPair isTwo
  rw [isPersonC_ok h]
  show (if tr (isP (tN T) x) = 0 then _ else (X11_isPerson y σ).bind _) = _
  rw [isPersonC_ok h]
  cases isP (tN T) x <;> cases isP (tN T) y <;> by_cases z : x = y <;> simp [tr, z]
theorem areTwo_ok {t : Nat} {T : Tn} {σ ρ : Mem} (h : I_town t T σ ρ) (x y : Int32) : X12_areTwo x y ρ = some (tr (isTwo (tN T) x y), ρ) := by
  unfold X12_areTwo isTwo
  rw [isPersonM_ok h]
  show (if tr (isP (tN T) x) = 0 then _ else (X12_isPerson y ρ).bind _) = _
  rw [isPersonM_ok h]
  cases isP (tN T) x <;> cases isP (tN T) y <;> by_cases z : x = y <;> simp [tr, z]
theorem isIn_ok (x a b : Int32) (ρ : Mem) : X12_isIn x a b ρ = some (tr (decide (a ≤ x) && decide (x ≤ b)), ρ) := by
  unfold X12_isIn
  by_cases z : x < a
  · rw [if_pos z, decide_eq_false (Int32.not_le.mpr z)]
    rfl
  · rw [if_neg z, decide_eq_true (Int32.not_lt.mp z)]
    by_cases y : b < x
    · rw [if_pos y, decide_eq_false (Int32.not_le.mpr y)]
      rfl
    · rw [if_neg y, decide_eq_true (Int32.not_lt.mp y)]
      rfl
theorem tr_t : tr true = 1 := rfl
theorem tr_f : tr false = 0 := rfl
theorem s_fault (a0 : Int32) : StpI Inv (X11_fault a0) (X12_fault a0) := by
  refine stpQ (fun σ => fr_X11_fault a0 σ Fr.refl) (fun σ => fr_X12_fault a0 σ Fr.refl) (by decide) (by decide) (fun σ ρ hI => ?_)
  obtain ⟨t, T, s, -, -, -, -, -, -, -, h8, -⟩ := hI
  show Eq2 _ _
  unfold X11_fault X12_fault
  exact eq2_ite (fun _ => eq2_some h8.1) (fun _ => eq2_ite (fun _ => eq2_some h8.2) (fun _ => eq2_some rfl))
theorem s_person (a0 a1 : Int32) : StpI Inv (X11_person a0 a1) (X12_person a0 a1) := by
  refine stpQ (fun σ => fr_X11_person a0 a1 σ Fr.refl) (fun σ => fr_X12_person a0 a1 σ Fr.refl) (by decide) (by decide) (fun σ ρ hI => ?_)
  obtain ⟨t, T, s, h1, h2, -, -, -, -, -, -, -⟩ := hI
  show Eq2 _ _
  have hn := h1.2.2.2.1.1
  unfold X11_person X12_person
  refine eq2_lbind (isPersonC_ok h1 a0) (eq2_rbind (isPersonM_ok h1 a0) ?_)
  cases hb : isP (tN T) a0 with
  | false => exact eq2_lpos rfl (eq2_rpos rfl (eq2_some rfl))
  | true =>
    obtain ⟨p, hp, rfl⟩ := isP_t hn hb
    refine eq2_lneg (show ¬ (1 : Int32) = 0 by decide) (eq2_rneg (show ¬ (1 : Int32) = 0 by decide) ?_)
    have bi := ib_t (n := p) (k := 6) (by omega) (by omega)
    have ci := ni_cl (n := p) (by omega)
    have hr := h2.2.2.1 p hp
    have hc := h2.2.1.1 p hp
    have ht := h1.2.2.2.2.1.2.2.1 p hp
    have hm := h1.2.2.2.2.2.2.1.2.2.1 p hp
    have ka : ∀ k, k + p < 64 → ib (nI k + nI p) 64 = true ∧ (nI k + nI p).toNatClampNeg = k + p := fun k hk => by rw [ni_add]; exact ⟨ib_t hk (by omega), ni_cl (by omega)⟩
    have k0 := ka 0 (by omega)
    have k6 := ka 6 (by omega)
    have k12 := ka 12 (by omega)
    have k18 := ka 18 (by omega)
    refine eq2_ite (fun _ => eq2_lpos bi (eq2_rpos k0.1 (eq2_some ?_))) (fun _ => ?_)
    · show σ.1 32 (nI p).toNatClampNeg = ρ.1 1028 (nI 0 + nI p).toNatClampNeg
      rw [ci, k0.2, show σ.1 32 p = _ from hc.1]
      exact (by rw [Nat.zero_add]; exact hr.1.symm)
    refine eq2_ite (fun _ => eq2_lpos bi (eq2_rpos k6.1 (eq2_some ?_))) (fun _ => ?_)
    · show σ.1 33 (nI p).toNatClampNeg = ρ.1 1028 (nI 6 + nI p).toNatClampNeg
      rw [ci, k6.2, show σ.1 33 p = _ from hc.2.1]
      exact (hr.2.1.symm)
    refine eq2_ite (fun _ => eq2_lpos bi (eq2_rpos k12.1 (eq2_some ?_))) (fun _ => ?_)
    · show σ.1 34 (nI p).toNatClampNeg = ρ.1 1028 (nI 12 + nI p).toNatClampNeg
      rw [ci, k12.2, show σ.1 34 p = _ from hc.2.2.1]
      exact (hr.2.2.1.symm)
    refine eq2_ite (fun _ => eq2_lpos bi (eq2_rpos k18.1 (eq2_some ?_))) (fun _ => ?_)
    · show σ.1 35 (nI p).toNatClampNeg = ρ.1 1028 (nI 18 + nI p).toNatClampNeg
      rw [ci, k18.2, show σ.1 35 p = _ from hc.2.2.2]
      exact (hr.2.2.2.symm)
    refine eq2_ite (fun _ => ?_) (fun _ => ?_)
    · show Eq2 (gT (σ.1 0 12) _) _
      rw [h1.2.1, gT_ok h1.1]
      refine eq2_lpos bi (eq2_rpos bi (eq2_some ?_))
      show σ.1 (t + 1) (nI p).toNatClampNeg = ρ.1 1020 (nI p).toNatClampNeg
      rw [ci, ht.1, hm.1]
    refine eq2_ite (fun _ => ?_) (fun _ => ?_)
    · show Eq2 (gT (σ.1 0 12) _) _
      rw [h1.2.1, gT_ok h1.1]
      refine eq2_lpos bi (eq2_rpos bi (eq2_some ?_))
      show σ.1 (t + 2) (nI p).toNatClampNeg = ρ.1 1021 (nI p).toNatClampNeg
      rw [ci, ht.2.1, hm.2.1]
    refine eq2_ite (fun _ => ?_) (fun _ => ?_)
    · show Eq2 (gT (σ.1 0 12) _) _
      rw [h1.2.1, gT_ok h1.1]
      refine eq2_lpos bi (eq2_rpos bi (eq2_some ?_))
      show σ.1 (t + 3) (nI p).toNatClampNeg = ρ.1 1022 (nI p).toNatClampNeg
      rw [ci, ht.2.2.1, hm.2.2.1]
    refine eq2_ite (fun _ => ?_) (fun _ => ?_)
    · show Eq2 (gT (σ.1 0 12) _) _
      rw [h1.2.1, gT_ok h1.1]
      refine eq2_lpos bi (eq2_rpos bi (eq2_some ?_))
      show σ.1 (t + 4) (nI p).toNatClampNeg = ρ.1 1023 (nI p).toNatClampNeg
      rw [ci, ht.2.2.2.1, hm.2.2.2.1]
    refine eq2_ite (fun _ => ?_) (fun _ => ?_)
    · show Eq2 (gT (σ.1 0 12) _) _
      rw [h1.2.1, gT_ok h1.1]
      refine eq2_lpos bi (eq2_rpos bi (eq2_some ?_))
      show σ.1 (t + 5) (nI p).toNatClampNeg = ρ.1 1024 (nI p).toNatClampNeg
      rw [ci, ht.2.2.2.2.1, hm.2.2.2.2.1]
    refine eq2_ite (fun _ => ?_) (fun _ => ?_)
    · show Eq2 (gT (σ.1 0 12) _) _
      rw [h1.2.1, gT_ok h1.1]
      refine eq2_lpos bi (eq2_rpos bi (eq2_some ?_))
      show σ.1 (t + 6) (nI p).toNatClampNeg = ρ.1 1025 (nI p).toNatClampNeg
      rw [ci, ht.2.2.2.2.2, hm.2.2.2.2.2]
    exact eq2_some rfl
theorem s_owed (a0 a1 : Int32) : StpI Inv (X11_owed a0 a1) (X12_owed a0 a1) := by
  refine stpQ (fun σ => fr_X11_owed a0 a1 σ Fr.refl) (fun σ => fr_X12_owed a0 a1 σ Fr.refl) (by decide) (by decide) (fun σ ρ hI => ?_)
  obtain ⟨t, T, s, h1, h2, -, -, -, -, -, -, -⟩ := hI
  show Eq2 _ _
  have hn := h1.2.2.2.1.1
  unfold X11_owed X12_owed
  refine eq2_lbind (isPairC_ok h1 a0 a1) (eq2_rbind (areTwo_ok h1 a0 a1) ?_)
  cases hb : isTwo (tN T) a0 a1 with
  | false => exact eq2_lpos rfl (eq2_rpos rfl (eq2_some rfl))
  | true =>
    obtain ⟨p, q, hp, hq, hpq, rfl, rfl⟩ := isTwo_t hn hb
    refine eq2_lneg (show ¬ (1 : Int32) = 0 by decide) (eq2_rneg (show ¬ (1 : Int32) = 0 by decide) ?_)
    refine eq2_lbind (cell_ok σ) (eq2_lpos (ib_t (by omega) (by omega)) ?_)
    rw [show (24 : Int32) + 6 * nI p + nI q = nI (24 + (6 * p + q)) by rw [Int32.add_assoc, ni_cell]; exact ni_add 24 _]
    refine eq2_rpos (ib_t (by omega) (by omega)) (eq2_some ?_)
    show σ.1 36 (nI (6 * p + q)).toNatClampNeg = ρ.1 1028 (nI (24 + (6 * p + q))).toNatClampNeg
    rw [ni_cl (by omega), ni_cl (by omega)]
    exact (h2.2.1.2.1 _ (by omega)).trans (h2.2.2.2.1 _ (by omega)).symm
theorem s_lies (a0 : Int32) : StpI Inv (X11_lies a0) (X12_lies a0) := by
  refine stpQ (fun σ => fr_X11_lies a0 σ Fr.refl) (fun σ => fr_X12_lies a0 σ Fr.refl) (by decide) (by decide) (fun σ ρ hI => ?_)
  obtain ⟨t, T, s, -, -, -, -, -, h6, -, -, -⟩ := hI
  obtain ⟨m, hm, e1, e2, h6⟩ := h6
  show Eq2 _ _
  unfold X11_lies X12_lies
  refine eq2_rbind (isIn_ok _ _ _ _) ?_
  show Eq2 _ (if tr _ = 0 then _ else _)
  rw [e1, e2]
  by_cases z : a0 < 0
  · rw [decide_eq_false (Int32.not_le.mpr z)]
    exact eq2_lpos z (eq2_rpos rfl (eq2_some rfl))
  · refine eq2_lneg z ?_
    rw [decide_eq_true (Int32.not_lt.mp z)]
    by_cases y : nI m ≤ a0
    · rw [decide_eq_false (fun g => Int32.not_lt.mpr g ((pred_lt (by omega) a0).mpr y))]
      exact eq2_lpos y (eq2_rpos rfl (eq2_some rfl))
    · rw [decide_eq_true (Int32.not_lt.mp (fun g => y ((pred_lt (by omega) a0).mp g)))]
      obtain ⟨k, hk, rfl⟩ := ni_of_lt z y (by omega)
      refine eq2_lneg y (eq2_lpos (ib_t (by omega) (by omega)) (eq2_rneg (show ¬ (1 : Int32) = 0 by decide) (eq2_rpos (ib_t (by omega) (by omega)) (eq2_some ?_))))
      show σ.1 123 (nI k).toNatClampNeg = ρ.1 1042 (nI k).toNatClampNeg
      rw [ni_cl (by omega)]
      exact h6 k hk
