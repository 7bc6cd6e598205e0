/-! pays, will, when, throng, meeting, help -/
theorem one_ne : ¬ (1 : Int32) = 0 := by decide
/-- a number between bounds -/
theorem rng {x : Int32} {a b : Nat} (ha : a < 100000) (hb : b < 100000) (h1 : ¬ x < nI a) (h2 : x ≤ nI b) : ∃ k, a ≤ k ∧ k ≤ b ∧ x = nI k := by
  have e : (nI a).toInt ≤ x.toInt := Int32.le_iff_toInt_le.mp (Int32.not_lt.mp h1)
  rw [toInt_nI (by omega)] at e
  obtain ⟨k, hk, rfl⟩ := ni_of (x := x) (by rw [Int32.le_iff_toInt_le]; show 0 ≤ x.toInt; omega)
  rw [toInt_nI hk] at e
  rw [ni_le hk (by omega)] at h2
  exact ⟨k, by omega, h2, rfl⟩
theorem s_pays (a0 : Int32) : StpI Inv (X11_pays a0) (X12_pays a0) := by
  refine stpQ (fun σ => fr_X11_pays a0 σ Fr.refl) (fun σ => fr_X12_pays a0 σ Fr.refl) (by decide) (by decide) (fun σ ρ hI => ?_)
  obtain ⟨t, T, s, h1, h2, -, -, -, -, -, -, -⟩ := hI
  show Eq2 _ _
  have hT := h1.2.2.2.1
  have hn := hT.1
  have hpast := h2.1.2
  unfold X11_pays X12_pays
  refine eq2_lbind (isPersonC_ok h1 a0) (eq2_rbind (isPersonM_ok h1 a0) ?_)
  cases hb : isP (tN T) a0 with
  | false => exact eq2_lpos rfl (eq2_rpos rfl (eq2_some rfl))
  | true =>
    obtain ⟨p, hp, rfl⟩ := isP_t hn hb
    have bi := ib_t (n := p) (k := 6) (by omega) (by omega)
    have ci := ni_cl (n := p) (by omega)
    refine eq2_lneg one_ne (eq2_rneg one_ne ?_)
    show Eq2 (gT (σ.1 0 12) _) _
    rw [h1.2.1, gT_ok h1.1]
    unfold X1_payOfNextHour
    refine ⟨paidF T s p, ?_, ?_⟩
    · refine ok_bind (P := fun r => r.1 = paidF T s p) ?_ (fun r hr => ok_some hr)
      refine ok_bind (look_ok (k := 1) hT h2.1.1 h1.1 (by omega) (by omega) h1.2.2.2.2.1 h2.2.1) ?_
      rintro σ1 ⟨-, -, h3⟩
      refine ok_pos bi (ok_some ?_)
      show σ1.1 47 (nI p).toNatClampNeg = _
      rw [ci]
      exact h3 0 rfl p hp
    · refine ok_bind (load_ok hT h1.2.2.2.2.2.2.1 h2.2.2) ?_
      rintro ρ1 ⟨m1, m2⟩
      refine ok_bind (goHour_ok hT h2.1.1 m1 m2) ?_
      rintro ρ2 ⟨-, -, m3, -⟩
      refine ok_pos bi (ok_some ?_)
      show ρ2.1 1038 (nI p).toNatClampNeg = _
      rw [ci]
      exact (m3 p hp).2.2
theorem s_will (a0 a1 a2 : Int32) : StpI Inv (X11_will a0 a1 a2) (X12_will a0 a1 a2) := by
  refine stpQ (fun σ => fr_X11_will a0 a1 a2 σ Fr.refl) (fun σ => fr_X12_will a0 a1 a2 σ Fr.refl) (by decide) (by decide) (fun σ ρ hI => ?_)
  obtain ⟨t, T, s, h1, h2, -, -, -, -, -, -, -⟩ := hI
  show Eq2 _ _
  have hT := h1.2.2.2.1
  have hn := hT.1
  have hpast := h2.1.2
  unfold X11_will X12_will
  refine eq2_lbind (isPairC_ok h1 a0 a1) (eq2_rbind (areTwo_ok h1 a0 a1) ?_)
  cases hb : isTwo (tN T) a0 a1 with
  | false => exact eq2_lpos rfl (eq2_rpos rfl (eq2_some rfl))
  | true =>
    obtain ⟨p, q, hp, hq, hpq, rfl, rfl⟩ := isTwo_t hn hb
    refine eq2_lneg one_ne (eq2_rneg one_ne (eq2_rbind (isIn_ok _ _ _ _) ?_))
    by_cases z : a2 < 0
    · rw [decide_eq_false (Int32.not_le.mpr z)]
      exact eq2_lpos z (eq2_rpos rfl (eq2_some rfl))
    · refine eq2_lneg z ?_
      rw [decide_eq_true (Int32.not_lt.mp z)]
      by_cases y : a2 ≤ 200
      · rw [decide_eq_true y]
        refine eq2_lpos y (eq2_rneg one_ne ?_)
        obtain ⟨k, -, hk, rfl⟩ := rng (a := 0) (b := 200) (by omega) (by omega) z y
        show Eq2 (gT (σ.1 0 12) _) _
        rw [h1.2.1, gT_ok h1.1]
        refine eq2_lbind (cell_ok σ) ?_
        refine ⟨hoursF T k s 5 (6 * p + q), ?_, ?_⟩
        · refine ok_bind (P := fun r => r.1 = hoursF T k s 5 (6 * p + q)) ?_ (fun r hr => ok_some hr)
          unfold X1_owedBehind
          refine ok_bind (look_ok (k := k) hT h2.1.1 h1.1 (by omega) (by omega) h1.2.2.2.2.1 h2.2.1) ?_
          rintro σ1 ⟨-, h3, -⟩
          refine ok_pos (ib_t (by omega) (by omega)) (ok_some ?_)
          show σ1.1 53 (nI (6 * p + q)).toNatClampNeg = _
          rw [ni_cl (by omega)]
          exact h3.2.1 _ (by omega)
        · refine ok_bind (load_ok hT h1.2.2.2.2.2.2.1 h2.2.2) ?_
          rintro ρ1 ⟨m1, m2⟩
          refine ok_bind (goHours_ok (k := k) hT h2.1.1 (by omega) m1 m2) ?_
          rintro ρ2 ⟨-, m3⟩
          rw [ni_cell]
          refine ok_pos (ib_t (by omega) (by omega)) (ok_some ?_)
          show ρ2.1 1033 (nI (6 * p + q)).toNatClampNeg = _
          rw [ni_cl (by omega)]
          exact m3.2.1 _ (by omega)
      · rw [decide_eq_false y]
        exact eq2_lneg y (eq2_rpos rfl (eq2_some rfl))
/-- in how many hours debt c is paid: r more hours are looked at, i have gone -/
def tillF (T : Tn) (c : Nat) : Nat → Nat → St → Int32
  | 0, i, s => if s 5 c = 0 then nI i else -1
  | r + 1, i, s => if s 5 c = 0 then nI i else tillF T c r (i + 1) (hourF T s)
theorem tillC_ok {T : Tn} {t c : Nat} (hT : okT T) (ht : t = 7 ∨ t = 124) (hc : c < 36) : ∀ (r n i : Nat) (s : St) (σ : Mem), i + r = 200 → r < n → okS T s → (s 0 7).toInt + r ≤ 3000 → CT T t σ → CS T s σ 48 → Ok (X1_hoursOfTrial_2 t n (nI c) (nI i) σ) (fun x => x.1 = tillF T c r i s) := by
  have bc := ib_t (n := c) (k := 36) hc (by omega)
  have cc := ni_cl (n := c) (by omega)
  intro r
  induction r with
  | zero =>
    intro n i s σ hi hn hS hp h1 h2
    obtain ⟨n, rfl⟩ : ∃ m, n = m + 1 := ⟨n - 1, by omega⟩
    have : i = 200 := by omega
    subst this
    rw [X1_hoursOfTrial_2]
    refine ok_pos (Int32.le_refl _) (ok_pos bc ?_)
    rw [cc, show σ.1 53 c = s 5 c from h2.2.1 c hc]
    unfold tillF
    refine ok_ite (fun z => ok_some ?_) (fun z => ok_some ?_)
    · rw [if_pos z]
      rfl
    · rw [if_neg z]
  | succ r ih =>
    intro n i s σ hi hn hS hp h1 h2
    obtain ⟨n, rfl⟩ : ∃ m, n = m + 1 := ⟨n - 1, by omega⟩
    rw [X1_hoursOfTrial_2]
    refine ok_neg (by rw [show (200 : Int32) = nI 200 from rfl, ni_le (by omega) (by omega)]; omega) (ok_pos bc ?_)
    rw [cc, show σ.1 53 c = s 5 c from h2.2.1 c hc]
    unfold tillF
    refine ok_ite (fun z => ok_some ?_) (fun z => ?_)
    · rw [if_pos z]
    · rw [if_neg z]
      refine ok_bind (pass_ok hT hS (sep44 ht) h1 h2) ?_
      rintro ⟨x, σ2⟩ ⟨b1, b2, -, -, -⟩
      refine ok_bv ?_
      rw [ni_succ]
      exact ih n (i + 1) (hourF T s) σ2 (by omega) (by omega) (okS_hour hT hS (by omega)) (by rw [hourF_pastI hS]; omega) b1 b2
theorem tillM_ok {T : Tn} {p q : Nat} (hT : okT T) (hp6 : p < 6) (hq6 : q < 6) : ∀ (r n i : Nat) (s : St) (ρ : Mem), i + r = 200 → r + 1 < n → okS T s → (s 0 7).toInt + r < 3000 → MT T ρ → MW T s ρ → Ok (X12_paidIn_2 n (nI p) (nI q) (nI i) ρ) (fun x => x.1 = tillF T (6 * p + q) r i s) := by
  have bc := ib_t (n := 6 * p + q) (k := 36) (by omega) (by omega)
  have cc := ni_cl (n := 6 * p + q) (by omega)
  intro r
  induction r with
  | zero =>
    intro n i s ρ hi hn hS hp h1 h2
    obtain ⟨n, rfl⟩ : ∃ m, n = m + 2 := ⟨n - 2, by omega⟩
    have : i = 200 := by omega
    subst this
    rw [X12_paidIn_2]
    refine ok_neg (by decide) ?_
    rw [ni_cell]
    refine ok_pos bc ?_
    rw [cc, h2.2.1 _ (by omega)]
    unfold tillF
    refine ok_ite (fun z => ok_some ?_) (fun z => ?_)
    · rw [if_pos z]
    · rw [if_neg z]
      refine ok_bind (goHour_ok hT hS h1 h2) ?_
      rintro ρ2 -
      refine ok_bv ?_
      rw [ni_succ, X12_paidIn_2]
      exact ok_pos (by decide) (ok_some rfl)
  | succ r ih =>
    intro n i s ρ hi hn hS hp h1 h2
    obtain ⟨n, rfl⟩ : ∃ m, n = m + 1 := ⟨n - 1, by omega⟩
    rw [X12_paidIn_2]
    refine ok_neg (by rw [show (200 : Int32) = nI 200 from rfl, ni_lt (by omega) (by omega)]; omega) ?_
    rw [ni_cell]
    refine ok_pos bc ?_
    rw [cc, h2.2.1 _ (by omega)]
    unfold tillF
    refine ok_ite (fun z => ok_some ?_) (fun z => ?_)
    · rw [if_pos z]
    · rw [if_neg z]
      refine ok_bind (goHour_ok hT hS h1 h2) ?_
      rintro ρ2 ⟨b1, b2, -, -⟩
      refine ok_bv ?_
      rw [ni_succ]
      exact ih n (i + 1) (hourF T s) ρ2 (by omega) (by omega) (okS_hour hT hS (by omega)) (by rw [hourF_pastI hS]; omega) b1 b2
theorem s_when (a0 a1 : Int32) : StpI Inv (X11_when a0 a1) (X12_when a0 a1) := by
  refine stpQ (fun σ => fr_X11_when a0 a1 σ Fr.refl) (fun σ => fr_X12_when a0 a1 σ Fr.refl) (by decide) (by decide) (fun σ ρ hI => ?_)
  obtain ⟨t, T, s, h1, h2, -, -, -, -, -, -, -⟩ := hI
  show Eq2 _ _
  have hT := h1.2.2.2.1
  have hn := hT.1
  have hpast := h2.1.2
  unfold X11_when X12_when
  refine eq2_lbind (isPairC_ok h1 a0 a1) (eq2_rbind (areTwo_ok h1 a0 a1) ?_)
  cases hb : isTwo (tN T) a0 a1 with
  | false => exact eq2_lpos rfl (eq2_rpos rfl (eq2_some rfl))
  | true =>
    obtain ⟨p, q, hp, hq, hpq, rfl, rfl⟩ := isTwo_t hn hb
    refine eq2_lneg one_ne (eq2_rneg one_ne ?_)
    show Eq2 (gT (σ.1 0 12) _) _
    rw [h1.2.1, gT_ok h1.1]
    refine eq2_lbind (cell_ok σ) ?_
    refine ⟨tillF T (6 * p + q) 200 0 s, ?_, ?_⟩
    · refine ok_bind (P := fun r => r.1 = tillF T (6 * p + q) 200 0 s) ?_ (fun r hr => ok_some hr)
      unfold X1_hoursTillPaid
      refine ok_bind (ok_fr (copy_ok (a := 48) (b := 31) hT (by omega) h2.2.1) (fr_X7_copy _ _ _ Fr.refl)) ?_
      rintro σ1 ⟨g1, f1⟩
      refine ok_bind (P := fun r => r.1 = tillF T (6 * p + q) 200 0 s) ?_ (fun r hr => ok_some hr)
      unfold X1_hoursOfTrial
      exact ok_bv (tillC_ok hT h1.1 (by omega) 200 fu 0 s σ1 (by omega) (by unfold fu; omega) h2.1.1 (by omega) (h1.2.2.2.2.1.copy h1.1 (by omega) f1) g1)
    · refine ok_bind (load_ok hT h1.2.2.2.2.2.2.1 h2.2.2) ?_
      rintro ρ1 ⟨m1, m2⟩
      refine ok_bind (P := fun r => r.1 = tillF T (6 * p + q) 200 0 s) ?_ (fun r hr => ok_some hr)
      unfold X12_paidIn
      exact ok_bv (tillM_ok hT (by omega) (by omega) 200 fu 0 s ρ1 (by omega) (by unfold fu; omega) h2.1.1 (by omega) m1 m2)
/-- how thronged door q gets: r more hours, i is the next one's number; the most so far, and when -/
def thrF (T : Tn) (q : Nat) : Nat → Nat → Int32 × Int32 → St → Int32 × Int32
  | 0, _, a, _ => a
  | r + 1, i, a, s => thrF T q r (i + 1) (if a.1 < nI (crw T s (nI q) (tN T)) then (nI (crw T s (nI q) (tN T)), nI i) else a) (hourF T s)
theorem thrC_ok {T : Tn} {t u q N : Nat} (hT : okT T) (ht : t = 7 ∨ t = 124) (hq : q < tN T) (hN : N ≤ 200) : ∀ (r n i : Nat) (s : St) (σ : Mem) (a : Int32 × Int32), i + r = N + 1 → r < n → okS T s → (s 0 7).toInt + r ≤ 3000 → CT T t σ → CS T s σ 48 → σ.1 43 4 = a.1 → σ.1 43 5 = a.2 → Ok (X1_findThrong_21 t u n (nI q) (nI N) (nI i) σ) (fun σ' => (σ'.1 43 4, σ'.1 43 5) = thrF T q r i a s) := by
  have hn := hT.1
  have bq := ib_t (n := q) (k := 6) (by omega) (by omega)
  have cq := ni_cl (n := q) (by omega)
  intro r
  induction r with
  | zero =>
    intro n i s σ a hi hnn hS hp h1 h2 h3 h4
    obtain ⟨n, rfl⟩ : ∃ m, n = m + 1 := ⟨n - 1, by omega⟩
    rw [X1_findThrong_21]
    refine ok_pos (by rw [ni_lt (by omega) (by omega)]; omega) (ok_some ?_)
    rw [h3, h4]
    rfl
  | succ r ih =>
    intro n i s σ a hi hnn hS hp h1 h2 h3 h4
    obtain ⟨n, rfl⟩ : ∃ m, n = m + 1 := ⟨n - 1, by omega⟩
    rw [X1_findThrong_21]
    refine ok_neg (by rw [ni_lt (by omega) (by omega)]; omega) ?_
    refine ok_bind (ok_fr (pass_ok hT hS (sep44 ht) h1 h2) (fr_X0_pass _ _ _ _ Fr.refl)) ?_
    rintro ⟨x, σ2⟩ ⟨⟨b1, b2, -, b4, -⟩, f2⟩
    have f2 : Fr (L_X0_pass 44 t 48) (K_X0_pass 44 t 48) σ σ2 := f2
    have e43 : σ2.1 43 = σ.1 43 := by
      funext b
      exact f2.1 43 b (by simp [L_X0_pass]; omega) (by simp [K_X0_pass])
    have hS' := okS_hour hT hS (by omega)
    have hp' := hourF_pastI hS
    refine ok_pos bq ?_
    rw [cq]
    show Ok (if σ2.1 46 q ≤ σ2.1 43 4 then _ else _) _
    rw [show σ2.1 46 q = nI (crw T s (nI q) (tN T)) from b4 q hq, e43, h3]
    unfold thrF
    refine ok_ite (fun z => ?_) (fun z => ?_)
    · rw [if_neg (Int32.not_lt.mpr z)]
      unfold X1_findThrong_76
      refine ok_bv ?_
      rw [ni_succ]
      exact ih n (i + 1) (hourF T s) σ2 a (by omega) (by omega) hS' (by omega) b1 b2 (by rw [e43]; exact h3) (by rw [e43]; exact h4)
    · rw [if_pos (Int32.not_le.mp z)]
      unfold X1_findThrong_76
      refine ok_pos bq (ok_bv (ok_bv (ok_bv ?_)))
      rw [ni_succ]
      refine ih n (i + 1) (hourF T s) _ (nI (crw T s (nI q) (tN T)), nI i) (by omega) (by omega) hS' (by omega) (b1.keep (fun a g1 g2 _ _ _ => ?_)) (b2.keep ?_ ?_ ?_ ?_ ?_ ?_) ?_ ?_
      · funext b
        rw [sI_n (by omega), sI_n (by omega)]
      all_goals try (funext b; rw [sI_n (by decide), sI_n (by decide)])
      · rw [sI_k (by decide), sI_e]
      · rw [sI_e]
theorem cntI {f : Nat → Bool} {i : Nat} : nI (cnt f i) + tr (f i) = nI (cnt f (i + 1)) := by
  rw [cnt_succ]
  cases f i
  · exact Int32.add_zero _
  · exact ni_succ _
theorem thrM_ok {T : Tn} {q N : Nat} {w : Int32} (hT : okT T) (hN : N ≤ 200) : ∀ (r n i : Nat) (s : St) (ρ : Mem) (a : Int32 × Int32), i + r = N + 1 → r < n → okS T s → (s 0 7).toInt + r ≤ 3000 → MT T ρ → MW T s ρ → Ok (X12_throng_44 n (nI q) (nI N) w a.1 a.2 (nI i) ρ) (fun x => x.1 = if w = 0 then (thrF T q r i a s).1 else (thrF T q r i a s).2) := by
  have hn := hT.1
  intro r
  induction r with
  | zero =>
    intro n i s ρ a hi hnn hS hp h1 h2
    obtain ⟨n, rfl⟩ : ∃ m, n = m + 1 := ⟨n - 1, by omega⟩
    rw [X12_throng_44]
    refine ok_pos (by rw [ni_lt (by omega) (by omega)]; omega) ?_
    refine ok_ite (fun z => ok_some ?_) (fun z => ok_some ?_)
    · rw [if_pos z]
      rfl
    · rw [if_neg z]
      rfl
  | succ r ih =>
    intro n i s ρ a hi hnn hS hp h1 h2
    obtain ⟨n, rfl⟩ : ∃ m, n = m + 1 := ⟨n - 1, by omega⟩
    rw [X12_throng_44]
    refine ok_neg (by rw [ni_lt (by omega) (by omega)]; omega) ?_
    refine ok_bind (goHour_ok hT hS h1 h2) ?_
    rintro ρ2 ⟨b1, b2, b3, b4⟩
    have hS' := okS_hour hT hS (by omega)
    have hp' := hourF_pastI hS
    refine ok_bv (ok_bv ?_)
    -- who stands at the door in this hour
    have hat : ∀ j, j < tN T → X12_atDoor (nI j) (nI q) ρ2 = some (tr (atD T s (nI q) j), ρ2) := by
      intro j hj
      have bj := ib_t (n := j) (k := 6) (by omega) (by omega)
      have cj := ni_cl (n := j) (by omega)
      unfold X12_atDoor atD
      rw [if_pos bj, cj, (b3 j hj).2.1, (b3 j hj).1, b4 j hj, if_pos bj, if_pos bj]
      by_cases x : wts T s j = true <;> by_cases y : mts T s j = true <;> by_cases z : s 2 j = nI q <;> simp [x, y, z, tr]
    refine ok_loop0 (F := fun m j (x : Int32) => X12_throng_60 (X12_throng_44 n) m (nI q) (nI N) w a.1 a.2 (nI i) x j ρ2) (N := tN T) (I := fun j x => x = nI (cnt (atD T s (nI q)) j)) 0 0 (by omega) (by omega) rfl ?_ ?_
    · intro m j x hj hx hk
      show Ok (X12_throng_60 (X12_throng_44 n) (m + 1) (nI q) (nI N) w a.1 a.2 (nI i) x (nI j) ρ2) _
      rw [X12_throng_60, b1.1]
      refine ok_neg (by rw [ni_le (by omega) (by omega)]; omega) ?_
      refine ok_bindE (hat j hj) (ok_bindE (truth_ok _ _) (ok_bv (ok_bv ?_)))
      rw [ni_succ]
      refine hk _ ?_
      show x + tr _ = _
      rw [hx]
      exact cntI
    · intro m x hx
      show Ok (X12_throng_60 (X12_throng_44 n) (m + 1) (nI q) (nI N) w a.1 a.2 (nI i) x (nI (tN T)) ρ2) _
      rw [X12_throng_60, b1.1, hx]
      refine ok_pos (Int32.le_refl _) ?_
      unfold thrF
      refine ok_ite (fun z => ?_) (fun z => ?_)
      · rw [if_pos (show a.1 < nI (crw T s (nI q) (tN T)) from z)]
        unfold X12_throng_108
        refine ok_bv ?_
        rw [ni_succ]
        exact ih n (i + 1) (hourF T s) ρ2 (nI (crw T s (nI q) (tN T)), nI i) (by omega) (by omega) hS' (by omega) b1 b2
      · rw [if_neg (show ¬ a.1 < nI (crw T s (nI q) (tN T)) from z)]
        unfold X12_throng_108
        refine ok_bv ?_
        rw [ni_succ]
        exact ih n (i + 1) (hourF T s) ρ2 a (by omega) (by omega) hS' (by omega) b1 b2
theorem zero1_ok (x : Int32) (σ ρ : Mem) : ∃ b : Bool, X11_isZeroOrOne x σ = some (tr b, σ) ∧ X12_isIn x 0 1 ρ = some (tr b, ρ) ∧ (b = true → x = 0 ∨ x = 1) := by
  by_cases z : x = 0
  · subst z
    exact ⟨true, rfl, rfl, fun _ => .inl rfl⟩
  · by_cases y : x = 1
    · subst y
      exact ⟨true, rfl, rfl, fun _ => .inr rfl⟩
    · refine ⟨false, ?_, ?_, fun h => by cases h⟩
      · unfold X11_isZeroOrOne
        rw [if_neg z, if_neg y]
        rfl
      · rw [isIn_ok]
        by_cases w : (0 : Int32) ≤ x
        · rw [decide_eq_true w, decide_eq_false]
          · rfl
          · intro g
            obtain ⟨k, hk, rfl⟩ := ni_of w
            rw [show (1 : Int32) = nI 1 from rfl, ni_le hk (by omega)] at g
            rcases Nat.lt_or_ge k 1 with q | q
            · exact z (by rw [show k = 0 by omega]; rfl)
            · exact y (by rw [show k = 1 by omega]; rfl)
        · rw [decide_eq_false w]
          rfl
theorem s_throng (a0 a1 a2 : Int32) : StpI Inv (X11_throng a0 a1 a2) (X12_throng a0 a1 a2) := by
  refine stpQ (fun σ => fr_X11_throng a0 a1 a2 σ Fr.refl) (fun σ => fr_X12_throng a0 a1 a2 σ Fr.refl) (by decide) (by decide) (fun σ ρ hI => ?_)
  obtain ⟨t, T, s, h1, h2, -, -, -, -, -, -, -⟩ := hI
  show Eq2 _ _
  have hT := h1.2.2.2.1
  have hn := hT.1
  have hpast := h2.1.2
  unfold X11_throng X12_throng
  refine eq2_lbind (isPersonC_ok h1 a0) (eq2_rbind (isPersonM_ok h1 a0) ?_)
  cases hb : isP (tN T) a0 with
  | false => exact eq2_lpos rfl (eq2_rpos rfl (eq2_some rfl))
  | true =>
    obtain ⟨p, hp, rfl⟩ := isP_t hn hb
    refine eq2_lneg one_ne (eq2_rneg one_ne (eq2_rbind (isIn_ok _ _ _ _) ?_))
    by_cases z : a1 < 1
    · rw [decide_eq_false (Int32.not_le.mpr z)]
      exact eq2_lpos z (eq2_rpos rfl (eq2_some rfl))
    · refine eq2_lneg z ?_
      rw [decide_eq_true (Int32.not_lt.mp z)]
      by_cases y : 200 < a1
      · rw [decide_eq_false (Int32.not_le.mpr y)]
        exact eq2_lpos y (eq2_rpos rfl (eq2_some rfl))
      · rw [decide_eq_true (Int32.not_lt.mp y)]
        obtain ⟨k, hk1, hk, rfl⟩ := rng (a := 1) (b := 200) (by omega) (by omega) z (Int32.not_lt.mp y)
        obtain ⟨b, e1, e2, e3⟩ := zero1_ok a2 σ ρ
        refine eq2_lneg y (eq2_rneg one_ne (eq2_lbind e1 (eq2_rbind e2 ?_)))
        cases b with
        | false => exact eq2_lpos rfl (eq2_rpos rfl (eq2_some rfl))
        | true =>
          refine eq2_lneg one_ne (eq2_rneg one_ne ?_)
          show Eq2 (gT (σ.1 0 12) _) _
          rw [h1.2.1, gT_ok h1.1]
          refine ⟨if a2 = 0 then (thrF T p k 1 (0, -1) s).1 else (thrF T p k 1 (0, -1) s).2, ?_, ?_⟩
          · unfold X1_findThrong
            refine ok_bind (P := fun σ' => (σ'.1 43 4, σ'.1 43 5) = thrF T p k 1 (0, -1) s) ?_ (fun σ' hr => ?_)
            · refine ok_bv (ok_bv ?_)
              have hc : CS T s (sI (sI σ 43 4 0) 43 5 (-1)) 31 := h2.2.1.keep (by funext b; rw [sI_n (by decide), sI_n (by decide)]) (by funext b; rw [sI_n (by decide), sI_n (by decide)]) (by funext b; rw [sI_n (by decide), sI_n (by decide)]) (by funext b; rw [sI_n (by decide), sI_n (by decide)]) (by funext b; rw [sI_n (by decide), sI_n (by decide)]) (by funext b; rw [sI_n (by decide), sI_n (by decide)])
              have ht := h1.1
              have hct : CT T t (sI (sI σ 43 4 0) 43 5 (-1)) := h1.2.2.2.2.1.keep (fun a g1 g2 _ _ _ => by funext b; rw [sI_n (by omega), sI_n (by omega)])
              refine ok_bind (ok_fr (copy_ok (a := 48) (b := 31) hT (by omega) hc) (fr_X7_copy _ _ _ Fr.refl)) ?_
              rintro σ1 ⟨g1, f1⟩
              have f1' : Fr (L_X7_copy 48 31) (K_X7_copy 48 31) (sI (sI σ 43 4 0) 43 5 (-1)) σ1 := f1
              have e43 := (f1'.off (A := [43]) (B := []) (by decide)).1 43 (by decide)
              refine ok_bv (thrC_ok hT h1.1 hp hk k fu 1 s σ1 (0, -1) (by omega) (by unfold fu; omega) h2.1.1 (by omega) (hct.copy h1.1 (by omega) f1) g1 ?_ ?_)
              · rw [e43, sI_k (by decide), sI_e]
              · rw [e43, sI_e]
            · refine ok_ite (fun x => ok_some ?_) (fun x => ok_some ?_)
              · rw [if_pos x, ← hr]
              · rw [if_neg x, ← hr]
          · refine ok_bind (load_ok hT h1.2.2.2.2.2.2.1 h2.2.2) ?_
            rintro ρ1 ⟨m1, m2⟩
            exact ok_bv (ok_bv (ok_bv (thrM_ok hT hk k fu 1 s ρ1 (0, -1) (by omega) (by unfold fu; omega) h2.1.1 (by omega) m1 m2)))
/-- when p meets -/
def mtF (T : Tn) (p : Nat) : Nat → Nat → St → Int32
  | 0, _, _ => -1
  | r + 1, i, s => if mts T s p = true then nI i else mtF T p r (i + 1) (hourF T s)
theorem mtC_ok {T : Tn} {t u p N : Nat} (hT : okT T) (ht : t = 7 ∨ t = 124) (hp : p < tN T) (hN : N ≤ 200) : ∀ (r n i : Nat) (s : St) (σ : Mem), i + r = N + 1 → r < n → okS T s → (s 0 7).toInt + r ≤ 3000 → CT T t σ → CS T s σ 48 → Ok (X1_hourOfMeeting_35 t u n (nI p) (nI N) (nI i) σ) (fun x => x.1 = mtF T p r i s) := by
  have hn := hT.1
  intro r
  induction r with
  | zero =>
    intro n i s σ hi hnn hS hpp h1 h2
    obtain ⟨n, rfl⟩ : ∃ m, n = m + 1 := ⟨n - 1, by omega⟩
    rw [X1_hourOfMeeting_35]
    exact ok_pos (by rw [ni_lt (by omega) (by omega)]; omega) (ok_some rfl)
  | succ r ih =>
    intro n i s σ hi hnn hS hpp h1 h2
    obtain ⟨n, rfl⟩ : ∃ m, n = m + 1 := ⟨n - 1, by omega⟩
    rw [X1_hourOfMeeting_35]
    refine ok_neg (by rw [ni_lt (by omega) (by omega)]; omega) ?_
    refine ok_bind (pass_ok hT hS (sep44 ht) h1 h2) ?_
    rintro ⟨x, σ2⟩ ⟨b1, b2, b3, -, -⟩
    refine ok_bindE (isMeeting_ok x (by omega) σ2) ?_
    show Ok (if tr (tb x (6 + p)) = 0 then _ else some (nI i, σ2)) _
    rw [(b3.1 p hp).2.1]
    unfold mtF
    refine ok_ite (fun z => ?_) (fun z => ok_some ?_)
    · rw [tr_ne] at z
      rw [z, if_neg Bool.false_ne_true]
      refine ok_bv ?_
      rw [ni_succ]
      exact ih n (i + 1) (hourF T s) σ2 (by omega) (by omega) (okS_hour hT hS (by omega)) (by rw [hourF_pastI hS]; omega) b1 b2
    · have : mts T s p = true := by rw [tr_ne] at z; simpa using z
      rw [if_pos this]
theorem mtM_ok {T : Tn} {p N : Nat} {q : Int32} (hT : okT T) (hp : p < tN T) (hN : N ≤ 200) : ∀ (r n i : Nat) (s : St) (ρ : Mem), i + r = N + 1 → r < n → okS T s → (s 0 7).toInt + r ≤ 3000 → MT T ρ → MW T s ρ → Ok (X12_meeting_30 n (nI p) q (nI N) (nI i) ρ) (fun x => x.1 = if s 2 p = q then mtF T p r i s else -1) := by
  have hn := hT.1
  have bp := ib_t (n := p) (k := 6) (by omega) (by omega)
  have cp := ni_cl (n := p) (by omega)
  intro r
  induction r with
  | zero =>
    intro n i s ρ hi hnn hS hpp h1 h2
    obtain ⟨n, rfl⟩ : ∃ m, n = m + 1 := ⟨n - 1, by omega⟩
    rw [X12_meeting_30]
    refine ok_pos (by rw [ni_lt (by omega) (by omega)]; omega) (ok_some ?_)
    unfold mtF
    split <;> rfl
  | succ r ih =>
    intro n i s ρ hi hnn hS hpp h1 h2
    obtain ⟨n, rfl⟩ : ∃ m, n = m + 1 := ⟨n - 1, by omega⟩
    rw [X12_meeting_30]
    refine ok_neg (by rw [ni_lt (by omega) (by omega)]; omega) ?_
    refine ok_bind (goHour_ok hT hS h1 h2) ?_
    rintro ρ2 ⟨b1, b2, b3, b4⟩
    have go : (s 2 p = q → mts T s p = false) → Ok (X12_meeting_62 (X12_meeting_30 n) (nI p) q (nI N) (nI i) ρ2) (fun x => x.1 = if s 2 p = q then mtF T p (r + 1) i s else -1) := by
      intro hz
      unfold X12_meeting_62
      refine ok_bv ?_
      rw [ni_succ]
      refine ok_mono (ih n (i + 1) (hourF T s) ρ2 (by omega) (by omega) (okS_hour hT hS (by omega)) (by rw [hourF_pastI hS]; omega) b1 b2) (fun x hx => ?_)
      rw [hx, hourF_aim]
      by_cases g : s 2 p = q
      · rw [if_pos g, if_pos g]
        show _ = if mts T s p = true then nI i else mtF T p r (i + 1) (hourF T s)
        rw [hz g, if_neg Bool.false_ne_true]
      · rw [if_neg g, if_neg g]
    refine ok_pos bp ?_
    rw [cp, (b3 p hp).1, b4 p hp]
    refine ok_ite (fun z => go (fun _ => by rw [tr_ne] at z; exact z)) (fun z => ok_pos bp ?_)
    have hm : mts T s p = true := by rw [tr_ne] at z; simpa using z
    refine ok_ite (fun y => ok_some ?_) (fun y => go (fun g => absurd g y))
    rw [if_pos y]
    unfold mtF
    rw [if_pos hm]
theorem mtF_none {T : Tn} {p q : Nat} (hT : okT T) (hp : p < tN T) : ∀ (r i : Nat) (s : St), s 2 p = nI q → q < tN T → s 2 q ≠ nI p → mtF T p r i s = -1
  | 0, _, _, _, _, _ => rfl
  | r + 1, i, s, h1, hq, h2 => by
    have hn := hT.1
    unfold mtF
    have : mts T s p = false := by
      unfold mts
      rw [h1, show ix (nI q) = q from ni_cl (by omega), decide_eq_false h2]
      simp
    rw [this, if_neg Bool.false_ne_true]
    exact mtF_none hT hp r (i + 1) (hourF T s) (by rw [hourF_aim]; exact h1) hq (by rw [hourF_aim]; exact h2)
theorem s_meeting (a0 a1 a2 : Int32) : StpI Inv (X11_meeting a0 a1 a2) (X12_meeting a0 a1 a2) := by
  refine stpQ (fun σ => fr_X11_meeting a0 a1 a2 σ Fr.refl) (fun σ => fr_X12_meeting a0 a1 a2 σ Fr.refl) (by decide) (by decide) (fun σ ρ hI => ?_)
  obtain ⟨t, T, s, h1, h2, -, -, -, -, -, -, -⟩ := hI
  show Eq2 _ _
  have hT := h1.2.2.2.1
  have hn := hT.1
  have hpast := h2.1.2
  unfold X11_meeting X12_meeting
  refine eq2_lbind (isPairC_ok h1 a0 a1) (eq2_rbind (areTwo_ok h1 a0 a1) ?_)
  cases hb : isTwo (tN T) a0 a1 with
  | false => exact eq2_lpos rfl (eq2_rpos rfl (eq2_some rfl))
  | true =>
    obtain ⟨p, q, hp, hq, hpq, rfl, rfl⟩ := isTwo_t hn hb
    refine eq2_lneg one_ne (eq2_rneg one_ne (eq2_rbind (isIn_ok _ _ _ _) ?_))
    by_cases z : a2 < 1
    · rw [decide_eq_false (Int32.not_le.mpr z)]
      exact eq2_lpos z (eq2_rpos rfl (eq2_some rfl))
    · refine eq2_lneg z ?_
      rw [decide_eq_true (Int32.not_lt.mp z)]
      by_cases y : a2 ≤ 200
      · rw [decide_eq_true y]
        refine eq2_lpos y (eq2_rneg one_ne ?_)
        obtain ⟨k, hk1, hk, rfl⟩ := rng (a := 1) (b := 200) (by omega) (by omega) z y
        show Eq2 (gT (σ.1 0 12) _) _
        rw [h1.2.1, gT_ok h1.1]
        refine ⟨if s 2 p = nI q then mtF T p k 1 s else -1, ?_, ?_⟩
        · refine ok_bind (P := fun r => r.1 = if s 2 p = nI q then mtF T p k 1 s else -1) ?_ (fun r hr => ok_some hr)
          unfold X1_hourOfMeeting
          refine ok_pos (ib_t (by omega) (by omega)) ?_
          rw [ni_cl (by omega), show σ.1 (31 + 2) p = s 2 p from (h2.2.1.1 p hp).2.1]
          refine ok_ite (fun x => ok_pos (ib_t (by omega) (by omega)) ?_) (fun x => ok_some ?_)
          · rw [ni_cl (by omega), show σ.1 (31 + 2) q = s 2 q from (h2.2.1.1 q hq).2.1, if_pos x]
            refine ok_ite (fun w => ?_) (fun w => ok_some ?_)
            · refine ok_bind (ok_fr (copy_ok (a := 48) (b := 31) hT (by omega) h2.2.1) (fr_X7_copy _ _ _ Fr.refl)) ?_
              rintro σ1 ⟨g1, f1⟩
              exact ok_bv (mtC_ok hT h1.1 hp hk k fu 1 s σ1 (by omega) (by unfold fu; omega) h2.1.1 (by omega) (h1.2.2.2.2.1.copy h1.1 (by omega) f1) g1)
            · exact (mtF_none hT hp k 1 s x hq w).symm
          · rw [if_neg x]
        · refine ok_bind (load_ok hT h1.2.2.2.2.2.2.1 h2.2.2) ?_
          rintro ρ1 ⟨m1, m2⟩
          exact ok_bv (mtM_ok hT hp hk k fu 1 s ρ1 (by omega) (by unfold fu; omega) h2.1.1 (by omega) m1 m2)
      · rw [decide_eq_false y]
        exact eq2_lneg y (eq2_rpos rfl (eq2_some rfl))
