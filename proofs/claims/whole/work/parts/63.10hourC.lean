/-! an hour of the class: who meets, who waits -/
def asksW (pr : Pg) : Bool := pr.any (fun c => decide (c.1 = 1) && decide (c.2 = 3))
def CPf (P : Option Pg) (σ : Mem) (f : Nat) : Prop := match P with
  | none => σ.1 f 5 = 0
  | some pr => σ.1 f 5 = 1 ∧ FC pr σ f
/-- the class's town at t -/
def CT (T : Tn) (t : Nat) (σ : Mem) : Prop := σ.1 t 12 = nI (tN T) ∧ σ.1 t 11 = nI (tD T) ∧
  (∀ p, p < tN T → σ.1 (t + 1) p = tR T 1 p ∧ σ.1 (t + 2) p = tR T 2 p ∧ σ.1 (t + 3) p = tR T 3 p ∧ σ.1 (t + 4) p = tR T 4 p ∧ σ.1 (t + 5) p = tR T 5 p ∧ σ.1 (t + 6) p = tR T 6 p) ∧
  CPf (tP T 0) σ (t + 9) ∧ CPf (tP T 1) σ (t + 14) ∧ CPf (tP T 2) σ (t + 19) ∧ (∀ pr, tP T 0 = some pr → σ.1 (t + 9) 6 = tr (asksW pr))
/-- the class's state at u -/
def CS (T : Tn) (s : St) (σ : Mem) (u : Nat) : Prop := (∀ p, p < tN T → σ.1 (u + 1) p = s 1 p ∧ σ.1 (u + 2) p = s 2 p ∧ σ.1 (u + 3) p = s 3 p ∧ σ.1 (u + 4) p = s 4 p) ∧ (∀ k, k < 36 → σ.1 (u + 5) k = s 5 k) ∧ σ.1 u 5 = s 0 5 ∧ σ.1 u 6 = s 0 6 ∧ σ.1 u 7 = s 0 7
def sep (o t u : Nat) : Prop := (t = 7 ∨ t = 124) ∧ 30 < u ∧ u < 106 ∧ 30 < o ∧ o < 63 ∧ (o + 3 < u ∨ u + 5 < o)
def CR (T : Tn) (s : St) (σ : Mem) (t u : Nat) : Prop := CT T t σ ∧ (∀ p, p < tN T → σ.1 (u + 2) p = s 2 p ∧ σ.1 (u + 3) p = s 3 p) ∧ σ.1 u 5 = s 0 5 ∧ σ.1 u 6 = s 0 6
theorem FC.keep {pr : Pg} {σ σ' : Mem} {f : Nat} (h : FC pr σ f) (h0 : σ'.1 f = σ.1 f) (h1 : σ'.1 (f + 1) = σ.1 (f + 1)) (h2 : σ'.1 (f + 2) = σ.1 (f + 2)) : FC pr σ' f := by
  unfold FC
  rw [h0, h1, h2]
  exact h
theorem CPf.keep {P : Option Pg} {σ σ' : Mem} {f : Nat} (h : CPf P σ f) (h0 : σ'.1 f = σ.1 f) (h1 : σ'.1 (f + 1) = σ.1 (f + 1)) (h2 : σ'.1 (f + 2) = σ.1 (f + 2)) : CPf P σ' f := by
  unfold CPf at h ⊢
  cases P with
  | none =>
    show σ'.1 f 5 = 0
    rw [h0]
    exact h
  | some pr =>
    show σ'.1 f 5 = 1 ∧ FC pr σ' f
    rw [h0]
    exact ⟨h.1, h.2.keep h0 h1 h2⟩
theorem CT.keep {T : Tn} {t : Nat} {σ σ' : Mem} (h : CT T t σ) (hk : ∀ a, t ≤ a → a ≤ t + 23 → a ≠ t + 12 → a ≠ t + 17 → a ≠ t + 22 → σ'.1 a = σ.1 a) : CT T t σ' := by
  have k0 : σ'.1 t = σ.1 t := hk t (by omega) (by omega) (by omega) (by omega) (by omega)
  have kk : ∀ i, i ≤ 23 → i ≠ 12 → i ≠ 17 → i ≠ 22 → σ'.1 (t + i) = σ.1 (t + i) := fun i h1 h2 h3 h4 => hk (t + i) (by omega) (by omega) (by omega) (by omega) (by omega)
  refine ⟨by rw [k0]; exact h.1, by rw [k0]; exact h.2.1, fun p hp => ?_, h.2.2.2.1.keep (kk 9 (by omega) (by omega) (by omega) (by omega)) (kk 10 (by omega) (by omega) (by omega) (by omega)) (kk 11 (by omega) (by omega) (by omega) (by omega)), h.2.2.2.2.1.keep (kk 14 (by omega) (by omega) (by omega) (by omega)) (kk 15 (by omega) (by omega) (by omega) (by omega)) (kk 16 (by omega) (by omega) (by omega) (by omega)), h.2.2.2.2.2.1.keep (kk 19 (by omega) (by omega) (by omega) (by omega)) (kk 20 (by omega) (by omega) (by omega) (by omega)) (kk 21 (by omega) (by omega) (by omega) (by omega)), fun pr e => ?_⟩
  · rw [kk 1 (by omega) (by omega) (by omega) (by omega), kk 2 (by omega) (by omega) (by omega) (by omega), kk 3 (by omega) (by omega) (by omega) (by omega), kk 4 (by omega) (by omega) (by omega) (by omega), kk 5 (by omega) (by omega) (by omega) (by omega), kk 6 (by omega) (by omega) (by omega) (by omega)]
    exact h.2.2.1 p hp
  · rw [kk 9 (by omega) (by omega) (by omega) (by omega)]
    exact h.2.2.2.2.2.2 pr e
theorem CR.keep {T : Tn} {s : St} {t u : Nat} {σ σ' : Mem} (h : CR T s σ t u) (hk : ∀ a, (t ≤ a ∧ a ≤ t + 23 ∧ a ≠ t + 12 ∧ a ≠ t + 17 ∧ a ≠ t + 22) ∨ a = u ∨ a = u + 2 ∨ a = u + 3 → σ'.1 a = σ.1 a) : CR T s σ' t u := by
  refine ⟨h.1.keep (fun a h1 h2 h3 h4 h5 => hk a (.inl ⟨h1, h2, h3, h4, h5⟩)), fun p hp => ?_, ?_, ?_⟩
  · rw [hk (u + 2) (.inr (.inr (.inl rfl))), hk (u + 3) (.inr (.inr (.inr rfl)))]
    exact h.2.1 p hp
  · rw [hk u (.inr (.inl rfl))]
    exact h.2.2.1
  · rw [hk u (.inr (.inl rfl))]
    exact h.2.2.2
theorem rests_ok {T : Tn} {t : Nat} {σ : Mem} (hT : okT T) (h : CT T t σ) {p : Nat} (hp : p < tN T) (x : Int32) : X10_rests t (nI p) x σ = some (tr (rsts T x p), σ) := by
  have := hT.1
  have b := ib_t (n := p) (k := 6) (by omega) (by omega)
  have c := ni_cl (n := p) (by omega)
  unfold X10_rests rsts
  rw [if_pos b, c, h.2.1, (h.2.2.1 p hp).2.2.2.2.1]
  by_cases z : x < nI (tD T) - tR T 5 p
  · rw [if_pos z, decide_eq_false (Int32.not_le.mpr z)]
    rfl
  · rw [if_neg z, decide_eq_true (Int32.not_lt.mp z)]
    rfl
/-- bits of those who meet, among the first i: who waits, and (6 up) who meets -/
def mBits (T : Tn) (s : St) (i : Nat) (x : Int32) : Prop := ∀ k, k < 32 → tb x k = ((decide (k < i) && mts T s k) || (decide (6 ≤ k) && decide (k - 6 < i) && mts T s (k - 6)))
theorem meetings_ok {T : Tn} {s : St} {o t u : Nat} {σ : Mem} (hT : okT T) (hS : okS T s) (h : CR T s σ t u) (hp : ∀ p, p < tN T → σ.1 (u + 1) p = s 1 p) : Ok (X0_meetings o t u σ) (fun r => r.2 = σ ∧ mBits T s (tN T) r.1) := by
  have hn := hT.1
  unfold X0_meetings
  refine ok_bv (ok_bv ?_)
  refine ok_loop0 (F := fun n i (x : Int32) => X0_meetings_5 o t u n x i σ) (N := tN T) (I := fun i x => mBits T s i x) 0 0 (by omega) (by omega) (fun k hk => by rw [tb_zero]; simp) ?_ ?_
  · intro n i x hi hI hk
    have bi := ib_t (n := i) (k := 6) (by omega) (by omega)
    have ci := ni_cl (n := i) (by omega)
    have hno : mts T s i = false → Ok (X0_meetings_99 o t u (X0_meetings_5 o t u n) x (nI i) σ) (fun r => r.2 = σ ∧ mBits T s (tN T) r.1) := by
      intro hm
      unfold X0_meetings_99
      refine ok_bv ?_
      rw [ni_succ]
      refine hk x (fun k hk => ?_)
      rw [hI k hk]
      by_cases z : k = i
      · subst z
        by_cases y : 6 ≤ k
        · omega
        · simp [hm, y]
      · by_cases y : k - 6 = i
        · have e1 : decide (k < i + 1) = decide (k < i) := by rw [decide_eq_decide]; omega
          rw [e1, y, hm]
          simp
        · have e1 : decide (k < i + 1) = decide (k < i) := by rw [decide_eq_decide]; omega
          have e2 : decide (k - 6 < i + 1) = decide (k - 6 < i) := by rw [decide_eq_decide]; omega
          rw [e1, e2]
    have hyes : mts T s i = true → Ok (X0_meetings_99 o t u (X0_meetings_5 o t u n) (x ||| ((1 <<< (nI i &&& 31)) ||| (1 <<< ((6 + nI i) &&& 31)))) (nI i) σ) (fun r => r.2 = σ ∧ mBits T s (tN T) r.1) := by
      intro hm
      unfold X0_meetings_99
      refine ok_bv ?_
      rw [ni_succ, show (6 : Int32) + nI i = nI (6 + i) from ni_add 6 i]
      refine hk _ (fun k hk => ?_)
      rw [tb_or, tb_or, tb_one (by omega) hk, tb_one (by omega) hk, hI k hk]
      by_cases z : k = i
      · subst z
        simp [hm]
      · by_cases y : k = 6 + i
        · subst y
          simp [hm]
        · have e1 : decide (k < i + 1) = decide (k < i) := by rw [decide_eq_decide]; omega
          have e2 : (decide (6 ≤ k) && decide (k - 6 < i + 1)) = (decide (6 ≤ k) && decide (k - 6 < i)) := by
            rw [← Bool.decide_and, ← Bool.decide_and, decide_eq_decide]
            omega
          rw [e1, e2, decide_eq_false z, decide_eq_false y]
          simp
    show Ok (X0_meetings_5 o t u (n + 1) x (nI i) σ) _
    rw [X0_meetings_5, h.1.1]
    refine ok_neg (by rw [ni_le (by omega) (by omega)]; omega) (ok_pos bi (ok_bv ?_))
    rw [ci, (h.2.1 i hi).1]
    rcases okS_aim hS hi with e | ⟨q, hq, hqi, e⟩
    · rw [e]
      exact ok_pos rfl (hno (by unfold mts; rw [e]; rfl))
    · have bq := ib_t (n := q) (k := 6) (by omega) (by omega)
      have cq := ni_cl (n := q) (by omega)
      have hm : mts T s i = (decide (s 2 q = nI i) && decide (s 1 q = s 1 i) && !rsts T (s 0 6) i && !rsts T (s 0 6) q) := by
        unfold mts
        rw [e, show ix (nI q) = q from cq, decide_eq_true (ni_ne_neg (by omega)), Bool.true_and]
      rw [e]
      refine ok_neg (ni_ne_neg (by omega)) (ok_pos bq ?_)
      rw [cq, (h.2.1 q hq).1]
      refine ok_ite (fun z1 => ok_pos bq (ok_pos bi ?_)) (fun z1 => hno (by rw [hm]; simp [z1]))
      rw [hp i hi, hp q hq]
      refine ok_ite (fun z2 => ?_) (fun z2 => hno (by rw [hm]; simp [z2]))
      rw [h.2.2.2]
      refine ok_bindE (rests_ok hT h.1 hi _) ?_
      refine ok_ite (fun z3 => ?_) (fun z3 => ?_)
      · rw [tr_ne] at z3
        refine ok_bindE (rests_ok hT h.1 hq _) ?_
        show Ok (if tr (rsts T (σ.1 u 6) q) = 0 then _ else _) _
        rw [h.2.2.2]
        refine ok_ite (fun z4 => ?_) (fun z4 => ?_)
        · rw [tr_ne] at z4
          exact ok_bv (hyes (by rw [hm, z3, z4, decide_eq_true z1, decide_eq_true z2]; rfl))
        · rw [tr_ne] at z4
          exact hno (by rw [hm]; simp [z4])
      · rw [tr_ne] at z3
        exact hno (by rw [hm]; simp [z3])
  · intro n x hI
    show Ok (X0_meetings_5 o t u (n + 1) x (nI (tN T)) σ) _
    rw [X0_meetings_5, h.1.1]
    exact ok_pos (Int32.le_refl _) (ok_some ⟨rfl, hI⟩)
theorem isMeeting_ok (x : Int32) {p : Nat} (hp : p < 6) (σ : Mem) : X0_isMeeting x (nI p) σ = some (tr (tb x (6 + p)), σ) := by
  unfold X0_isMeeting
  rw [show (6 : Int32) + nI p = nI (6 + p) from ni_add 6 p, tb_shr x (show 6 + p < 32 by omega)]
  cases tb x (6 + p) <;> rfl
theorem isWaiting_ok (x : Int32) {p : Nat} (hp : p < 6) (σ : Mem) : X0_isWaiting x (nI p) σ = some (tr (tb x p), σ) := by
  unfold X0_isWaiting
  rw [tb_shr x (show p < 32 by omega)]
  cases tb x p <;> rfl
theorem isOpenC_ok {T : Tn} {t : Nat} {σ : Mem} (hT : okT T) (h : CT T t σ) {q : Nat} (hq : q < tN T) (x : Int32) : X10_isOpen t (nI q) x σ = some (tr (opn T x q), σ) := by
  have hn := hT.1
  have bq := ib_t (n := q) (k := 6) (by omega) (by omega)
  have cq := ni_cl (n := q) (by omega)
  have hh := h.2.2.1 q hq
  unfold X10_isOpen opn
  rw [if_pos bq, if_pos bq, cq, hh.2.2.1, hh.2.1]
  by_cases z : x < tR T 2 q
  · simp [z, tr, Int32.not_le.mpr z]
  · have z2 := Int32.not_lt.mp z
    by_cases y : tR T 3 q ≤ x
    · simp [z, z2, y, tr, Int32.not_lt.mpr y]
    · simp [z, z2, y, tr, Int32.not_le.mp y]
theorem stays_ok {T : Tn} {s : St} {o t u : Nat} {σ : Mem} (hT : okT T) (hS : okS T s) (h : CR T s σ t u) {p : Nat} (hp : p < tN T) (hpl : σ.1 (u + 1) p = s 1 p) (hm : mts T s p = false) :
    Ok (X0_staysToWait o t u (nI p) σ) (fun r => r.1 = tr (wts T s p) ∧ r.2.1 (u + 1) p = plc T s p ∧ ∀ q, q ≠ p → r.2.1 (u + 1) q = σ.1 (u + 1) q) := by
  have hn := hT.1
  have bi := ib_t (n := p) (k := 6) (by omega) (by omega)
  have ci := ni_cl (n := p) (by omega)
  have hplc : plc T s p = nearF (s 1 p) (goalF T s p) := by unfold plc; rw [hm, if_neg Bool.false_ne_true]
  -- behind the goal
  have h54 : ∀ (a : Int32) (b : Int32), (b = 0 → ∃ q, q < tN T ∧ a = nI q ∧ s 2 p = a ∧ rsts T (s 0 6) p = false) → (¬ b = 0 → wts T s p = false) → Ok (X0_staysToWait_54 o t u (nI p) a b (goalF T s p) σ) (fun r => r.1 = tr (wts T s p) ∧ r.2.1 (u + 1) p = plc T s p ∧ ∀ q, q ≠ p → r.2.1 (u + 1) q = σ.1 (u + 1) q) := by
    intro a b hb0 hb1
    unfold X0_staysToWait_54
    refine ok_pos bi (ok_bv ?_)
    rw [ci, hpl]
    refine ok_ite (fun z => ?_) (fun z => ?_)
    · have hst : plc T s p = s 1 p := by rw [hplc, nearF_eq]; exact z
      refine ok_ite (fun y => ?_) (fun y => ?_)
      · obtain ⟨q, hq, ea, e2, er⟩ := hb0 y
        rw [ea, h.2.2.2, isOpenC_ok hT h.1 hq]
        refine ok_bindE rfl ?_
        have hw : wts T s p = opn T (s 0 6) q := by
          unfold wts
          rw [hm, er, e2, ea, decide_eq_true z, decide_eq_true (ni_ne_neg (by omega)), show ix (nI q) = q from ni_cl (by omega)]
          simp
        rw [hw, hst]
        refine ok_ite (fun x => ok_some ⟨?_, hpl, fun _ _ => rfl⟩) (fun x => ok_some ⟨?_, hpl, fun _ _ => rfl⟩)
        · exact x.symm
        · have : opn T (s 0 6) q = true := by rw [tr_ne] at x; simpa using x
          rw [this]
          rfl
      · refine ok_some ⟨?_, by rw [hst]; exact hpl, fun _ _ => rfl⟩
        rw [hb1 y]
        rfl
    · have hw : wts T s p = false := by
        unfold wts
        rw [hm, decide_eq_false z]
        simp
      have hset : ∀ v, v = plc T s p → Ok (X0_staysToWait_118 o t u v (nI p) σ) (fun r => r.1 = tr (wts T s p) ∧ r.2.1 (u + 1) p = plc T s p ∧ ∀ q, q ≠ p → r.2.1 (u + 1) q = σ.1 (u + 1) q) := by
        intro v hv
        unfold X0_staysToWait_118
        refine ok_pos bi (ok_bv (ok_some ?_))
        rw [ci, hw]
        refine ⟨rfl, ?_, fun q hq => ?_⟩
        · rw [sI_e, hv]
        · rw [sI_k hq]
      refine ok_ite (fun y => hset _ ?_) (fun y => hset _ ?_)
      · rw [hplc]
        unfold nearF
        have y2 : goalF T s p < s 1 p := Int32.lt_of_le_of_ne y (fun e => z e.symm)
        rw [if_neg (Int32.not_lt.mpr y), if_pos y2]
      · rw [hplc]
        unfold nearF
        rw [if_pos (Int32.not_le.mp y)]
  unfold X0_staysToWait
  refine ok_pos bi (ok_bv ?_)
  rw [ci, (h.2.1 p hp).1]
  rcases okS_aim hS hp with e | ⟨q, hq, hqi, e⟩
  · refine ok_pos e ?_
    unfold X0_staysToWait_26 X0_staysToWait_31
    refine ok_neg (by decide) (ok_pos bi ?_)
    have hg : goalF T s p = tR T 1 p := by unfold goalF; rw [if_pos (.inl e)]
    rw [ci, (h.1.2.2.1 p hp).1, ← hg]
    refine h54 _ _ (fun z => absurd z (by decide)) (fun _ => ?_)
    unfold wts
    rw [hm, e]
    simp
  · have cq := ni_cl (n := q) (by omega)
    refine ok_neg (by rw [e]; exact ni_ne_neg (by omega)) ?_
    rw [h.2.2.2]
    refine ok_bindE (rests_ok hT h.1 hp _) ?_
    refine ok_ite (fun z => ?_) (fun z => ?_)
    · rw [tr_ne] at z
      unfold X0_staysToWait_31
      refine ok_pos rfl ?_
      rw [e]
      refine ok_pos (ib_t (by omega) (by omega)) ?_
      have hg : goalF T s p = tR T 1 q := by
        unfold goalF
        rw [if_neg, e, show ix (nI q) = q from cq]
        rintro (y | y)
        · rw [e] at y; exact ni_ne_neg (by omega) y
        · rw [z] at y; cases y
      rw [cq]
      show Ok (X0_staysToWait_54 o t u (nI p) (nI q) 0 (σ.1 (t + 1) q) σ) _
      rw [(h.1.2.2.1 q hq).1, ← hg]
      exact h54 _ _ (fun _ => ⟨q, hq, rfl, e, z⟩) (fun y => absurd rfl y)
    · have z' : rsts T (s 0 6) p = true := by rw [tr_ne] at z; simpa using z
      unfold X0_staysToWait_26 X0_staysToWait_31
      refine ok_neg (by decide) (ok_pos bi ?_)
      have hg : goalF T s p = tR T 1 p := by unfold goalF; rw [if_pos (.inr z')]
      rw [ci]
      show Ok (X0_staysToWait_54 o t u (nI p) (s 2 p) 1 (σ.1 (t + 1) p) σ) _
      rw [(h.1.2.2.1 p hp).1, ← hg]
      refine h54 _ _ (fun y => absurd y (by decide)) (fun _ => ?_)
      unfold wts
      rw [hm, z']
      simp
