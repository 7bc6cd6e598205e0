/-! the class's formulas -/
def unsg (s : Int32) : Int32 := if s = 38 then 114 else if s = 124 then 113 else s
def encR (op a : Int32) (c : Int32 × Int32) : Prop := (c.1 = 0 ∧ op = 2 ∧ a = c.2) ∨ (c.1 = 1 ∧ op = 116 ∧ a = c.2) ∨ (c.1 = 2 ∧ op = 115) ∨ (c.1 = 3 ∧ op = unsg c.2)
/-- the class's formula at cell f holds pr -/
def FC (pr : Pg) (σ : Mem) (f : Nat) : Prop := σ.1 f 4 = nI pr.length ∧ ∀ i (h : i < pr.length), encR (σ.1 (f + 1) i) (σ.1 (f + 2) i) pr[i]
theorem value_bin {o a al : Nat} {σ : Mem} {s : Int32} {n k i : Nat} {x y : Int32} {Q : Int32 × Mem → Prop}
    (hs : s = 43 ∨ s = 45 ∨ s = 42 ∨ s = 47 ∨ s = 37 ∨ s = 60 ∨ s = 62 ∨ s = 61 ∨ s = 38 ∨ s = 124) (hk : k ≤ 29) (hx : σ.1 (o + 3) (k + 1) = x) (hy : σ.1 (o + 3) (k + 2) = y)
    (h : Ok (X2_value_4 o a al n (nI (k + 1)) (nI i + 1) (sI σ (o + 3) (k + 1) (doF s x y))) Q) : Ok (X2_value_49 o a al (X2_value_4 o a al n) (nI (k + 1)) (nI i) (unsg s) σ) Q := by
  have b1 : ib (nI (k + 1)) 32 = true := ib_t (by omega) (by omega)
  have b2 : ib (nI (k + 2)) 32 = true := ib_t (by omega) (by omega)
  have c1 : (nI (k + 1)).toNatClampNeg = k + 1 := ni_cl (by omega)
  have c2 : (nI (k + 2)).toNatClampNeg = k + 2 := ni_cl (by omega)
  have g1 : ¬ nI (k + 1) < 1 := by
    rw [show (1 : Int32) = nI 1 from rfl, ni_lt (by omega) (by omega)]
    omega
  have g2 : nI (k + 1) ≤ 30 := by
    rw [show (30 : Int32) = nI 30 from rfl, ni_le (by omega) (by omega)]
    omega
  have e2 : nI (k + 1) + 1 = nI (k + 2) := ni_succ _
  unfold X2_value_49
  refine ok_neg g1 (ok_pos g2 (ok_pos b1 ?_))
  simp only [bv_eq, e2, c1, c2, b2, hx, hy, if_true]
  have hN : ¬ y < x → x ≤ y := fun z => Int32.not_lt.mp z
  have hM : ∀ {u v : Int32}, u ≤ v → ¬ v < u := fun z => Int32.not_lt.mpr z
  rcases hs with rfl | rfl | rfl | rfl | rfl | rfl | rfl | rfl | rfl | rfl
  all_goals simp [unsg, X2_value_448, X2_value_442, X2_value_419, X2_value_312, X2_value_354, X2_value_333, X2_value_291, X2_value_286, X2_value_266, X2_value_267, bv_eq, b1, c1]
  all_goals simp [doF, tr] at h
  all_goals (repeat' split)
  all_goals (try simp_all)
  all_goals (first | (rename_i q; rw [if_neg (Int32.not_lt.mpr q)] at h; exact h) | (rename_i q; rw [if_pos (Int32.not_le.mp q)] at h; exact h) | skip)
theorem value_num {o a al : Nat} {σ : Mem} {n k i : Nat} {v : Int32} {Q : Int32 × Mem → Prop} (hk : k ≤ 29) (hi : i < 270) (hv : σ.1 (o + 2) i = v)
    (h : Ok (X2_value_4 o a al n (nI (k + 1)) (nI i + 1) (sI σ (o + 3) (k + 1) v)) Q) : Ok (X2_value_33 o a al (X2_value_49 o a al (X2_value_4 o a al n)) (nI k) (nI i) 2 σ) Q := by
  have b1 : ib (nI (k + 1)) 32 = true := ib_t (by omega) (by omega)
  have b2 : ib (nI (k + 1 + 1)) 32 = true := ib_t (by omega) (by omega)
  have b3 : ib (nI i) 270 = true := ib_t (by omega) (by omega)
  have c1 : (nI (k + 1)).toNatClampNeg = k + 1 := ni_cl (by omega)
  have c3 : (nI i).toNatClampNeg = i := ni_cl (by omega)
  have g1 : ¬ nI (k + 1) < 1 := by
    rw [show (1 : Int32) = nI 1 from rfl, ni_lt (by omega) (by omega)]
    omega
  have g2 : nI (k + 1) ≤ 30 := by
    rw [show (30 : Int32) = nI 30 from rfl, ni_le (by omega) (by omega)]
    omega
  unfold X2_value_33 X2_value_49
  refine ok_bv ?_
  rw [ni_succ]
  refine ok_neg g1 (ok_pos g2 (ok_pos b1 (ok_bv ?_)))
  rw [ni_succ]
  refine ok_pos b2 (ok_bv (ok_pos rfl (ok_pos b3 (ok_pos b1 (ok_bv ?_)))))
  rw [c1, c3, hv]
  exact h
theorem value_ask {o a al : Nat} {σ : Mem} {n k i q : Nat} {v : Int32} {Q : Int32 × Mem → Prop} (hk : k ≤ 29) (hi : i < 270) (hv : σ.1 (o + 2) i = nI q) (hq : q < al) (hal : al < 100) (hg : σ.1 a q = v)
    (h : Ok (X2_value_4 o a al n (nI (k + 1)) (nI i + 1) (sI σ (o + 3) (k + 1) v)) Q) : Ok (X2_value_33 o a al (X2_value_49 o a al (X2_value_4 o a al n)) (nI k) (nI i) 116 σ) Q := by
  have b1 : ib (nI (k + 1)) 32 = true := ib_t (by omega) (by omega)
  have b2 : ib (nI (k + 1 + 1)) 32 = true := ib_t (by omega) (by omega)
  have b3 : ib (nI i) 270 = true := ib_t (by omega) (by omega)
  have c1 : (nI (k + 1)).toNatClampNeg = k + 1 := ni_cl (by omega)
  have c3 : (nI i).toNatClampNeg = i := ni_cl (by omega)
  have g1 : ¬ nI (k + 1) < 1 := by
    rw [show (1 : Int32) = nI 1 from rfl, ni_lt (by omega) (by omega)]
    omega
  have g2 : nI (k + 1) ≤ 30 := by
    rw [show (30 : Int32) = nI 30 from rfl, ni_le (by omega) (by omega)]
    omega
  unfold X2_value_33 X2_value_49
  refine ok_bv ?_
  rw [ni_succ]
  refine ok_neg g1 (ok_pos g2 (ok_pos b1 (ok_bv ?_)))
  rw [ni_succ]
  refine ok_pos b2 (ok_bv ?_)
  iterate 12 refine ok_neg (by decide) ?_
  refine ok_pos rfl (ok_pos b3 ?_)
  rw [c3, hv]
  refine ok_pos (ib_t hq (by omega)) (ok_pos b1 (ok_bv ?_))
  rw [c1, ni_cl (by omega), hg]
  exact h
theorem value_not {o a al : Nat} {σ : Mem} {n k i : Nat} {x : Int32} {Q : Int32 × Mem → Prop} (hk : k ≤ 29) (hx : σ.1 (o + 3) (k + 1) = x)
    (h : Ok (X2_value_4 o a al n (nI (k + 1)) (nI i + 1) (sI σ (o + 3) (k + 1) (tr (decide (x = 0))))) Q) : Ok (X2_value_49 o a al (X2_value_4 o a al n) (nI (k + 1)) (nI i) 115 σ) Q := by
  have b1 : ib (nI (k + 1)) 32 = true := ib_t (by omega) (by omega)
  have b2 : ib (nI (k + 1 + 1)) 32 = true := ib_t (by omega) (by omega)
  have c1 : (nI (k + 1)).toNatClampNeg = k + 1 := ni_cl (by omega)
  have g1 : ¬ nI (k + 1) < 1 := by
    rw [show (1 : Int32) = nI 1 from rfl, ni_lt (by omega) (by omega)]
    omega
  have g2 : nI (k + 1) ≤ 30 := by
    rw [show (30 : Int32) = nI 30 from rfl, ni_le (by omega) (by omega)]
    omega
  unfold X2_value_49
  refine ok_neg g1 (ok_pos g2 (ok_pos b1 (ok_bv ?_)))
  rw [ni_succ]
  refine ok_pos b2 (ok_bv ?_)
  iterate 11 refine ok_neg (by decide) ?_
  refine ok_pos rfl ?_
  rw [c1, hx]
  refine ok_ite (fun z => ?_) (fun z => ?_)
  · rw [decide_eq_true z] at h
    refine ok_pos b1 (ok_bv (ok_bv ?_))
    rw [c1]
    exact h
  · rw [decide_eq_false z] at h
    refine ok_pos b1 (ok_bv (ok_bv ?_))
    rw [c1]
    exact h
theorem value_ok {pr : Pg} {σ0 : Mem} {o a : Nat} {g : Nat → Int32} (hw : wf pr 0) (hd : dpE pr 0 = 1) (hl : pr.length ≤ 270) (hF : FC pr σ0 o) (ha : a ≠ o + 3) (hg : ∀ k, k < 7 → σ0.1 a k = g k) :
    Ok (X2_value o a 7 σ0) (fun r => r.1 = ev pr g) := by
  unfold X2_value
  refine ok_bv (ok_bv ?_)
  suffices H : ∀ (k n i : Nat) (st : List Int32) (σ : Mem), i + k = pr.length → k < n → st = evL (pr.take i) g [] → VS 1 st (σ.1 (o + 3)) → (∀ b, b ≠ o + 3 → σ.1 b = σ0.1 b) →
      Ok (X2_value_4 o a 7 n (nI st.length) (nI i) σ) (fun r => r.1 = ev pr g) by
    exact H pr.length fu 0 [] σ0 (by omega) (by unfold fu; omega) rfl trivial (fun _ _ => rfl)
  intro k
  induction k with
  | zero =>
    intro n i st σ hi hn hst hv hσ
    obtain ⟨n, rfl⟩ : ∃ m, n = m + 1 := ⟨n - 1, by omega⟩
    have hil : i = pr.length := by omega
    have hlen := evL_len g hw pr.length (Nat.le_refl _)
    rw [hil, List.take_length] at hst
    rw [List.take_length, hd, ← hst] at hlen
    rw [X2_value_4, hσ o (by omega), hF.1, hil, hlen]
    refine ok_pos (Int32.le_refl _) (ok_pos (ib_t (by omega) (by omega)) (ok_some ?_))
    show σ.1 (o + 3) 1 = ev pr g
    unfold ev
    rw [← hst]
    match st, hlen with
    | [x], _ => exact hv.1
  | succ k ih =>
    intro n i st σ hi hn hst hv hσ
    obtain ⟨n, rfl⟩ : ∃ m, n = m + 1 := ⟨n - 1, by omega⟩
    have hil : i < pr.length := by omega
    have hc := wf_at pr 0 i hil hw
    have hlen := evL_len g hw i (by omega)
    rw [← hlen, ← hst] at hc
    have hnx := evL_take pr g [] i hil
    rw [← hst] at hnx
    have hF2 := hF.2 i hil
    rw [← hσ (o + 1) (by omega), ← hσ (o + 2) (by omega)] at hF2
    rw [X2_value_4, hσ o (by omega), hF.1]
    refine ok_neg (by rw [ni_le (by omega) (by omega)]; omega) (ok_pos (ib_t (by omega) (by omega)) ?_)
    have hib : ib (nI i) 270 = true := ib_t (by omega) (by omega)
    have hcl : (nI i).toNatClampNeg = i := ni_cl (by omega)
    rw [hcl]
    refine ok_bv ?_
    generalize pr[i] = c at *
    have hnext : ∀ (st' : List Int32) (σ' : Mem), st' = ev1 c g st → VS 1 st' (σ'.1 (o + 3)) → (∀ b, b ≠ o + 3 → σ'.1 b = σ.1 b) → Ok (X2_value_4 o a 7 n (nI st'.length) (nI i + 1) σ') (fun r => r.1 = ev pr g) := by
      intro st' σ' h1 h2 h3
      rw [ni_succ]
      exact ih n (i + 1) st' σ' (by omega) (by omega) (by rw [h1, hnx]) h2 (fun b hb => (h3 b hb).trans (hσ b hb))
    have hpush : ∀ v, st.length + 1 ≤ 30 → ev1 c g st = v :: st → Ok (X2_value_4 o a 7 n (nI (st.length + 1)) (nI i + 1) (sI σ (o + 3) (st.length + 1) v)) (fun r => r.1 = ev pr g) := by
      intro v _ hv'
      refine hnext (v :: st) _ hv'.symm ⟨?_, VS_congr (fun j h1 h2 => ?_) hv⟩ (fun b hb => ?_)
      · rw [Nat.add_comm 1, sI_e]
      · rw [sI_k (by omega)]
      · funext j
        rw [sI_n hb]
    have hdp := hc.2.2.2
    unfold dp1 at hdp
    rcases hF2 with ⟨hz, ho, hv2⟩ | ⟨hz, ho, hv2⟩ | ⟨hz, ho⟩ | ⟨hz, ho⟩
    · rw [if_pos (.inl hz)] at hdp
      have := hpush c.2 hdp (by unfold ev1; rw [if_pos hz])
      rw [ho, if_pos rfl]
      exact value_num (by omega) (by omega) hv2 this
    · rw [if_pos (.inr hz)] at hdp
      have hc7 : ∃ q, q < 7 ∧ c.2 = nI q := by
        rcases hc.1 with h | h | h | h
        · rw [hz] at h; exact absurd h (by decide)
        · obtain ⟨q, hq, e⟩ := ni_of h.2.1
          refine ⟨q, ?_, e⟩
          have := h.2.2
          rw [e, show (6 : Int32) = nI 6 from rfl, ni_le hq (by omega)] at this
          omega
        · rw [hz] at h; exact absurd h.1 (by decide)
        · rw [hz] at h; exact absurd h.1 (by decide)
      obtain ⟨q, hq, hqe⟩ := hc7
      have := hpush (g q) hdp (by unfold ev1; rw [if_neg (by rw [hz]; decide), if_pos hz, hqe]; unfold ix; rw [ni_cl (by omega)])
      have e1 : σ.1 a q = g q := by rw [hσ a ha]; exact hg q hq
      rw [ho, if_neg (by decide), if_pos rfl]
      exact value_ask (by omega) (by omega) (hv2.trans hqe) hq (by omega) e1 this
    · have h1 := hc.2.1 hz
      rw [if_neg (by rw [hz]; decide), if_pos hz] at hdp
      match st, hv, h1, hnext, hdp with
      | x :: st, hv, h1, hnext, hdp =>
        simp only [List.length_cons] at hdp ⊢
        have hx : σ.1 (o + 3) (st.length + 1) = x := by have := hv.1; rwa [Nat.add_comm 1] at this
        have := hnext (tr (decide (x = 0)) :: st) (sI σ (o + 3) (st.length + 1) (tr (decide (x = 0)))) (by unfold ev1; rw [if_neg (by rw [hz]; decide), if_neg (by rw [hz]; decide), if_pos hz]; rfl) ⟨by rw [Nat.add_comm 1, sI_e], VS_congr (fun j h1 h2 => by rw [sI_k (by omega)]) hv.2⟩ (fun b hb => by funext j; rw [sI_n hb])
        simp only [List.length_cons] at this
        rw [ho, if_neg (by decide), if_neg (by decide), if_pos rfl]
        exact value_not (by omega) hx this
    · have h1 := hc.2.2.1 hz
      have hc10 : c.2 = 43 ∨ c.2 = 45 ∨ c.2 = 42 ∨ c.2 = 47 ∨ c.2 = 37 ∨ c.2 = 60 ∨ c.2 = 62 ∨ c.2 = 61 ∨ c.2 = 38 ∨ c.2 = 124 := by
        rcases hc.1 with h | h | h | h
        · rw [hz] at h; exact absurd h (by decide)
        · rw [hz] at h; exact absurd h.1 (by decide)
        · rw [hz] at h; exact absurd h.1 (by decide)
        · exact h.2
      rw [if_neg (by rw [hz]; decide), if_neg (by rw [hz]; decide)] at hdp
      have hu : unsg c.2 ≠ 2 ∧ unsg c.2 ≠ 116 ∧ unsg c.2 ≠ 115 := by
        rcases hc10 with e | e | e | e | e | e | e | e | e | e <;> rw [e] <;> decide
      match st, hv, h1, hnext, hdp with
      | y :: x :: st, hv, h1, hnext, hdp =>
        simp only [List.length_cons] at hdp ⊢
        have hy : σ.1 (o + 3) (st.length + 2) = y := by have := hv.1; rwa [Nat.add_comm 1] at this
        have hx : σ.1 (o + 3) (st.length + 1) = x := by have := hv.2.1; rwa [Nat.add_comm 1] at this
        have := hnext (doF c.2 x y :: st) (sI σ (o + 3) (st.length + 1) (doF c.2 x y)) (by unfold ev1; rw [if_neg (by rw [hz]; decide), if_neg (by rw [hz]; decide), if_neg (by rw [hz]; decide)]; rfl) ⟨by rw [Nat.add_comm 1, sI_e], VS_congr (fun j h1 h2 => by rw [sI_k (by omega)]) hv.2.2⟩ (fun b hb => by funext j; rw [sI_n hb])
        simp only [List.length_cons] at this
        rw [ho, if_neg hu.1, if_neg hu.2.1, if_neg hu.2.2]
        refine ok_bv ?_
        rw [ni_pred']
        exact value_bin hc10 (by omega) hx hy this
