/-! formulas worked out, on both sides -/
def VS (c : Nat) : List Int32 → (Nat → Int32) → Prop
  | [], _ => True
  | x :: st, f => f (c + st.length) = x ∧ VS c st f
theorem VS_congr {c : Nat} : ∀ {st : List Int32} {f g : Nat → Int32}, (∀ j, c ≤ j → j < c + st.length → g j = f j) → VS c st f → VS c st g
  | [], _, _, _, _ => trivial
  | x :: st, f, g, h, hv => by
    refine ⟨?_, VS_congr (fun j h1 h2 => h j h1 (by simp only [List.length_cons]; omega)) hv.2⟩
    rw [h (c + st.length) (by omega) (by simp only [List.length_cons]; omega)]
    exact hv.1
theorem evL_nil (g : Nat → Int32) (st : List Int32) : evL [] g st = st := rfl
theorem evL_cons (c : Int32 × Int32) (pr : Pg) (g : Nat → Int32) (st : List Int32) : evL (c :: pr) g st = evL pr g (ev1 c g st) := rfl
theorem evL_take (pr : Pg) (g : Nat → Int32) (st : List Int32) (i : Nat) (hi : i < pr.length) : evL (pr.take (i + 1)) g st = ev1 pr[i] g (evL (pr.take i) g st) := by
  rw [List.take_succ_eq_append_getElem hi]
  unfold evL
  rw [List.foldl_append]
  rfl
theorem dpE_take (pr : Pg) (d i : Nat) (hi : i < pr.length) : dpE (pr.take (i + 1)) d = dp1 pr[i] (dpE (pr.take i) d) := by
  rw [List.take_succ_eq_append_getElem hi]
  unfold dpE
  rw [List.foldl_append]
  rfl
theorem wf_at : ∀ (pr : Pg) (d i : Nat) (hi : i < pr.length), wf pr d → okC pr[i] ∧ (pr[i].1 = 2 → 1 ≤ dpE (pr.take i) d) ∧ (pr[i].1 = 3 → 2 ≤ dpE (pr.take i) d) ∧ dp1 pr[i] (dpE (pr.take i) d) ≤ 30
  | [], _, _, hi, _ => by simp at hi
  | c :: r, d, 0, _, h => ⟨h.1, h.2.1, h.2.2.1, h.2.2.2.1⟩
  | c :: r, d, i + 1, hi, h => by
    have := wf_at r (dp1 c d) i (by simpa using hi) h.2.2.2.2
    simpa [dpE] using this
theorem okC_cases {c : Int32 × Int32} (h : okC c) : c.1 = 0 ∨ c.1 = 1 ∨ c.1 = 2 ∨ c.1 = 3 := by
  rcases h with h | h | h | h
  · exact .inl h
  · exact .inr (.inl h.1)
  · exact .inr (.inr (.inl h.1))
  · exact .inr (.inr (.inr h.1))
theorem ev1_len {c : Int32 × Int32} {g : Nat → Int32} {st : List Int32} (h : okC c) (h2 : c.1 = 2 → 1 ≤ st.length) (h3 : c.1 = 3 → 2 ≤ st.length) : (ev1 c g st).length = dp1 c st.length := by
  unfold ev1 dp1
  rcases okC_cases h with e | e | e | e
  · simp [e]
  · simp [e]
  · have := h2 e
    simp [e]
    omega
  · have := h3 e
    simp [e]
    omega
theorem evL_len {pr : Pg} (g : Nat → Int32) (hw : wf pr 0) : ∀ i, i ≤ pr.length → (evL (pr.take i) g []).length = dpE (pr.take i) 0
  | 0, _ => rfl
  | i + 1, hi => by
    have ih := evL_len g hw i (by omega)
    have hc := wf_at pr 0 i (by omega) hw
    rw [evL_take pr g [] i (by omega), dpE_take pr 0 i (by omega), ← ih]
    rw [← ih] at hc
    exact ev1_len hc.1 hc.2.1 hc.2.2.1
/-- the reference's rows of formula w hold pr -/
def FM (pr : Pg) (ρ : Mem) (w : Nat) : Prop := ρ.1 1008 w = nI pr.length ∧ ∀ i (h : i < pr.length), ρ.1 1006 (320 * w + i) = pr[i].1 ∧ ρ.1 1007 (320 * w + i) = pr[i].2
theorem done_ok (s x y : Int32) (ρ : Mem) (h : s = 43 ∨ s = 45 ∨ s = 42 ∨ s = 47 ∨ s = 37 ∨ s = 60 ∨ s = 62 ∨ s = 61 ∨ s = 38 ∨ s = 124) : X12_done s x y ρ = some (doF s x y, ρ) := by
  unfold X12_done X12_done_166 X12_done_194 X12_done_180 X12_done_210 X12_done_211 X12_done_223 X12_done_228 X12_truth doF tr
  rcases h with rfl | rfl | rfl | rfl | rfl | rfl | rfl | rfl | rfl | rfl
  all_goals simp
  all_goals (repeat' split) <;> simp_all
  all_goals (rename_i h1 h2; exact absurd h2 (Int32.not_lt.mpr h1))
theorem worked_ok {pr : Pg} {ρ : Mem} {w : Nat} {g : Nat → Int32} (hw : wf pr 0) (hd : dpE pr 0 = 1) (hl : pr.length ≤ 320) (hF : FM pr ρ w) (hw3 : w < 3) (hg : ∀ k, k < 7 → ρ.1 1011 k = g k) :
    Ok (X12_worked (nI w) ρ) (fun r => r.1 = ev pr g) := by
  unfold X12_worked
  refine ok_bv (ok_bv ?_)
  rw [show (320 * nI w : Int32) = nI (320 * w) from ni_mul 320 w]
  suffices H : ∀ (k n i : Nat) (st : List Int32) (σ : Mem), i + k = pr.length → k < n → st = evL (pr.take i) g [] → VS 0 st (σ.1 1010) → (∀ a, a ≠ 1010 → σ.1 a = ρ.1 a) →
      Ok (X12_worked_8 n (nI w) (nI st.length) (nI (320 * w + i)) σ) (fun r => r.1 = ev pr g) by
    exact H pr.length fu 0 [] ρ (by omega) (by unfold fu; omega) rfl trivial (fun _ _ => rfl)
  intro k
  induction k with
  | zero =>
    intro n i st σ hi hn hst hv hσ
    obtain ⟨n, rfl⟩ : ∃ m, n = m + 1 := ⟨n - 1, by omega⟩
    have hil : i = pr.length := by omega
    have hlen := evL_len g hw pr.length (Nat.le_refl _)
    rw [hil, List.take_length] at hst
    rw [List.take_length, hd, ← hst] at hlen
    rw [X12_worked_8]
    refine ok_pos (ib_t hw3 (by omega)) ?_
    rw [ni_cl (by omega), hσ 1008 (by decide), hF.1]
    rw [show (320 * nI w + nI pr.length : Int32) = nI (320 * w + pr.length) by rw [show (320 : Int32) = nI 320 from rfl, ni_mul, ni_add]]
    refine ok_pos (by rw [hil]; exact Int32.le_refl _) (ok_some ?_)
    show σ.1 1010 0 = ev pr g
    unfold ev
    rw [← hst]
    match st, hlen with
    | [x], _ => exact hv.1
  | succ k ih =>
    intro n i st σ hi hn hst hv hσ
    obtain ⟨n, rfl⟩ : ∃ m, n = m + 1 := ⟨n - 1, by omega⟩
    have hil : i < pr.length := by omega
    have hc := wf_at pr 0 i hil hw
    have hlen := evL_len g hw i (by omega)
    rw [← hlen, ← hst] at hc
    have hnx := evL_take pr g [] i hil
    rw [← hst] at hnx
    have hF2 := hF.2 i hil
    have e6 : σ.1 1006 (320 * w + i) = pr[i].1 := by rw [hσ 1006 (by decide)]; exact hF2.1
    have e7 : σ.1 1007 (320 * w + i) = pr[i].2 := by rw [hσ 1007 (by decide)]; exact hF2.2
    rw [X12_worked_8]
    refine ok_pos (ib_t hw3 (by omega)) ?_
    rw [ni_cl (by omega), hσ 1008 (by decide), hF.1]
    rw [show (320 * nI w + nI pr.length : Int32) = nI (320 * w + pr.length) by rw [show (320 : Int32) = nI 320 from rfl, ni_mul, ni_add]]
    refine ok_neg (by rw [ni_le (by omega) (by omega)]; omega) ?_
    have hib : ib (nI (320 * w + i)) 960 = true := ib_t (by omega) (by omega)
    have hcl : (nI (320 * w + i)).toNatClampNeg = 320 * w + i := ni_cl (by omega)
    have hsl : st.length ≤ 31 := by
      have := hc.2.2.2
      unfold dp1 at this
      split at this
      · omega
      · split at this <;> omega
    generalize pr[i] = c at *
    have hs64 : ∀ m, m < 64 → ib (nI m) 64 = true := fun m h => ib_t h (by omega)
    have hclm : ∀ m, m < 64 → (nI m).toNatClampNeg = m := fun m h => ni_cl (by omega)
    have hnext : ∀ (st' : List Int32) (σ' : Mem), st' = ev1 c g st → VS 0 st' (σ'.1 1010) → (∀ a, a ≠ 1010 → σ'.1 a = σ.1 a) → Ok (X12_worked_8 n (nI w) (nI st'.length) (nI (320 * w + i) + 1) σ') (fun r => r.1 = ev pr g) := by
      intro st' σ' h1 h2 h3
      rw [ni_succ]
      exact ih n (i + 1) st' σ' (by omega) (by omega) (by rw [h1, hnx]) h2 (fun a ha => (h3 a ha).trans (hσ a ha))
    have hpush : ∀ v, ev1 c g st = v :: st → Ok (X12_worked_8 n (nI w) (nI st.length + 1) (nI (320 * w + i) + 1) (sI σ 1010 st.length v)) (fun r => r.1 = ev pr g) := by
      intro v hv'
      rw [ni_succ]
      refine hnext (v :: st) _ hv'.symm ⟨?_, VS_congr (fun j h1 h2 => ?_) hv⟩ (fun a ha => ?_)
      · rw [Nat.zero_add, sI_e]
      · rw [sI_k (by omega)]
      · funext b
        rw [sI_n ha]
    rcases okC_cases hc.1 with hz | hz | hz | hz
    · have e0 : σ.1 1006 (320 * w + i) = 0 := e6.trans hz
      have := hpush c.2 (by unfold ev1; rw [if_pos hz])
      simp [X12_worked_43, X12_worked_77, X12_worked_158, bv_eq, hib, hcl, e0, e7, hs64 st.length (by omega), hclm st.length (by omega)]
      exact this
    · have e0 : σ.1 1006 (320 * w + i) = 1 := e6.trans hz
      have hc7 : ∃ q, q < 7 ∧ c.2 = nI q := by
        rcases hc.1 with h | h | h | h
        · rw [hz] at h; exact absurd h (by decide)
        · obtain ⟨q, hq, e⟩ := ni_of h.2.1
          refine ⟨q, ?_, e⟩
          have := h.2.2
          rw [e, show (6 : Int32) = nI 6 from rfl, ni_le hq (by omega)] at this
          omega
        · rw [hz] at h; exact absurd h.1 (by decide)
        · rw [hz] at h; exact absurd h.1 (by decide)
      obtain ⟨q, hq, hqe⟩ := hc7
      have := hpush (g q) (by unfold ev1; rw [if_neg (by rw [hz]; decide), if_pos hz, hqe]; unfold ix; rw [ni_cl (by omega)])
      have e1 : σ.1 1011 q = g q := by rw [hσ 1011 (by decide)]; exact hg q hq
      simp [X12_worked_43, X12_worked_77, X12_worked_158, bv_eq, hib, hcl, e0, e7, hqe, ib_t hq, ni_cl (show q < 2147483648 by omega), e1, hs64 st.length (by omega), hclm st.length (by omega)]
      exact this
    · have e0 : σ.1 1006 (320 * w + i) = 2 := e6.trans hz
      have h1 := hc.2.1 hz
      match st, hv, h1, hnext, hs64, hclm, hsl with
      | x :: st, hv, h1, hnext, hs64, hclm, hsl =>
        have hx : σ.1 1010 st.length = x := by have := hv.1; rwa [Nat.zero_add] at this
        have := hnext (tr (decide (x = 0)) :: st) (sI σ 1010 st.length (tr (decide (x = 0)))) (by unfold ev1; rw [if_neg (by rw [hz]; decide), if_neg (by rw [hz]; decide), if_pos hz]; rfl) ⟨by rw [Nat.zero_add, sI_e], VS_congr (fun j h1 h2 => by rw [sI_k (by omega)]) hv.2⟩ (fun a ha => by funext b; rw [sI_n ha])
        have hl' : st.length ≤ 30 := by simp only [List.length_cons] at hsl; omega
        simp only [List.length_cons] at this
        by_cases hx0 : x = 0
        · simp [tr, hx0] at this
          simp [X12_worked_117, X12_truth, X12_worked_158, bv_eq, hib, hcl, e0, ni_pred, hs64 st.length (by omega), hclm st.length (by omega), hx, hx0]
          exact this
        · simp [tr, hx0] at this
          simp [X12_worked_117, X12_truth, X12_worked_158, bv_eq, hib, hcl, e0, ni_pred, hs64 st.length (by omega), hclm st.length (by omega), hx, hx0]
          exact this
    · have e0 : σ.1 1006 (320 * w + i) = 3 := e6.trans hz
      have h1 := hc.2.2.1 hz
      have hc10 : c.2 = 43 ∨ c.2 = 45 ∨ c.2 = 42 ∨ c.2 = 47 ∨ c.2 = 37 ∨ c.2 = 60 ∨ c.2 = 62 ∨ c.2 = 61 ∨ c.2 = 38 ∨ c.2 = 124 := by
        rcases hc.1 with h | h | h | h
        · rw [hz] at h; exact absurd h (by decide)
        · rw [hz] at h; exact absurd h.1 (by decide)
        · rw [hz] at h; exact absurd h.1 (by decide)
        · exact h.2
      match st, hv, h1, hnext, hs64, hclm, hsl with
      | y :: x :: st, hv, h1, hnext, hs64, hclm, hsl =>
        have hy : σ.1 1010 (st.length + 1) = y := by have := hv.1; rwa [Nat.zero_add] at this
        have hx : σ.1 1010 st.length = x := by have := hv.2.1; rwa [Nat.zero_add] at this
        have hl' : st.length ≤ 29 := by simp only [List.length_cons] at hsl; omega
        have hd := done_ok c.2 x y σ hc10
        have := hnext (doF c.2 x y :: st) (sI σ 1010 st.length (doF c.2 x y)) (by unfold ev1; rw [if_neg (by rw [hz]; decide), if_neg (by rw [hz]; decide), if_neg (by rw [hz]; decide)]; rfl) ⟨by rw [Nat.zero_add, sI_e], VS_congr (fun j h1 h2 => by rw [sI_k (by omega)]) hv.2.2⟩ (fun a ha => by funext b; rw [sI_n ha])
        simp only [List.length_cons] at this
        simp [X12_worked_158, bv_eq, hib, hcl, e0, e7, ni_pred, ni_pred', hs64 st.length (by omega), hclm st.length (by omega), hs64 (st.length + 1) (by omega), hclm (st.length + 1) (by omega), hx, hy, hd]
        exact this
