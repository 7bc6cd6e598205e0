/-! sum, wet, hide -/
def sumN (f : Nat → Int32) : Nat → Int32
  | 0 => 0
  | n + 1 => sumN f n + f n
theorem sumN_ext {f : Nat → Int32} {n : Nat} : ∀ k, (∀ q, n ≤ q → f q = 0) → sumN f (n + k) = sumN f n
  | 0, _ => rfl
  | k + 1, h => by
    show sumN f (n + k) + f (n + k) = _
    rw [h (n + k) (by omega), Int32.add_zero]
    exact sumN_ext k h
theorem sumN_congr {f g : Nat → Int32} : ∀ n, (∀ q, q < n → f q = g q) → sumN f n = sumN g n
  | 0, _ => rfl
  | n + 1, h => by
    show sumN f n + f n = sumN g n + g n
    rw [h n (by omega), sumN_congr n (fun q hq => h q (by omega))]
/-- what all owe p, what p owes all -/
def toF (s : St) (p : Nat) : Int32 := sumN (fun q => s 5 (6 * q + p)) 6
def byF (s : St) (p : Nat) : Int32 := sumN (fun q => s 5 (6 * p + q)) 6
theorem sum6 {f : Nat → Int32} {n : Nat} (hn : n ≤ 6) (h : ∀ q, n ≤ q → q < 6 → f q = 0) : sumN f 6 = sumN f n := by
  have e1 : sumN f 6 = sumN (fun q => if q < 6 then f q else 0) 6 := sumN_congr 6 (fun q hq => by simp [hq])
  have e2 : sumN f n = sumN (fun q => if q < 6 then f q else 0) n := sumN_congr n (fun q hq => by simp [show q < 6 by omega])
  rw [e1, e2]
  have := sumN_ext (f := fun q => if q < 6 then f q else 0) (n := n) (6 - n) (fun q hq => by
    by_cases z : q < 6
    · simp [z]
      exact h q hq z
    · simp [z])
  rwa [show n + (6 - n) = 6 by omega] at this
theorem toF_n {T : Tn} {s : St} (hT : okT T) (hS : okS T s) {p : Nat} (hp : p < 6) : toF s p = sumN (fun q => s 5 (6 * q + p)) (tN T) := sum6 hT.1 (fun q h1 h2 => (hS.2.1 q p h2 hp).2 (.inl h1))
theorem byF_n {T : Tn} {s : St} (hT : okT T) (hS : okS T s) {p : Nat} (hp : p < 6) : byF s p = sumN (fun q => s 5 (6 * p + q)) (tN T) := sum6 hT.1 (fun q h1 h2 => (hS.2.1 p q hp h2).2 (.inr (.inl h1)))
theorem owedTo_ok {s : St} {σ : Mem} {u p : Nat} (hp : p < 6) (h : ∀ k, k < 36 → σ.1 (u + 5) k = s 5 k) : Ok (X7_owedTo u (nI p) σ) (fun r => r = (toF s p, σ)) := by
  unfold X7_owedTo
  refine ok_bv (ok_bv ?_)
  refine ok_loop0 (F := fun n i (x : Int32) => X7_owedTo_4 u n (nI p) x i σ) (N := 6) (I := fun i x => x = sumN (fun q => s 5 (6 * q + p)) i) 0 0 (by omega) (by omega) rfl ?_ ?_
  · intro n i x hi hx hk
    show Ok (X7_owedTo_4 u (n + 1) (nI p) x (nI i) σ) _
    rw [X7_owedTo_4]
    refine ok_neg (by rw [show (6 : Int32) = nI 6 from rfl, ni_le (by omega) (by omega)]; omega) ?_
    refine ok_bindE (cell_ok σ) (ok_pos (ib_t (by omega) (by omega)) (ok_bv (ok_bv ?_)))
    rw [ni_succ, ni_cl (by omega)]
    refine hk _ ?_
    show x + σ.1 (u + 5) (6 * i + p) = _
    rw [hx, h _ (by omega)]
    rfl
  · intro n x hx
    show Ok (X7_owedTo_4 u (n + 1) (nI p) x (nI 6) σ) _
    rw [X7_owedTo_4]
    refine ok_pos (Int32.le_refl _) (ok_some ?_)
    rw [hx]
    rfl
theorem owedByC_ok {s : St} {σ : Mem} {u p : Nat} (hp : p < 6) (h : ∀ k, k < 36 → σ.1 (u + 5) k = s 5 k) : Ok (X7_owedBy u (nI p) σ) (fun r => r = (byF s p, σ)) := by
  unfold X7_owedBy
  refine ok_bv (ok_bv ?_)
  refine ok_loop0 (F := fun n i (x : Int32) => X7_owedBy_4 u n (nI p) x i σ) (N := 6) (I := fun i x => x = sumN (fun q => s 5 (6 * p + q)) i) 0 0 (by omega) (by omega) rfl ?_ ?_
  · intro n i x hi hx hk
    show Ok (X7_owedBy_4 u (n + 1) (nI p) x (nI i) σ) _
    rw [X7_owedBy_4]
    refine ok_neg (by rw [show (6 : Int32) = nI 6 from rfl, ni_le (by omega) (by omega)]; omega) ?_
    refine ok_bindE (cell_ok σ) (ok_pos (ib_t (by omega) (by omega)) (ok_bv (ok_bv ?_)))
    rw [ni_succ, ni_cl (by omega)]
    refine hk _ ?_
    show x + σ.1 (u + 5) (6 * p + i) = _
    rw [hx, h _ (by omega)]
    rfl
  · intro n x hx
    show Ok (X7_owedBy_4 u (n + 1) (nI p) x (nI 6) σ) _
    rw [X7_owedBy_4]
    refine ok_pos (Int32.le_refl _) (ok_some ?_)
    rw [hx]
    rfl
theorem sumOf_ok {T : Tn} {s : St} {ρ : Mem} {p : Nat} {w : Int32} (hT : okT T) (hS : okS T s) (hp : p < 6) (hn : ρ.1 1000 45 = nI (tN T)) (h : ∀ k, k < 36 → ρ.1 1033 k = s 5 k) : Ok (X12_sumOf (nI p) w ρ) (fun r => r = (if w = 0 then byF s p else toF s p, ρ)) := by
  have hn6 := hT.1
  unfold X12_sumOf
  refine ok_bv (ok_bv ?_)
  refine ok_loop0 (F := fun n i (x : Int32) => X12_sumOf_5 n (nI p) w x i ρ) (N := tN T) (I := fun i x => x = sumN (fun q => if w = 0 then s 5 (6 * p + q) else s 5 (6 * q + p)) i) 0 0 (by omega) (by omega) rfl ?_ ?_
  · intro n i x hi hx hk
    show Ok (X12_sumOf_5 (n + 1) (nI p) w x (nI i) ρ) _
    rw [X12_sumOf_5, hn]
    refine ok_neg (by rw [ni_le (by omega) (by omega)]; omega) ?_
    rw [ni_cell, ni_cell]
    refine ok_ite (fun z => ok_pos (ib_t (by omega) (by omega)) (ok_bv (ok_bv ?_))) (fun z => ok_pos (ib_t (by omega) (by omega)) (ok_bv (ok_bv ?_)))
    · rw [ni_succ, ni_cl (by omega)]
      refine hk _ ?_
      show x + ρ.1 1033 (6 * p + i) = sumN _ i + (if w = 0 then s 5 (6 * p + i) else s 5 (6 * i + p))
      rw [hx, h _ (by omega), if_pos z]
    · rw [ni_succ, ni_cl (by omega)]
      refine hk _ ?_
      show x + ρ.1 1033 (6 * i + p) = sumN _ i + (if w = 0 then s 5 (6 * p + i) else s 5 (6 * i + p))
      rw [hx, h _ (by omega), if_neg z]
  · intro n x hx
    show Ok (X12_sumOf_5 (n + 1) (nI p) w x (nI (tN T)) ρ) _
    rw [X12_sumOf_5, hn]
    refine ok_pos (Int32.le_refl _) (ok_some ?_)
    rw [hx]
    by_cases z : w = 0
    · rw [if_pos z, byF_n hT hS hp]
      simp only [if_pos z]
    · rw [if_neg z, toF_n hT hS hp]
      simp only [if_neg z]
theorem s_sum (a0 a1 : Int32) (ha : a1 = 0 ∨ a1 = 1) : StpI Inv (X11_sum a0 a1) (X12_sum a0 a1) := by
  refine stpQ (fun σ => fr_X11_sum a0 a1 σ Fr.refl) (fun σ => fr_X12_sum a0 a1 σ Fr.refl) (by decide) (by decide) (fun σ ρ hI => ?_)
  obtain ⟨t, T, s, h1, h2, -, -, -, -, -, -, -⟩ := hI
  show Eq2 _ _
  have hT := h1.2.2.2.1
  have hn := hT.1
  unfold X11_sum X12_sum
  refine eq2_lbind (isPersonC_ok h1 a0) ?_
  refine eq2_rokb (load_ok hT h1.2.2.2.2.2.2.1 h2.2.2) ?_
  rintro ρ1 ⟨m1, m2⟩
  refine eq2_rbind (isPersonN_ok hn m1.1 a0) ?_
  cases hb : isP (tN T) a0 with
  | false => exact eq2_lpos rfl (eq2_rpos rfl (eq2_some rfl))
  | true =>
    obtain ⟨p, hp, rfl⟩ := isP_t hn hb
    refine eq2_lneg one_ne (eq2_rneg one_ne ?_)
    refine ⟨if a1 = 0 then byF s p else toF s p, ?_, ?_⟩
    · refine ok_ite (fun z => ?_) (fun z => ?_)
      · refine ok_bind (owedByC_ok (u := 31) (by omega) h2.2.1.2.1) ?_
        rintro _ rfl
        refine ok_some ?_
        rw [if_pos z]
      · refine ok_bind (owedTo_ok (u := 31) (by omega) h2.2.1.2.1) ?_
        rintro _ rfl
        refine ok_some ?_
        rw [if_neg z]
    · refine ok_bind (sumOf_ok (w := a1) hT h2.1.1 (by omega) m1.1 m2.2.1) ?_
      rintro _ rfl
      exact ok_some rfl
theorem sep39 {t : Nat} (ht : t = 7 ∨ t = 124) : sep 39 t 31 := by unfold sep; omega
theorem MN_MPg {T : Tn} {ρ : Mem} (h : MN T ρ) {w : Nat} (hw : w < 3) : MPg T ρ w := by
  have := h.2.2.2
  match w, hw with
  | 0, _ => exact this.1
  | 1, _ => exact this.2.1
  | 2, _ => exact this.2.2
theorem wetN_ok {T : Tn} {ρ : Mem} (hT : okT T) (hp : MPg T ρ 2) (d u : Int32) : Ok (X12_wetAt d u ρ) (fun r => r.1 = wetF T d u) := by
  unfold MPg at hp
  unfold X12_wetAt wetF
  cases e : tP T 2 with
  | none =>
    rw [e] at hp
    rw [show ρ.1 1000 54 = 0 from hp]
    exact ok_pos rfl (ok_some rfl)
  | some pr =>
    rw [e] at hp
    have hp2 := okT_P hT e
    rw [show ρ.1 1000 54 = 1 from hp.1]
    refine ok_neg (by decide) ?_
    refine ok_bind (ok_fr (noAsks_ok ρ) (fr_X12_noAsks ρ Fr.refl)) (fun ρ1 ⟨h1, f1⟩ => ?_)
    have f1 : Fr L_X12_noAsks K_X12_noAsks ρ ρ1 := f1
    refine ok_bv (ok_bv ?_)
    have f2 : Fr L_X12_noAsks K_X12_noAsks ρ (sI (sI ρ1 1011 1 d) 1011 2 u) := frI (frI f1 (.head _)) (.head _)
    have g := f2.off (A := [1006, 1007, 1008]) (B := []) (by decide)
    refine ok_bind (worked_ok (w := 2) hp2.1 hp2.2.1 (by omega) (hp.2.keep (g.1 _ (by decide)) (g.1 _ (by decide)) (g.1 _ (by decide))) (by omega) (g := asks2 d u) ?_) ?_
    · intro k hk
      unfold asks2
      rw [sI_o, sI_o]
      by_cases z1 : k = 1
      · subst z1
        rfl
      · by_cases z2 : k = 2
        · subst z2
          rfl
        · rw [if_neg z2, if_neg z1, if_neg z1, if_neg z2]
          exact h1 k hk
    · intro r hr
      rw [hr]
      refine ok_ite (fun z => ok_some ?_) (fun z => ok_some ?_)
      · exact (if_pos z).symm
      · exact (if_neg z).symm
theorem s_wet (a0 a1 : Int32) : StpI Inv (X11_wet a0 a1) (X12_wet a0 a1) := by
  refine stpQ (fun σ => fr_X11_wet a0 a1 σ Fr.refl) (fun σ => fr_X12_wet a0 a1 σ Fr.refl) (by decide) (by decide) (fun σ ρ hI => ?_)
  obtain ⟨t, T, s, h1, h2, -, -, -, -, -, -, -⟩ := hI
  show Eq2 _ _
  have hT := h1.2.2.2.1
  have h24 := hT.2.2.1
  unfold X11_wet X12_wet
  refine eq2_rbind (isIn_ok _ _ _ _) ?_
  by_cases z : a0 < 0
  · rw [decide_eq_false (Int32.not_le.mpr z)]
    exact eq2_lpos z (eq2_rpos rfl (eq2_some rfl))
  · refine eq2_lneg z ?_
    rw [decide_eq_true (Int32.not_lt.mp z)]
    by_cases y : 999 < a0
    · rw [decide_eq_false (Int32.not_le.mpr y)]
      exact eq2_lpos y (eq2_rpos rfl (eq2_some rfl))
    · refine eq2_lneg y ?_
      rw [decide_eq_true (Int32.not_lt.mp y)]
      refine eq2_rneg one_ne (eq2_rbind (isIn_ok _ _ _ _) ?_)
      rw [h1.2.1, gT_ok h1.1, gT_ok h1.1, h1.2.2.2.2.1.2.1]
      show Eq2 _ (if tr (decide (0 ≤ a1) && decide (a1 ≤ ρ.1 1000 46 - 1)) = 0 then _ else (X12_wetAt a0 a1 ρ).bind _)
      rw [h1.2.2.2.2.2.2.1.2.1]
      by_cases x : a1 < 0
      · rw [decide_eq_false (Int32.not_le.mpr x)]
        exact eq2_lpos x (eq2_rpos rfl (eq2_some rfl))
      · refine eq2_lneg x ?_
        rw [decide_eq_true (Int32.not_lt.mp x)]
        by_cases w : a1 < nI (tD T)
        · rw [decide_eq_true (Int32.not_lt.mp (fun g => Int32.not_le.mpr w ((pred_lt (by omega) a1).mp g)))]
          refine eq2_lpos w (eq2_rneg one_ne ?_)
          refine ⟨wetF T a0 a1, ?_, ?_⟩
          · exact ok_bind (wetC_ok (u := 31) hT (sep39 h1.1) h1.2.2.2.2.1 a0 a1) (fun r hr => ok_some hr)
          · exact ok_bind (wetN_ok hT (MN_MPg h1.2.2.2.2.2.2.1 (by omega)) a0 a1) (fun r hr => ok_some hr)
        · rw [decide_eq_false (fun g => Int32.not_lt.mpr g ((pred_lt (by omega) a1).mpr (Int32.not_lt.mp w)))]
          exact eq2_lneg w (eq2_rpos rfl (eq2_some rfl))
/-! hide -/
def setW (T : Tn) (p h w : Nat) : Tn := (T.1, T.2.1, (fun k j => if k = 2 ∧ j = p then nI h else if k = 3 ∧ j = p then nI (h + w) else T.2.2.1 k j), T.2.2.2)
theorem setW_ok {T : Tn} {p h w : Nat} (hT : okT T) (hp : p < tN T) (hw : 1 ≤ w) (hd : h + w ≤ tD T) : okT (setW T p h w) := by
  have h24 := hT.2.2.1
  refine ⟨hT.1, hT.2.1, hT.2.2.1, fun j hj => ?_, hT.2.2.2.2⟩
  have := hT.2.2.2.1 j hj
  refine ⟨?_, ?_⟩
  · show 0 ≤ (if 2 = 2 ∧ j = p then nI h else if 2 = 3 ∧ j = p then nI (h + w) else tR T 2 j) ∧ (if 2 = 2 ∧ j = p then nI h else if 2 = 3 ∧ j = p then nI (h + w) else tR T 2 j) < (if 3 = 2 ∧ j = p then nI h else if 3 = 3 ∧ j = p then nI (h + w) else tR T 3 j) ∧ (if 3 = 2 ∧ j = p then nI h else if 3 = 3 ∧ j = p then nI (h + w) else tR T 3 j) ≤ nI (tD T)
    by_cases z : j = p
    · simp [z]
      exact ⟨ni_nn (by omega), (ni_lt (by omega) (by omega)).mpr (by omega), (ni_le (by omega) (by omega)).mpr hd⟩
    · simp [z]
      exact this.1
  · show 0 ≤ (if 6 = 2 ∧ j = p then nI h else if 6 = 3 ∧ j = p then nI (h + w) else tR T 6 j) ∧ (if 6 = 2 ∧ j = p then nI h else if 6 = 3 ∧ j = p then nI (h + w) else tR T 6 j) ≤ 99
    simp
    exact this.2
theorem setW_CT {T : Tn} {t p h w : Nat} {a b : Int32} {σ : Mem} (h0 : CT T t (sI (sI σ (t + 2) p a) (t + 3) p b)) : CT (setW T p h w) t (sI (sI σ (t + 2) p (nI h)) (t + 3) p (nI (h + w))) := by
  have hne : ∀ c, c ≠ t + 2 → c ≠ t + 3 → (sI (sI σ (t + 2) p (nI h)) (t + 3) p (nI (h + w))).1 c = (sI (sI σ (t + 2) p a) (t + 3) p b).1 c := fun c e1 e2 => by
    funext j
    rw [sI_n e2, sI_n e1, sI_n e2, sI_n e1]
  obtain ⟨q1, q2, q3, q4, q5, q6, q7⟩ := h0
  refine ⟨by rw [hne _ (by omega) (by omega)]; exact q1, by rw [hne _ (by omega) (by omega)]; exact q2, fun j hj => ?_, q4.keep (hne _ (by omega) (by omega)) (hne _ (by omega) (by omega)) (hne _ (by omega) (by omega)), q5.keep (hne _ (by omega) (by omega)) (hne _ (by omega) (by omega)) (hne _ (by omega) (by omega)), q6.keep (hne _ (by omega) (by omega)) (hne _ (by omega) (by omega)) (hne _ (by omega) (by omega)), fun pr e => by rw [hne _ (by omega) (by omega)]; exact q7 pr e⟩
  have hh := q3 j hj
  have e2 : (sI (sI σ (t + 2) p (nI h)) (t + 3) p (nI (h + w))).1 (t + 2) j = tR (setW T p h w) 2 j := by
    rw [sI_n (by omega), sI_o]
    show _ = if 2 = 2 ∧ j = p then nI h else if 2 = 3 ∧ j = p then nI (h + w) else tR T 2 j
    by_cases z : j = p
    · simp [z]
    · have := hh.2.1
      rw [sI_n (by omega), sI_o, if_neg z] at this
      simp [z, this]
  have e3 : (sI (sI σ (t + 2) p (nI h)) (t + 3) p (nI (h + w))).1 (t + 3) j = tR (setW T p h w) 3 j := by
    rw [sI_o]
    show _ = if 3 = 2 ∧ j = p then nI h else if 3 = 3 ∧ j = p then nI (h + w) else tR T 3 j
    by_cases z : j = p
    · simp [z]
    · have := hh.2.2.1
      rw [sI_o, if_neg z, sI_n (by omega)] at this
      rw [if_neg z, sI_n (by omega), this]
      simp [z]
  rw [e2, e3, hne _ (by omega) (by omega), hne _ (by omega) (by omega), hne _ (by omega) (by omega), hne _ (by omega) (by omega)]
  exact ⟨hh.1, rfl, rfl, hh.2.2.2⟩
/-- the best way to hide: r more starts, from h on -/
def hidF (T : Tn) (s : St) (p k w : Nat) : Nat → Nat → Int32 × Int32 → Int32 × Int32
  | 0, _, a => a
  | r + 1, h, a => hidF T s p k w r (h + 1) (if a.1 < toF (hoursF (setW T p h w) k s) p then (toF (hoursF (setW T p h w) k s) p, nI h) else a)
theorem hidC_ok {T : Tn} {t p k A B : Nat} {s : St} {σ0 : Mem} (hT : okT T) (ht : t = 7 ∨ t = 124) (hS : okS T s) (hpast : (s 0 7).toInt ≤ 2000) (hp : p < tN T) (hk : k ≤ 60) (hAB : A < B) (hBd : B ≤ tD T) (hA0 : σ0.1 (t + 2) p = nI A) (hB0 : σ0.1 (t + 3) p = nI B) : ∀ (r n h : Nat) (σ : Mem) (a : Int32 × Int32), h + r = tD T - (B - A) + 1 → r < n → CT T t (sI (sI σ (t + 2) p (nI A)) (t + 3) p (nI B)) → CS T s σ 31 → (∀ j, j ≠ p → σ.1 (t + 2) j = σ0.1 (t + 2) j ∧ σ.1 (t + 3) j = σ0.1 (t + 3) j) → σ.1 43 4 = a.1 → σ.1 43 5 = a.2 → Ok (X1_findHiding_45 t 31 n (nI p) (nI k) (nI A) (nI B) (nI h) σ) (fun σ' => (σ'.1 43 4, σ'.1 43 5) = hidF T s p k (B - A) r h a ∧ σ'.1 (t + 2) = σ0.1 (t + 2) ∧ σ'.1 (t + 3) = σ0.1 (t + 3)) := by
  have hn := hT.1
  have h24 := hT.2.2.1
  have bp := ib_t (n := p) (k := 6) (by omega) (by omega)
  have cp := ni_cl (n := p) (by omega)
  intro r
  induction r with
  | zero =>
    intro n h σ a hi hnn h1 h2 h5 h3 h4
    obtain ⟨n, rfl⟩ : ∃ m, n = m + 1 := ⟨n - 1, by omega⟩
    have hd : σ.1 t 11 = nI (tD T) := by
      have := h1.2.1
      rwa [sI_n (by omega), sI_n (by omega)] at this
    rw [X1_findHiding_45, hd, ni_add, ni_sub (by omega)]
    refine ok_pos (by rw [ni_lt (by omega) (by omega)]; omega) (ok_pos bp (ok_bv (ok_pos bp (ok_bv (ok_some ⟨?_, ?_, ?_⟩)))))
    · rw [sI_n (by omega), sI_n (by omega), sI_n (by omega), sI_n (by omega), h3, h4]
      rfl
    · funext j
      rw [sI_n (by omega), sI_o, cp]
      by_cases z : j = p
      · rw [if_pos z, z, hA0]
      · rw [if_neg z]
        exact (h5 j z).1
    · funext j
      rw [sI_o, sI_n (by omega), cp]
      by_cases z : j = p
      · rw [if_pos z, z, hB0]
      · rw [if_neg z]
        exact (h5 j z).2
  | succ r ih =>
    intro n h σ a hi hnn h1 h2 h5 h3 h4
    obtain ⟨n, rfl⟩ : ∃ m, n = m + 1 := ⟨n - 1, by omega⟩
    have hd : σ.1 t 11 = nI (tD T) := by
      have := h1.2.1
      rwa [sI_n (by omega), sI_n (by omega)] at this
    rw [X1_findHiding_45, hd, ni_add, ni_sub (by omega)]
    refine ok_neg (by rw [ni_lt (by omega) (by omega)]; omega) (ok_pos bp (ok_bv (ok_pos bp (ok_bv ?_))))
    rw [cp, show h + B - A = h + (B - A) by omega]
    have hct := setW_CT (h := h) (w := B - A) h1
    have hcs : CS (setW T p h (B - A)) s (sI (sI σ (t + 2) p (nI h)) (t + 3) p (nI (h + (B - A)))) 31 := by
      refine CS.keep (T := T) h2 ?_ ?_ ?_ ?_ ?_ ?_
      all_goals (funext b; rw [sI_n (by omega), sI_n (by omega)])
    have hrow : ∀ j, j ≠ p → (sI (sI σ (t + 2) p (nI h)) (t + 3) p (nI (h + (B - A)))).1 (t + 2) j = σ0.1 (t + 2) j ∧ (sI (sI σ (t + 2) p (nI h)) (t + 3) p (nI (h + (B - A)))).1 (t + 3) j = σ0.1 (t + 3) j := fun j hj => by
      rw [sI_n (by omega), sI_k hj, sI_k hj, sI_n (by omega)]
      exact h5 j hj
    have hres : CT T t (sI (sI (sI (sI σ (t + 2) p (nI h)) (t + 3) p (nI (h + (B - A)))) (t + 2) p (nI A)) (t + 3) p (nI B)) := by
      refine h1.keep (fun c _ _ _ _ _ => ?_)
      funext j
      simp only [sI_r]
      by_cases e1 : c = t + 2 <;> by_cases e2 : c = t + 3 <;> by_cases e3 : j = p <;> simp [e1, e2, e3]
    have e43 : (sI (sI σ (t + 2) p (nI h)) (t + 3) p (nI (h + (B - A)))).1 43 = σ.1 43 := by
      funext b
      rw [sI_n (by omega), sI_n (by omega)]
    generalize (sI (sI σ (t + 2) p (nI h)) (t + 3) p (nI (h + (B - A)))) = σ1 at *
    have hT' := setW_ok (h := h) hT hp (show 1 ≤ B - A by omega) (by omega)
    refine ok_bind (ok_fr (look_ok (T := setW T p h (B - A)) (u := 31) (k := k) hT' hS ht (by omega) (by omega) hct hcs) (fr_X1_lookAhead _ _ _ _ Fr.refl)) ?_
    rintro σ2 ⟨⟨-, c2, -⟩, f2⟩
    have f2 : Fr (L_X1_lookAhead t 31) (K_X1_lookAhead t 31) σ1 σ2 := f2
    have ne2 : ∀ c, c ∉ [45, 46, 47, 48, 49, 50, 51, 52, 53, t + 12, t + 17, t + 22] → σ2.1 c = σ1.1 c := fun c hc => by
      funext b
      exact f2.1 c b (fun g => hc (by simp [L_X1_lookAhead] at g ⊢; omega)) (fun g => hc (by simp [K_X1_lookAhead] at g ⊢; omega))
    refine ok_bind (owedTo_ok (u := 48) (by omega) c2.2.1) ?_
    rintro _ rfl
    have e43' : σ2.1 43 = σ.1 43 := by rw [ne2 43 (by simp; omega), e43]
    have hct2 : CT T t (sI (sI σ2 (t + 2) p (nI A)) (t + 3) p (nI B)) := by
      refine hres.keep (fun c g1 g2 g3 g4 g5 => ?_)
      funext j
      simp only [sI_r]
      rw [ne2 c (by simp; omega)]
    have hcs2 : CS T s σ2 31 := CS.keep (T := T) hcs (ne2 _ (by simp; omega)) (ne2 _ (by simp; omega)) (ne2 _ (by simp; omega)) (ne2 _ (by simp; omega)) (ne2 _ (by simp; omega)) (ne2 _ (by simp; omega))
    have hrow2 : ∀ j, j ≠ p → σ2.1 (t + 2) j = σ0.1 (t + 2) j ∧ σ2.1 (t + 3) j = σ0.1 (t + 3) j := fun j hj => by
      rw [ne2 (t + 2) (by simp; omega), ne2 (t + 3) (by simp; omega)]
      exact hrow j hj
    show Ok (if toF (hoursF (setW T p h (B - A)) k s) p ≤ σ2.1 43 4 then _ else _) _
    rw [e43', h3]
    unfold hidF
    refine ok_ite (fun z => ?_) (fun z => ?_)
    · rw [if_neg (Int32.not_lt.mpr z)]
      unfold X1_findHiding_123
      refine ok_bv ?_
      rw [ni_succ]
      exact ih n (h + 1) σ2 a (by omega) (by omega) hct2 hcs2 hrow2 (by rw [e43']; exact h3) (by rw [e43']; exact h4)
    · rw [if_pos (Int32.not_le.mp z)]
      refine ok_bind (owedTo_ok (u := 48) (by omega) c2.2.1) ?_
      rintro _ rfl
      unfold X1_findHiding_123
      refine ok_bv (ok_bv (ok_bv ?_))
      rw [ni_succ]
      refine ih n (h + 1) _ (toF (hoursF (setW T p h (B - A)) k s) p, nI h) (by omega) (by omega) ?_ ?_ ?_ ?_ ?_
      · refine hct2.keep (fun c g1 g2 _ _ _ => ?_)
        funext j
        simp only [sI_r]
        simp [show ¬ c = 43 by omega]
      · refine hcs2.keep ?_ ?_ ?_ ?_ ?_ ?_
        all_goals (funext b; rw [sI_n (by decide), sI_n (by decide)])
      · intro j hj
        rw [sI_n (by omega), sI_n (by omega), sI_n (by omega), sI_n (by omega)]
        exact hrow2 j hj
      · rw [sI_k (by decide), sI_e]
      · rw [sI_e]
theorem owedByM_ok {T : Tn} {s : St} {ρ : Mem} {p h w k : Nat} {a : Int32} (hT : okT T) (hT' : okT (setW T p h w)) (hS : okS T s) (hpast : (s 0 7).toInt ≤ 2000) (hp : p < tN T) (hk : k ≤ 60) (hw : a + ρ.1 1022 p - ρ.1 1021 p = nI (h + w)) (ha : a = nI h) (h1 : MN T ρ) (h2 : rowR (tN T) s (ρ.1 1028)) : Ok (X12_owedBy (nI p) (nI k) a ρ) (fun r => r.1 = toF (hoursF (setW T p h w) k s) p) := by
  have hn := hT.1
  have bp := ib_t (n := p) (k := 6) (by omega) (by omega)
  have cp := ni_cl (n := p) (by omega)
  unfold X12_owedBy
  refine ok_bind (ok_fr (load_ok hT h1 h2) (fr_X12_load ρ Fr.refl)) ?_
  rintro ρ1 ⟨⟨m1, m2⟩, f1⟩
  have f1 : Fr L_X12_load K_X12_load ρ ρ1 := f1
  have o1 := f1.off (A := [1021, 1022]) (B := []) (by decide)
  refine ok_pos bp (ok_bv ?_)
  rw [cp]
  have hMT : MT (setW T p h w) (sI ρ1 1034 p a) := by
    have ne : ∀ c, c ≠ 1034 → (sI ρ1 1034 p a).1 c = ρ1.1 c := fun c e => by funext j; rw [sI_n e]
    refine ⟨by rw [ne _ (by decide)]; exact m1.1, by rw [ne _ (by decide)]; exact m1.2.1, fun j hj => ?_, ?_, ?_, ?_⟩
    · have := m1.2.2.1 j hj
      rw [ne 1020 (by decide), ne 1021 (by decide), ne 1022 (by decide), ne 1023 (by decide), ne 1024 (by decide), ne 1025 (by decide), sI_o]
      show _ ∧ _ = (if 2 = 2 ∧ j = p then nI h else if 2 = 3 ∧ j = p then nI (h + w) else tR T 2 j) ∧ _ = (if 3 = 2 ∧ j = p then nI h else if 3 = 3 ∧ j = p then nI (h + w) else tR T 3 j) ∧ _
      by_cases z : j = p
      · simp only [z, and_self, if_true, Nat.reduceEqDiff, false_and, if_false]
        rw [z] at this
        rw [o1.1 1021 (by decide), o1.1 1022 (by decide)]
        exact ⟨this.1, ha, hw, this.2.2.2⟩
      · simp only [z, and_false, if_false]
        exact this
    · exact m1.2.2.2.1.keep (ne _ (by decide)) (ne _ (by decide)) (ne _ (by decide)) (by rw [ne _ (by decide)])
    · exact m1.2.2.2.2.1.keep (ne _ (by decide)) (ne _ (by decide)) (ne _ (by decide)) (by rw [ne _ (by decide)])
    · exact m1.2.2.2.2.2.keep (ne _ (by decide)) (ne _ (by decide)) (ne _ (by decide)) (by rw [ne _ (by decide)])
  have hMW : MW (setW T p h w) s (sI ρ1 1034 p a) := by
    refine ⟨fun j hj => ?_, fun c hc => ?_, ?_, ?_⟩
    · rw [sI_n (by decide), sI_n (by decide), sI_n (by decide), sI_n (by decide)]
      exact m2.1 j hj
    · rw [sI_n (by decide)]
      exact m2.2.1 c hc
    · rw [sI_n (by decide)]
      exact m2.2.2.1
    · rw [sI_n (by decide)]
      exact m2.2.2.2
  refine ok_bind (goHours_ok (T := setW T p h w) (k := k) hT' hS (by omega) hMT hMW) ?_
  rintro ρ3 ⟨n1, n2⟩
  refine ok_bind (sumOf_ok (T := setW T p h w) (w := 1) hT' (okS_hours (T := setW T p h w) hT' hS k (by omega)) (by omega) n1.1 n2.2.1) ?_
  rintro _ rfl
  refine ok_some ?_
  rw [if_neg one_ne]
theorem hidM_ok {T : Tn} {p k A B : Nat} {s : St} {w : Int32} (hT : okT T) (hS : okS T s) (hpast : (s 0 7).toInt ≤ 2000) (hp : p < tN T) (hk : k ≤ 60) (hAB : A < B) (hBd : B ≤ tD T) (hA : tR T 2 p = nI A) (hB : tR T 3 p = nI B) : ∀ (r n h : Nat) (ρ : Mem) (a : Int32 × Int32), h + r = tD T - (B - A) + 1 → r < n → MN T ρ → rowR (tN T) s (ρ.1 1028) → Ok (X12_hide_51 n (nI p) (nI k) w a.2 a.1 (nI h) ρ) (fun x => x.1 = if w = 0 then (hidF T s p k (B - A) r h a).1 else (hidF T s p k (B - A) r h a).2) := by
  have hn := hT.1
  have h24 := hT.2.2.1
  have bp := ib_t (n := p) (k := 6) (by omega) (by omega)
  have cp := ni_cl (n := p) (by omega)
  intro r
  induction r with
  | zero =>
    intro n h ρ a hi hnn h1 h2
    obtain ⟨n, rfl⟩ : ∃ m, n = m + 1 := ⟨n - 1, by omega⟩
    have hm := h1.2.2.1 p hp
    rw [X12_hide_51]
    refine ok_pos bp (ok_pos bp ?_)
    rw [cp, h1.2.1, hm.2.1, hm.2.2.1, hA, hB, ni_sub (by omega), ni_sub (by omega)]
    refine ok_pos (by rw [ni_lt (by omega) (by omega)]; omega) ?_
    refine ok_ite (fun z => ok_some ?_) (fun z => ok_some ?_)
    · rw [if_pos z]
      rfl
    · rw [if_neg z]
      rfl
  | succ r ih =>
    intro n h ρ a hi hnn h1 h2
    obtain ⟨n, rfl⟩ : ∃ m, n = m + 1 := ⟨n - 1, by omega⟩
    have hm := h1.2.2.1 p hp
    rw [X12_hide_51]
    refine ok_pos bp (ok_pos bp ?_)
    rw [cp, h1.2.1, hm.2.1, hm.2.2.1, hA, hB, ni_sub (by omega), ni_sub (by omega)]
    refine ok_neg (by rw [ni_lt (by omega) (by omega)]; omega) ?_
    have hT' := setW_ok (h := h) hT hp (show 1 ≤ B - A by omega) (by omega)
    refine ok_bind (ok_fr (owedByM_ok (h := h) (w := B - A) (k := k) hT hT' hS hpast hp hk (by rw [hm.2.1, hm.2.2.1, hA, hB, ni_add, ni_sub (by omega)]; congr 1; omega) rfl h1 h2) (fr_X12_owedBy _ _ _ _ Fr.refl)) ?_
    rintro ⟨x, ρ3⟩ ⟨hx, f3⟩
    have hx : x = toF (hoursF (setW T p h (B - A)) k s) p := hx
    have f3 : Fr L_X12_owedBy K_X12_owedBy ρ ρ3 := f3
    have h13 : MN T ρ3 := h1.keep f3 (by decide)
    have h23 : rowR (tN T) s (ρ3.1 1028) := by
      rw [(f3.off (A := [1028]) (B := []) (by decide)).1 1028 (by decide)]
      exact h2
    refine ok_bv ?_
    unfold hidF
    show Ok (if a.1 < x then _ else _) _
    rw [hx]
    refine ok_ite (fun z => ?_) (fun z => ?_)
    · rw [if_pos z]
      unfold X12_hide_102
      refine ok_bv ?_
      rw [ni_succ]
      exact ih n (h + 1) ρ3 (toF (hoursF (setW T p h (B - A)) k s) p, nI h) (by omega) (by omega) h13 h23
    · rw [if_neg z]
      unfold X12_hide_102
      refine ok_bv ?_
      rw [ni_succ]
      exact ih n (h + 1) ρ3 a (by omega) (by omega) h13 h23
theorem Fr.cut {L L2 : List Nat} {K : List (Nat × Nat)} {σ σ' : Mem} (h : Fr L K σ σ') (h2 : ∀ a, a ∈ L → a ∉ L2 → σ'.1 a = σ.1 a) (h5 : 5000 ∉ L) : Fr L2 K σ σ' := by
  refine ⟨fun a b ha hb => ?_, fun _ => h.2 h5⟩
  by_cases z : a ∈ L
  · rw [h2 a z ha]
  · exact h.1 a b z hb
theorem s_hide (a0 a1 a2 : Int32) : StpI Inv (X11_hide a0 a1 a2) (X12_hide a0 a1 a2) := by
  refine stp (fun σ => fr_X11_hide a0 a1 a2 σ Fr.refl) (fun σ => fr_X12_hide a0 a1 a2 σ Fr.refl) (by decide) (by decide) (fun σ ρ hI => ?_)
  have hI0 := hI
  obtain ⟨t, T, s, h1, h2, -, -, -, -, -, -, -⟩ := hI
  have hT := h1.2.2.2.1
  have hn := hT.1
  have h24 := hT.2.2.1
  have ht := h1.1
  have hpast := h2.1.2
  have same : ∀ r, Ok (X11_hide a0 a1 a2 σ) (fun x => x = (r, σ)) → Ok (X12_hide a0 a1 a2 ρ) (fun x => x = (r, ρ)) → ∃ (r : Int32) (σ' ρ' : Mem), X11_hide a0 a1 a2 σ = some (r, σ') ∧ X12_hide a0 a1 a2 ρ = some (r, ρ') ∧ InvR σ' ρ' := by
    rintro r ⟨_, e1, rfl⟩ ⟨_, e2, rfl⟩
    exact ⟨r, σ, ρ, e1, e2, hI0⟩
  cases hb : isP (tN T) a0 with
  | false =>
    refine same (-2) ?_ ?_
    · unfold X11_hide
      exact ok_bindE (isPersonC_ok h1 a0) (ok_pos (by rw [hb]; rfl) (ok_some rfl))
    · unfold X12_hide
      exact ok_bindE (isPersonM_ok h1 a0) (ok_pos (by rw [hb]; rfl) (ok_some rfl))
  | true =>
    have hb1 : ¬ tr (isP (tN T) a0) = 0 := by rw [hb]; exact one_ne
    by_cases z : a1 < 1
    · refine same (-2) ?_ ?_
      · unfold X11_hide
        exact ok_bindE (isPersonC_ok h1 a0) (ok_neg hb1 (ok_pos z (ok_some rfl)))
      · unfold X12_hide
        refine ok_bindE (isPersonM_ok h1 a0) (ok_neg hb1 (ok_bindE (isIn_ok _ _ _ _) (ok_pos ?_ (ok_some rfl))))
        show tr _ = 0
        rw [decide_eq_false (Int32.not_le.mpr z)]
        rfl
    · by_cases y : 60 < a1
      · refine same (-2) ?_ ?_
        · unfold X11_hide
          exact ok_bindE (isPersonC_ok h1 a0) (ok_neg hb1 (ok_neg z (ok_pos y (ok_some rfl))))
        · unfold X12_hide
          refine ok_bindE (isPersonM_ok h1 a0) (ok_neg hb1 (ok_bindE (isIn_ok _ _ _ _) (ok_pos ?_ (ok_some rfl))))
          show tr _ = 0
          rw [decide_eq_false (Int32.not_le.mpr y), Bool.and_false]
          rfl
      · have hin : ¬ tr (decide (1 ≤ a1) && decide (a1 ≤ 60)) = 0 := by
          rw [decide_eq_true (Int32.not_lt.mp z), decide_eq_true (Int32.not_lt.mp y)]
          exact one_ne
        obtain ⟨b, e1, e2, e3⟩ := zero1_ok a2 σ ρ
        cases b with
        | false =>
          refine same (-2) ?_ ?_
          · unfold X11_hide
            exact ok_bindE (isPersonC_ok h1 a0) (ok_neg hb1 (ok_neg z (ok_neg y (ok_bindE e1 (ok_pos rfl (ok_some rfl))))))
          · unfold X12_hide
            exact ok_bindE (isPersonM_ok h1 a0) (ok_neg hb1 (ok_bindE (isIn_ok _ _ _ _) (ok_neg hin (ok_bindE e2 (ok_pos rfl (ok_some rfl))))))
        | true =>
          obtain ⟨p, hp, rfl⟩ := isP_t hn hb
          obtain ⟨k, hk1, hk, rfl⟩ := rng (a := 1) (b := 60) (by omega) (by omega) z (Int32.not_lt.mp y)
          have bp := ib_t (n := p) (k := 6) (by omega) (by omega)
          have cp := ni_cl (n := p) (by omega)
          have hr := (hT.2.2.2.1 p hp).1
          obtain ⟨A, hA0, hA⟩ := ni_of hr.1
          obtain ⟨B, hB0, hB⟩ := ni_of (x := tR T 3 p) (Int32.le_trans hr.1 (Int32.le_of_lt hr.2.1))
          have hAB : A < B := by
            have := hr.2.1
            rw [hA, hB] at this
            exact (ni_lt hA0 hB0).mp this
          have hBd : B ≤ tD T := by
            have := hr.2.2
            rw [hB] at this
            exact (ni_le hB0 (by omega)).mp this
          have hcr := h1.2.2.2.2.1.2.2.1 p hp
          have hmr := h1.2.2.2.2.2.2.1.2.2.1 p hp
          -- the class
          have hC : Ok (X1_findHiding t 31 (nI p) (nI k) σ) (fun σ' => (σ'.1 43 4, σ'.1 43 5) = hidF T s p k (B - A) (tD T - (B - A) + 1) 0 (toF (hoursF T k s) p, nI A) ∧ σ'.1 (t + 2) = σ.1 (t + 2) ∧ σ'.1 (t + 3) = σ.1 (t + 3)) := by
            unfold X1_findHiding
            refine ok_pos bp (ok_bv (ok_pos bp (ok_bv ?_)))
            rw [cp, hcr.2.1, hcr.2.2.1, hA, hB]
            refine ok_bind (ok_fr (look_ok (k := k) hT h2.1.1 ht (by omega) (by omega) h1.2.2.2.2.1 h2.2.1) (fr_X1_lookAhead _ _ _ _ Fr.refl)) ?_
            rintro σ2 ⟨⟨c1, c2, -⟩, f2⟩
            have f2 : Fr (L_X1_lookAhead t 31) (K_X1_lookAhead t 31) σ σ2 := f2
            have ne2 : ∀ c, c ∉ [45, 46, 47, 48, 49, 50, 51, 52, 53, t + 12, t + 17, t + 22] → σ2.1 c = σ.1 c := fun c hc => by
              funext b
              exact f2.1 c b (fun g => hc (by simp [L_X1_lookAhead] at g ⊢; omega)) (fun g => hc (by simp [K_X1_lookAhead] at g ⊢; omega))
            refine ok_bind (owedTo_ok (u := 48) (by omega) c2.2.1) ?_
            rintro _ rfl
            refine ok_bv (ok_bv (ok_bv ?_))
            refine hidC_ok hT ht h2.1.1 hpast hp hk hAB hBd (hcr.2.1.trans hA) (hcr.2.2.1.trans hB) (tD T - (B - A) + 1) fu 0 _ (toF (hoursF T k s) p, nI A) (by omega) (by unfold fu; omega) ?_ ?_ ?_ ?_ ?_
            · refine c1.keep (fun c g1 g2 _ _ _ => ?_)
              have q := c1.2.2.1 p hp
              funext j
              by_cases e4 : c = t + 3
              · subst e4
                rw [sI_o, sI_n (by omega), sI_n (by omega), sI_n (by omega)]
                by_cases e5 : j = p
                · rw [if_pos e5, e5, q.2.2.1, hB]
                · rw [if_neg e5]
              · rw [sI_n e4]
                by_cases e6 : c = t + 2
                · subst e6
                  rw [sI_o, sI_n (by omega), sI_n (by omega)]
                  by_cases e5 : j = p
                  · rw [if_pos e5, e5, q.2.1, hA]
                  · rw [if_neg e5]
                · rw [sI_n e6, sI_n (by omega), sI_n (by omega)]
            · refine CS.keep (T := T) h2.2.1 ?_ ?_ ?_ ?_ ?_ ?_
              all_goals (funext b; rw [sI_n (by decide), sI_n (by decide), ne2 _ (by simp; omega)])
            · intro j hj
              rw [sI_n (by omega), sI_n (by omega), sI_n (by omega), sI_n (by omega), ne2 (t + 2) (by simp; omega), ne2 (t + 3) (by simp; omega)]
              exact ⟨rfl, rfl⟩
            · rw [sI_k (by decide), sI_e]
            · rw [sI_e]
          obtain ⟨σ', eC, hC1, hC2, hC3⟩ := hC
          have fC : Fr (L_X1_findHiding t 31) (K_X1_findHiding t 31) σ σ' := fr_X1_findHiding t 31 _ _ σ Fr.refl _ eC
          have fC2 : Fr (L_X1_lookAhead t 31) (K_X1_findHiding t 31) σ σ' := by
            refine fC.cut (fun a ha hb => ?_) (by simp [L_X1_findHiding]; omega)
            by_cases g : a = t + 2
            · rw [g]
              exact hC2
            · by_cases g2 : a = t + 3
              · rw [g2]
                exact hC3
              · exfalso
                apply hb
                simp [L_X1_findHiding, L_X1_lookAhead] at ha ⊢
                omega
          -- the reference
          have hM : Ok (X12_hide (nI p) (nI k) a2 ρ) (fun x => x.1 = if a2 = 0 then (hidF T s p k (B - A) (tD T - (B - A) + 1) 0 (toF (hoursF T k s) p, nI A)).1 else (hidF T s p k (B - A) (tD T - (B - A) + 1) 0 (toF (hoursF T k s) p, nI A)).2) := by
            unfold X12_hide
            refine ok_bindE (isPersonM_ok h1 _) (ok_neg hb1 (ok_bindE (isIn_ok _ _ _ _) (ok_neg hin (ok_bindE e2 (ok_neg one_ne (ok_pos bp (ok_bv ?_)))))))
            show Ok ((X12_owedBy (nI p) (nI k) (ρ.1 1021 (nI p).toNatClampNeg) ρ).bind _) _
            rw [cp, hmr.2.1, hA]
            have hTs : okT (setW T p A (B - A)) := setW_ok hT hp (by omega) (by omega)
            have hsame : hoursF (setW T p A (B - A)) k s = hoursF T k s := by
              have : setW T p A (B - A) = T := by
                have hrow : (fun k j => if k = 2 ∧ j = p then nI A else if k = 3 ∧ j = p then nI (A + (B - A)) else T.2.2.1 k j) = T.2.2.1 := by
                  funext k j
                  by_cases g1 : k = 2 ∧ j = p
                  · rw [if_pos g1, g1.1, g1.2]
                    exact hA.symm
                  · rw [if_neg g1]
                    by_cases g2 : k = 3 ∧ j = p
                    · rw [if_pos g2, g2.1, g2.2, show A + (B - A) = B by omega]
                      exact hB.symm
                    · rw [if_neg g2]
                unfold setW
                rw [hrow]
              rw [this]
            refine ok_bind (ok_fr (owedByM_ok (h := A) (w := B - A) (k := k) hT hTs h2.1.1 hpast hp hk (by rw [hmr.2.1, hmr.2.2.1, hA, hB, ni_add, ni_sub (by omega)]; congr 1; omega) rfl h1.2.2.2.2.2.2.1 h2.2.2) (fr_X12_owedBy _ _ _ _ Fr.refl)) ?_
            rintro ⟨x, ρ3⟩ ⟨hx, f3⟩
            have hx : x = toF (hoursF (setW T p A (B - A)) k s) p := hx
            have f3 : Fr L_X12_owedBy K_X12_owedBy ρ ρ3 := f3
            rw [hsame] at hx
            refine ok_bv (ok_bv ?_)
            have := hidM_ok (w := a2) hT h2.1.1 hpast hp hk hAB hBd hA hB (tD T - (B - A) + 1) fu 0 ρ3 (x, nI A) (by omega) (by unfold fu; omega) (h1.2.2.2.2.2.2.1.keep f3 (by decide)) (by rw [(f3.off (A := [1028]) (B := []) (by decide)).1 1028 (by decide)]; exact h2.2.2)
            rw [hx] at this
            show Ok (X12_hide_51 fu (nI p) (nI k) a2 (nI A) x 0 ρ3) _
            rw [hx]
            exact this
          obtain ⟨⟨r, ρ'⟩, eM, hr2⟩ := hM
          have fM : Fr L_X12_hide K_X12_hide ρ ρ' := fr_X12_hide _ _ _ ρ Fr.refl _ eM
          refine ⟨r, σ', ρ', ?_, eM, hI0.keep fC2 fM ?_ (by decide)⟩
          · have hr2 : r = _ := hr2
            unfold X11_hide
            rw [isPersonC_ok h1, Option.bind_some, if_neg hb1, if_neg z, if_neg y, e1, Option.bind_some, if_neg (show ¬ (tr true, σ).1 = 0 from one_ne)]
            show (gT (σ.1 0 12) fun q3 => (X1_findHiding q3 31 (nI p) (nI k) σ).bind _) = _
            rw [h1.2.1, gT_ok ht, eC, Option.bind_some, hr2, ← hC1]
            by_cases g : a2 = 0
            · rw [if_pos g, if_pos g]
            · rw [if_neg g, if_neg g]
          · rcases ht with rfl | rfl <;> decide
