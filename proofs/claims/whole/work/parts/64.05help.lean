/-! help, sum, wet -/
/-- the state with helper h aiming at q for p -/
def hlpS (s : St) (p q h : Nat) : St := fun k j => if k = 2 ∧ j = h then nI q else if k = 3 ∧ j = h then nI p else s k j
theorem hlpS_ok {T : Tn} {s : St} {p q h : Nat} (hS : okS T s) (hp : p < tN T) (hq : q < tN T) (hh : h ≠ q) : okS T (hlpS s p q h) := by
  refine ⟨fun j hj => ?_, hS.2.1, hS.2.2.1, hS.2.2.2⟩
  have := hS.1 j hj
  show (hlpS s p q h 2 j = -1 ∨ ∃ q', q' < tN T ∧ q' ≠ j ∧ hlpS s p q h 2 j = nI q') ∧ (∃ q', q' < tN T ∧ hlpS s p q h 3 j = nI q') ∧ 0 ≤ s 4 j ∧ (s 4 j).toInt ≤ 999 + 99 * (s 0 7).toInt
  refine ⟨?_, ?_, this.2.2⟩
  · unfold hlpS
    by_cases z : j = h
    · right
      refine ⟨q, hq, fun e => hh (by rw [e, z]), ?_⟩
      rw [if_pos ⟨rfl, z⟩]
    · rw [if_neg (fun g => z g.2), if_neg (fun g => z g.2)]
      exact this.1
  · unfold hlpS
    by_cases z : j = h
    · refine ⟨p, hp, ?_⟩
      rw [if_neg (fun g => absurd g.1 (by decide)), if_pos ⟨rfl, z⟩]
    · rw [if_neg (fun g => z g.2), if_neg (fun g => z g.2)]
      exact this.2.1
/-- the best helper: over helpers from i on, r of them; (hours, who), -1 while there is none -/
def hlpF (T : Tn) (s : St) (p q : Nat) : Nat → Nat → Int32 × Int32 → Int32 × Int32
  | 0, _, a => a
  | r + 1, i, a => hlpF T s p q r (i + 1) (if i = q then a else
      if tillF T (6 * p + q) 200 0 (hlpS s p q i) ≠ -1 ∧ (a.1 = -1 ∨ tillF T (6 * p + q) 200 0 (hlpS s p q i) < a.1) then (tillF T (6 * p + q) 200 0 (hlpS s p q i), nI i) else a)
theorem tillF_r (T : Tn) (c : Nat) : ∀ (r i : Nat) (s : St), tillF T c r i s = -1 ∨ ∃ k, i ≤ k ∧ k ≤ i + r ∧ tillF T c r i s = nI k
  | 0, i, s => by
    unfold tillF
    split
    · exact .inr ⟨i, Nat.le_refl _, by omega, rfl⟩
    · exact .inl rfl
  | r + 1, i, s => by
    unfold tillF
    split
    · exact .inr ⟨i, Nat.le_refl _, by omega, rfl⟩
    · rcases tillF_r T c r (i + 1) (hourF T s) with h | ⟨k, h1, h2, h3⟩
      · exact .inl h
      · exact .inr ⟨k, by omega, by omega, h3⟩
theorem hlpC_ok {T : Tn} {t p q : Nat} {s : St} (hT : okT T) (ht : t = 7 ∨ t = 124) (hS : okS T s) (hpast : (s 0 7).toInt ≤ 2000) (hp : p < tN T) (hq : q < tN T) : ∀ (r n i : Nat) (σ : Mem) (a : Int32 × Int32), i + r = tN T → r < n → CT T t σ → CS T s σ 31 → σ.1 43 4 = a.1 → σ.1 43 5 = a.2 → Ok (X1_findHelper_13 t 31 n (nI p) (nI q) (nI i) σ) (fun σ' => (σ'.1 43 4, σ'.1 43 5) = hlpF T s p q r i a) := by
  have hn := hT.1
  intro r
  induction r with
  | zero =>
    intro n i σ a hi hnn h1 h2 h3 h4
    obtain ⟨n, rfl⟩ : ∃ m, n = m + 1 := ⟨n - 1, by omega⟩
    rw [X1_findHelper_13, h1.1]
    refine ok_pos (by rw [ni_le (by omega) (by omega)]; omega) (ok_some ?_)
    rw [h3, h4]
    rfl
  | succ r ih =>
    intro n i σ a hi hnn h1 h2 h3 h4
    obtain ⟨n, rfl⟩ : ∃ m, n = m + 1 := ⟨n - 1, by omega⟩
    have bi := ib_t (n := i) (k := 6) (by omega) (by omega)
    have ci := ni_cl (n := i) (by omega)
    rw [X1_findHelper_13, h1.1]
    refine ok_neg (by rw [ni_le (by omega) (by omega)]; omega) ?_
    refine ok_ite (fun z => ?_) (fun z => ?_)
    · rw [ni_inj (by omega) (by omega)] at z
      unfold X1_findHelper_111
      refine ok_bv ?_
      rw [ni_succ]
      refine ok_mono (ih n (i + 1) σ a (by omega) (by omega) h1 h2 h3 h4) (fun σ' h => ?_)
      rw [h]
      show _ = hlpF T s p q r (i + 1) _
      rw [if_pos z]
    · rw [ni_inj (by omega) (by omega)] at z
      refine ok_bind (ok_fr (copy_ok (a := 48) (b := 31) hT (by omega) h2) (fr_X7_copy _ _ _ Fr.refl)) ?_
      rintro σ1 ⟨g1, f1⟩
      have f1' : Fr (L_X7_copy 48 31) (K_X7_copy 48 31) σ σ1 := f1
      have o1 := f1'.off (A := [31, 32, 33, 34, 35, 36, 43]) (B := []) (by decide)
      have hct1 : CT T t σ1 := h1.copy ht (by omega) f1
      refine ok_pos bi (ok_bv (ok_pos bi (ok_bv ?_)))
      rw [ci]
      have hct2 : CT T t (sI (sI σ1 50 i (nI q)) 51 i (nI p)) := hct1.keep (fun a g1 g2 _ _ _ => by funext b; rw [sI_n (by omega), sI_n (by omega)])
      have hcs2 : CS T (hlpS s p q i) (sI (sI σ1 50 i (nI q)) 51 i (nI p)) 48 := by
        refine ⟨fun j hj => ⟨?_, ?_, ?_, ?_⟩, fun k hk => ?_, ?_, ?_, ?_⟩
        · rw [sI_n (by decide), sI_n (by decide)]
          exact (g1.1 j hj).1
        · rw [sI_n (by decide), sI_o]
          unfold hlpS
          by_cases y : j = i
          · rw [if_pos y, if_pos ⟨rfl, y⟩]
          · rw [if_neg y, if_neg (fun g => y g.2), if_neg (fun g => y g.2)]
            exact (g1.1 j hj).2.1
        · rw [sI_o, sI_n (by decide)]
          unfold hlpS
          by_cases y : j = i
          · rw [if_pos y, if_neg (fun g => absurd g.1 (by decide)), if_pos ⟨rfl, y⟩]
          · rw [if_neg y, if_neg (fun g => y g.2), if_neg (fun g => y g.2)]
            exact (g1.1 j hj).2.2.1
        · rw [sI_n (by decide), sI_n (by decide)]
          exact (g1.1 j hj).2.2.2
        · rw [sI_n (by decide), sI_n (by decide)]
          exact g1.2.1 k hk
        · rw [sI_n (by decide), sI_n (by decide)]
          exact g1.2.2.1
        · rw [sI_n (by decide), sI_n (by decide)]
          exact g1.2.2.2.1
        · rw [sI_n (by decide), sI_n (by decide)]
          exact g1.2.2.2.2
      have o2 : ∀ a, a ≠ 50 → a ≠ 51 → (sI (sI σ1 50 i (nI q)) 51 i (nI p)).1 a = σ1.1 a := fun a e1 e2 => by funext b; rw [sI_n e2, sI_n e1]
      generalize (sI (sI σ1 50 i (nI q)) 51 i (nI p)) = σ2 at *
      refine ok_bindE (cell_ok σ2) ?_
      have hS2 := hlpS_ok hS hp hq z
      refine ok_bind (ok_fr (ok_bv (tillC_ok (c := 6 * p + q) hT ht (by omega) 200 fu 0 (hlpS s p q i) σ2 (by omega) (by unfold fu; omega) hS2 (show (s 0 7).toInt + 200 ≤ 3000 by omega) hct2 hcs2) : Ok (X1_hoursOfTrial t (nI (6 * p + q)) σ2) _) (fr_X1_hoursOfTrial _ _ _ Fr.refl)) ?_
      rintro ⟨x, σ3⟩ ⟨hx, f3⟩
      have hx : x = tillF T (6 * p + q) 200 0 (hlpS s p q i) := hx
      have f3 : Fr (L_X1_hoursOfTrial t) (K_X1_hoursOfTrial t) σ2 σ3 := f3
      have ne3 : ∀ a, a ∉ [45, 46, 47, 48, 49, 52, 53, t + 12, t + 17, t + 22] → σ3.1 a = σ2.1 a := fun a ha => by
        funext b
        exact f3.1 a b (fun g => ha (by simp [L_X1_hoursOfTrial] at g ⊢; omega)) (fun g => ha (by simp [K_X1_hoursOfTrial] at g ⊢; omega))
      have hct3 : CT T t σ3 := hct2.keep (fun a g1 g2 g3 g4 g5 => ne3 a (by simp; omega))
      have ns : ∀ a, a ∈ [31, 32, 33, 34, 35, 36, 43] → σ3.1 a = σ.1 a := fun a ha => by
        rw [ne3 a (by simp at ha ⊢; omega), o2 a (by simp at ha; omega) (by simp at ha; omega)]
        exact o1.1 a ha
      have hcs3 : CS T s σ3 31 := h2.keep (ns _ (by decide)) (ns _ (by decide)) (ns _ (by decide)) (ns _ (by decide)) (ns _ (by decide)) (ns _ (by decide))
      have e43 := ns 43 (by decide)
      refine ok_bv ?_
      show Ok (if x = -1 then _ else if σ3.1 43 4 = -1 then _ else if σ3.1 43 4 ≤ x then _ else _) _
      have skip : (hlpF T s p q (r + 1) i a = hlpF T s p q r (i + 1) a) → Ok (X1_findHelper_111 t 31 (X1_findHelper_13 t 31 n) (nI p) (nI q) (nI i) σ3) (fun σ' => (σ'.1 43 4, σ'.1 43 5) = hlpF T s p q (r + 1) i a) := by
        intro e
        unfold X1_findHelper_111
        refine ok_bv ?_
        rw [ni_succ, e]
        exact ih n (i + 1) σ3 a (by omega) (by omega) hct3 hcs3 (by rw [e43]; exact h3) (by rw [e43]; exact h4)
      have take : (hlpF T s p q (r + 1) i a = hlpF T s p q r (i + 1) (x, nI i)) → Ok (X1_findHelper_99 t 31 (X1_findHelper_111 t 31 (X1_findHelper_13 t 31 n)) (nI p) (nI q) (nI i) x σ3) (fun σ' => (σ'.1 43 4, σ'.1 43 5) = hlpF T s p q (r + 1) i a) := by
        intro e
        unfold X1_findHelper_99 X1_findHelper_111
        refine ok_bv (ok_bv (ok_bv ?_))
        rw [ni_succ, e]
        refine ih n (i + 1) _ (x, nI i) (by omega) (by omega) (hct3.keep (fun a g1 g2 _ _ _ => by funext b; rw [sI_n (by omega), sI_n (by omega)])) (hcs3.keep ?_ ?_ ?_ ?_ ?_ ?_) ?_ ?_
        all_goals try (funext b; rw [sI_n (by decide), sI_n (by decide)])
        · rw [sI_k (by decide), sI_e]
        · rw [sI_e]
      have hexp : hlpF T s p q (r + 1) i a = hlpF T s p q r (i + 1) (if x ≠ -1 ∧ (a.1 = -1 ∨ x < a.1) then (x, nI i) else a) := by
        show hlpF T s p q r (i + 1) (if i = q then a else _) = _
        rw [if_neg z, hx]
      rw [e43, h3]
      refine ok_ite (fun y => skip ?_) (fun y => ok_ite (fun w => take ?_) (fun w => ok_ite (fun v => skip ?_) (fun v => take ?_)))
      · rw [hexp, if_neg (fun g => g.1 y)]
      · rw [hexp, if_pos ⟨y, .inl w⟩]
      · rw [hexp, if_neg (fun g => g.2.elim w (fun g2 => Int32.not_lt.mpr v g2))]
      · rw [hexp, if_pos ⟨y, .inr (Int32.not_le.mp v)⟩]
/-- the reference's pair (fewest, who) for ours -/
def hlpA (a : Int32 × Int32) : Int32 × Int32 := if a.1 = -1 then (201, -1) else a
def hlpO (a : Int32 × Int32) : Prop := (a.1 = -1 ∧ a.2 = -1) ∨ ((∃ k, k ≤ 200 ∧ a.1 = nI k) ∧ ∃ i, i < 6 ∧ a.2 = nI i)
theorem hlpM_ok {T : Tn} {p q : Nat} {s : St} {w : Int32} (hT : okT T) (hS : okS T s) (hpast : (s 0 7).toInt ≤ 2000) (hp : p < tN T) (hq : q < tN T) : ∀ (r n i : Nat) (ρ : Mem) (a : Int32 × Int32), i + r = tN T → r < n → MN T ρ → rowR (tN T) s (ρ.1 1028) → hlpO a → Ok (X12_help_32 n (nI p) (nI q) w (hlpA a).1 (hlpA a).2 (nI i) ρ) (fun x => x.1 = if w = 0 then (hlpF T s p q r i a).1 else (hlpF T s p q r i a).2) := by
  have hn := hT.1
  intro r
  induction r with
  | zero =>
    intro n i ρ a hi hnn h1 h2 h3
    obtain ⟨n, rfl⟩ : ∃ m, n = m + 1 := ⟨n - 1, by omega⟩
    rw [X12_help_32, h1.1]
    refine ok_pos (by rw [ni_le (by omega) (by omega)]; omega) ?_
    unfold hlpF hlpA
    rcases h3 with ⟨e1, e2⟩ | ⟨⟨k, hk, e1⟩, ⟨j, hj, e2⟩⟩
    · rw [if_pos e1]
      refine ok_neg (show ¬ (0 : Int32) ≤ -1 by decide) (ok_some ?_)
      rw [e1, e2]
      split <;> rfl
    · have hne : ¬ a.1 = -1 := by rw [e1]; exact ni_ne_neg (by omega)
      rw [if_neg hne]
      refine ok_pos (show (0 : Int32) ≤ a.2 by rw [e2]; exact ni_nn (by omega)) ?_
      refine ok_ite (fun z => ok_some ?_) (fun z => ok_some ?_)
      · rw [if_pos z]
      · rw [if_neg z]
  | succ r ih =>
    intro n i ρ a hi hnn h1 h2 h3
    obtain ⟨n, rfl⟩ : ∃ m, n = m + 1 := ⟨n - 1, by omega⟩
    have bi := ib_t (n := i) (k := 6) (by omega) (by omega)
    have ci := ni_cl (n := i) (by omega)
    rw [X12_help_32, h1.1]
    refine ok_neg (by rw [ni_le (by omega) (by omega)]; omega) ?_
    refine ok_ite (fun z => ?_) (fun z => ?_)
    · rw [ni_inj (by omega) (by omega)] at z
      unfold X12_help_101
      refine ok_bv ?_
      rw [ni_succ]
      refine ok_mono (ih n (i + 1) ρ a (by omega) (by omega) h1 h2 h3) (fun x h => ?_)
      rw [h]
      show _ = if w = 0 then (hlpF T s p q r (i + 1) _).1 else (hlpF T s p q r (i + 1) _).2
      rw [if_pos z]
    · rw [ni_inj (by omega) (by omega)] at z
      refine ok_bind (ok_fr (load_ok hT h1 h2) (fr_X12_load ρ Fr.refl)) ?_
      rintro ρ1 ⟨⟨m1, m2⟩, f1⟩
      have f1 : Fr L_X12_load K_X12_load ρ ρ1 := f1
      refine ok_pos bi (ok_bv (ok_pos bi (ok_bv ?_)))
      rw [ci]
      have f2 : Fr [1030, 1031] [] ρ1 (sI (sI ρ1 1030 i (nI q)) 1031 i (nI p)) := frI (frI Fr.refl (.head _)) (.tail _ (.head _))
      have hm2 : MT T (sI (sI ρ1 1030 i (nI q)) 1031 i (nI p)) := by
        have o := f2.off (A := MTa) (B := MTb) (by decide)
        exact m1.keep o.1 o.2
      have hw2 : MW T (hlpS s p q i) (sI (sI ρ1 1030 i (nI q)) 1031 i (nI p)) := by
        refine ⟨fun j hj => ⟨?_, ?_, ?_, ?_⟩, fun k hk => ?_, ?_, ?_⟩
        · rw [sI_n (by decide), sI_n (by decide)]
          exact (m2.1 j hj).1
        · rw [sI_n (by decide), sI_o]
          unfold hlpS
          by_cases y : j = i
          · rw [if_pos y, if_pos ⟨rfl, y⟩]
          · rw [if_neg y, if_neg (fun g => y g.2), if_neg (fun g => y g.2)]
            exact (m2.1 j hj).2.1
        · rw [sI_o, sI_n (by decide)]
          unfold hlpS
          by_cases y : j = i
          · rw [if_pos y, if_neg (fun g => absurd g.1 (by decide)), if_pos ⟨rfl, y⟩]
          · rw [if_neg y, if_neg (fun g => y g.2), if_neg (fun g => y g.2)]
            exact (m2.1 j hj).2.2.1
        · rw [sI_n (by decide), sI_n (by decide)]
          exact (m2.1 j hj).2.2.2
        · rw [sI_n (by decide), sI_n (by decide)]
          exact m2.2.1 k hk
        · rw [sI_n (by decide), sI_n (by decide)]
          exact m2.2.2.1
        · rw [sI_n (by decide), sI_n (by decide)]
          exact m2.2.2.2
      generalize (sI (sI ρ1 1030 i (nI q)) 1031 i (nI p)) = ρ2 at *
      have hS2 := hlpS_ok hS hp hq z
      refine ok_bind (ok_fr (ok_bv (tillM_ok hT (by omega) (by omega) 200 fu 0 (hlpS s p q i) ρ2 (by omega) (by unfold fu; omega) hS2 (show (s 0 7).toInt + 200 < 3000 by omega) hm2 hw2) : Ok (X12_paidIn (nI p) (nI q) ρ2) _) (fr_X12_paidIn _ _ _ Fr.refl)) ?_
      rintro ⟨x, ρ3⟩ ⟨hx, f3⟩
      have hx : x = tillF T (6 * p + q) 200 0 (hlpS s p q i) := hx
      have f3 : Fr L_X12_paidIn K_X12_paidIn ρ2 ρ3 := f3
      have h13 : MN T ρ3 := ((h1.keep f1 (by decide)).keep f2 (by decide)).keep f3 (by decide)
      have h23 : rowR (tN T) s (ρ3.1 1028) := by
        rw [(f3.off (A := [1028]) (B := []) (by decide)).1 1028 (by decide), (f2.off (A := [1028]) (B := []) (by decide)).1 1028 (by decide), (f1.off (A := [1028]) (B := []) (by decide)).1 1028 (by decide)]
        exact h2
      refine ok_bv ?_
      have hexp : hlpF T s p q (r + 1) i a = hlpF T s p q r (i + 1) (if x ≠ -1 ∧ (a.1 = -1 ∨ x < a.1) then (x, nI i) else a) := by
        show hlpF T s p q r (i + 1) (if i = q then a else _) = _
        rw [if_neg z, hx]
      have skip : (hlpF T s p q (r + 1) i a = hlpF T s p q r (i + 1) a) → Ok (X12_help_101 (X12_help_32 n) (nI p) (nI q) w (hlpA a).1 (hlpA a).2 (nI i) ρ3) (fun x => x.1 = if w = 0 then (hlpF T s p q (r + 1) i a).1 else (hlpF T s p q (r + 1) i a).2) := by
        intro e
        unfold X12_help_101
        refine ok_bv ?_
        rw [ni_succ, e]
        exact ih n (i + 1) ρ3 a (by omega) (by omega) h13 h23 h3
      show Ok (if x < 0 then X12_help_101 _ _ _ _ _ _ _ ρ3 else if x < (hlpA a).1 then _ else _) _
      rcases tillF_r T (6 * p + q) 200 0 (hlpS s p q i) with g | ⟨k, -, hk2, g⟩
      · rw [← hx] at g
        refine ok_pos (by rw [g]; decide) (skip ?_)
        rw [hexp, if_neg (fun v => v.1 g)]
      · rw [← hx] at g
        have hne : x ≠ -1 := by rw [g]; exact ni_ne_neg (by omega)
        refine ok_neg (by rw [g]; exact Int32.not_lt.mpr (ni_nn (by omega))) ?_
        refine ok_ite (fun y => ?_) (fun y => skip ?_)
        · have htk : hlpF T s p q (r + 1) i a = hlpF T s p q r (i + 1) (x, nI i) := by
            have hv : a.1 = -1 ∨ x < a.1 := by
              unfold hlpA at y
              by_cases v : a.1 = -1
              · exact .inl v
              · rw [if_neg v] at y
                exact .inr y
            rw [hexp, if_pos ⟨hne, hv⟩]
          unfold X12_help_101
          refine ok_bv ?_
          rw [ni_succ, htk]
          have := ih n (i + 1) ρ3 (x, nI i) (by omega) (by omega) h13 h23 (.inr ⟨⟨k, by omega, g⟩, i, by omega, rfl⟩)
          unfold hlpA at this
          rw [if_neg hne] at this
          exact this
        · rw [hexp, if_neg]
          rintro ⟨-, v⟩
          unfold hlpA at y
          rcases v with v | v
          · rw [if_pos v, g] at y
            exact y (by rw [show (201 : Int32) = nI 201 from rfl, ni_lt (by omega) (by omega)]; omega)
          · by_cases v2 : a.1 = -1
            · rw [if_pos v2, g] at y
              exact y (by rw [show (201 : Int32) = nI 201 from rfl, ni_lt (by omega) (by omega)]; omega)
            · rw [if_neg v2] at y
              exact y v
theorem s_help (a0 a1 a2 : Int32) : StpI Inv (X11_help a0 a1 a2) (X12_help a0 a1 a2) := by
  refine stpQ (fun σ => fr_X11_help a0 a1 a2 σ Fr.refl) (fun σ => fr_X12_help a0 a1 a2 σ Fr.refl) (by decide) (by decide) (fun σ ρ hI => ?_)
  obtain ⟨t, T, s, h1, h2, -, -, -, -, -, -, -⟩ := hI
  show Eq2 _ _
  have hT := h1.2.2.2.1
  have hn := hT.1
  have ht := h1.1
  have hpast := h2.1.2
  unfold X11_help X12_help
  refine eq2_lbind (isPairC_ok h1 a0 a1) (eq2_rbind (areTwo_ok h1 a0 a1) ?_)
  cases hb : isTwo (tN T) a0 a1 with
  | false => exact eq2_lpos rfl (eq2_rpos rfl (eq2_some rfl))
  | true =>
    obtain ⟨p, q, hp, hq, hpq, rfl, rfl⟩ := isTwo_t hn hb
    obtain ⟨b, e1, e2, e3⟩ := zero1_ok a2 σ ρ
    refine eq2_lneg one_ne (eq2_rneg one_ne (eq2_lbind e1 (eq2_rbind e2 ?_)))
    cases b with
    | false => exact eq2_lpos rfl (eq2_rpos rfl (eq2_some rfl))
    | true =>
      refine eq2_lneg one_ne (eq2_rneg one_ne ?_)
      show Eq2 (gT (σ.1 0 12) _) _
      rw [h1.2.1, gT_ok h1.1]
      refine ⟨if a2 = 0 then (hlpF T s p q (tN T) 0 (-1, -1)).1 else (hlpF T s p q (tN T) 0 (-1, -1)).2, ?_, ?_⟩
      · unfold X1_findHelper
        refine ok_bind (P := fun σ' => (σ'.1 43 4, σ'.1 43 5) = hlpF T s p q (tN T) 0 (-1, -1)) ?_ (fun σ' hr => ?_)
        · refine ok_bv (ok_bv (ok_bv (hlpC_ok hT h1.1 h2.1.1 hpast hp hq (tN T) fu 0 _ (-1, -1) (by omega) (by unfold fu; omega) (h1.2.2.2.2.1.keep (fun a g1 g2 _ _ _ => by funext b; rw [sI_n (by omega), sI_n (by omega)])) (h2.2.1.keep ?_ ?_ ?_ ?_ ?_ ?_) ?_ ?_)))
          all_goals try (funext b; rw [sI_n (by decide), sI_n (by decide)])
          · rw [sI_k (by decide), sI_e]
          · rw [sI_e]
        · refine ok_ite (fun x => ok_some ?_) (fun x => ok_some ?_)
          · rw [if_pos x, ← hr]
          · rw [if_neg x, ← hr]
      · exact ok_bv (ok_bv (ok_bv (hlpM_ok hT h2.1.1 hpast hp hq (tN T) fu 0 ρ (-1, -1) (by omega) (by unfold fu; omega) h1.2.2.2.2.2.2.1 h2.2.2 (.inl ⟨rfl, rfl⟩))))
