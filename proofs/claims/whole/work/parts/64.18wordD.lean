/-! a number of the law told otherwise: the class's rolls and start -/
theorem rolls_ok {T : Tn} {s : St} {t m : Nat} {σ : Mem} (hT : okT T) (hS : okN T s) (ht : t = 7 ∨ t = 124) (hm : m ≤ 60) (h : CT T t σ) (hs : CS T s σ 31) :
    Ok (X1_keepRolls t 31 (nI m) σ) (fun σ' => ∀ i, i < m → RollOk T (hoursF T i s) (σ'.1 60 i)) := by
  have hn6 := hT.1
  unfold X1_keepRolls
  refine ok_bind (ok_fr (copy_ok (a := 48) (b := 31) hT (by omega) hs) (fr_X7_copy _ _ _ Fr.refl)) ?_
  rintro σ1 ⟨h1, f1⟩
  have f1 : Fr (L_X7_copy 48 31) (K_X7_copy 48 31) σ σ1 := f1
  have hT1 : CT T t σ1 := h.copy ht (by omega) f1
  refine ok_bv ?_
  refine ok_loop0 (F := fun n i σ => X1_keepRolls_11 t 31 n (nI m) i σ) (N := m) (I := fun i σ' => CT T t σ' ∧ (∀ j, j < i → RollOk T (hoursF T j s) (σ'.1 60 j)) ∧ ∃ w, CS T w σ' 48 ∧ (∀ p, p < tN T → w 1 p = hoursF T i s 1 p ∧ w 2 p = s 2 p ∧ w 3 p = s 3 p) ∧ w 0 5 = hoursF T i s 0 5 ∧ w 0 6 = hoursF T i s 0 6 ∧ okD (tN T) (w 5)) 0 σ1 (by omega) (by omega) ⟨hT1, fun j hj => by omega, s, h1, fun p hp => ⟨rfl, rfl, rfl⟩, rfl, rfl, okS_D hS.1⟩ ?_ ?_
  · rintro n i σ' hi ⟨hT', hro, w, hw, hw1, hw5, hw6, hwd⟩ hk
    have hSi := okS_hours hT hS.1 i (by have := hS.2; omega)
    have a2 := hoursF_aim T s i
    have a3 := hoursF_stand T s i
    have b60 := ib_t (n := i) (k := 60) (by omega) (by omega)
    have ci := ni_cl (n := i) (by omega)
    show Ok (X1_keepRolls_11 t 31 (n + 1) (nI m) (nI i) σ') _
    rw [X1_keepRolls_11]
    refine ok_neg (by rw [ni_le (by omega) (by omega)]; omega) ?_
    have hcr : CR T (hoursF T i s) σ' t 48 := ⟨hT', fun p hp => ⟨by rw [(hw.1 p hp).2.1, (hw1 p hp).2.1, a2], by rw [(hw.1 p hp).2.2.1, (hw1 p hp).2.2, a3]⟩, hw.2.2.1.trans hw5, hw.2.2.2.1.trans hw6⟩
    refine ok_bind (ok_fr (call_ok hT hSi (sep44 ht) hcr (fun p hp => (hw.1 p hp).1.trans (hw1 p hp).1)) (fr_X0_call _ _ _ _ Fr.refl)) ?_
    rintro ⟨x, σ3⟩ ⟨⟨u1, u2, -⟩, f3⟩
    have f3 : Fr [45, 46, 49, t + 22] [] σ' σ3 := f3
    have u2 : ∀ p, p < tN T → σ3.1 49 p = plc T (hoursF T i s) p := u2
    refine ok_pos b60 (ok_bv ?_)
    rw [ci]
    have f4 : Fr [45, 46, 49, 60, t + 22] [] σ' (sI σ3 60 i x) := frI (f3.mono (by simp) (by simp)) (by simp)
    have hT4 : CT T t (sI σ3 60 i x) := hT'.keep (fun a g1 g2 g3 g4 g5 => f4.ne (by simp; omega))
    have hw4 : CS T (fun r j => if r = 1 then plc T (hoursF T i s) j else w r j) (sI σ3 60 i x) 48 := by
      refine ⟨fun p hp => ⟨?_, ?_, ?_, ?_⟩, fun k hk => ?_, ?_, ?_, ?_⟩
      · rw [sI_n (by decide)]
        exact u2 p hp
      · rw [f4.ne (by simp; omega)]
        exact (hw.1 p hp).2.1
      · rw [f4.ne (by simp; omega)]
        exact (hw.1 p hp).2.2.1
      · rw [f4.ne (by simp; omega)]
        exact (hw.1 p hp).2.2.2
      · rw [f4.ne (by simp; omega)]
        exact hw.2.1 k hk
      · rw [f4.ne (by simp; omega)]
        exact hw.2.2.1
      · rw [f4.ne (by simp; omega)]
        exact hw.2.2.2.1
      · rw [f4.ne (by simp; omega)]
        exact hw.2.2.2.2
    refine ok_bind (ok_fr (turn_ok (o := 44) hT (sep44 ht) hT4 hw4 hwd (by
      obtain ⟨k, k1, k2⟩ := hSi.2.2.1
      exact ⟨k, k1, hw6.trans k2⟩)) (fr_X0_turn _ _ _ _ Fr.refl)) ?_
    rintro σ5 ⟨v1, f5⟩
    have f5 : Fr [45, 49, 53, t + 17] [(48, 5), (48, 6), (48, 7)] (sI σ3 60 i x) σ5 := f5
    refine ok_bv ?_
    rw [ni_succ]
    have e60 : σ5.1 60 = (sI σ3 60 i x).1 60 := by
      funext j
      exact f5.1 60 j (by simp; omega) (by simp)
    refine hk σ5 ⟨hT4.keep (fun a g1 g2 g3 g4 g5 => by funext j; exact f5.1 a j (by simp; omega) (by simp; omega)), fun j hj => ?_, turnF T (fun r j => if r = 1 then plc T (hoursF T i s) j else w r j), v1, ?_⟩
    · rw [e60, sI_o, f3.ne (a := 60) (by simp; omega)]
      by_cases z : j = i
      · rw [if_pos z, z]
        exact u1
      · rw [if_neg z]
        exact hro j (by omega)
    · show (∀ p, p < tN T → _ = hourF T (hoursF T i s) 1 p ∧ _) ∧ _ = hourF T (hoursF T i s) 0 5 ∧ _ = hourF T (hoursF T i s) 0 6 ∧ _
      rw [hourF_place, hourF_date, hourF_hour, ← hw5, ← hw6]
      unfold turnF
      simp only [if_neg (show ¬ (0 : Nat) = 1 by decide)]
      by_cases z : w 0 6 + 1 = nI (tD T)
      · rw [if_pos z, if_pos z, if_pos z, if_pos z]
        refine ⟨fun p hp => ⟨rfl, (hw1 p hp).2.1, (hw1 p hp).2.2⟩, rfl, rfl, ?_⟩
        exact intF_okD hwd
      · rw [if_neg z, if_neg z, if_neg z, if_neg z]
        exact ⟨fun p hp => ⟨rfl, (hw1 p hp).2.1, (hw1 p hp).2.2⟩, rfl, rfl, hwd⟩
  · rintro n σ' ⟨-, hro, -⟩
    show Ok (X1_keepRolls_11 t 31 (n + 1) (nI m) (nI m) σ') _
    rw [X1_keepRolls_11]
    exact ok_pos (Int32.le_refl _) (ok_some hro)
theorem hangs_ok {T : Tn} {s : St} {t c : Nat} {σ : Mem} (hT : okT T) (hS : okS T s) (hc : c < 36) (h : CT T t σ) (hs : CS T s σ 31) : Ok (X1_hangsOnCoins t 31 (nI c) σ) (fun r => r.2 = σ ∧ (r.1 = 0 → noC T s c)) := by
  have hn6 := hT.1
  unfold X1_hangsOnCoins
  refine ok_bv ?_
  refine ok_loop0 (F := fun n i σ => X1_hangsOnCoins_3 t 31 n (nI c) i σ) (N := tN T) (I := fun i σ' => σ' = σ ∧ ∀ p, p < i → s 3 p = nI p ∨ tR T 6 p ≤ 0 ∨ s 2 p = -1 ∨ pix s p ≠ c) 0 σ (by omega) (by omega) ⟨rfl, fun p hp => by omega⟩ ?_ ?_
  · rintro n i σ' hi ⟨hσ, hI⟩ hk
    rw [hσ]
    have bi := ib_t (n := i) (k := 6) (by omega) (by omega)
    have ci := ni_cl (n := i) (by omega)
    have go : (s 3 i = nI i ∨ tR T 6 i ≤ 0 ∨ s 2 i = -1 ∨ pix s i ≠ c) → Ok (X1_hangsOnCoins_80 t 31 (X1_hangsOnCoins_3 t 31 n) (nI c) (nI i) σ) (fun r => r.2 = σ ∧ (r.1 = 0 → noC T s c)) := by
      intro g
      unfold X1_hangsOnCoins_80
      refine ok_bv ?_
      rw [ni_succ]
      refine hk σ ⟨rfl, fun p hp => ?_⟩
      by_cases z : p = i
      · rw [z]
        exact g
      · exact hI p (by omega)
    have e2 : σ.1 (31 + 2) i = s 2 i := (hs.1 i hi).2.1
    have e3 : σ.1 (31 + 3) i = s 3 i := (hs.1 i hi).2.2.1
    have e6 := (h.2.2.1 i hi).2.2.2.2.2
    show Ok (X1_hangsOnCoins_3 t 31 (n + 1) (nI c) (nI i) σ) _
    rw [X1_hangsOnCoins_3, h.1]
    refine ok_neg (by rw [ni_le (by omega) (by omega)]; omega) (ok_pos bi ?_)
    rw [ci, e3, e6]
    refine ok_ite (fun z => ?_) (fun z => ok_pos bi (ok_ite (fun y => ?_) (fun y => ?_)))
    · unfold X1_hangsOnCoins_38 X1_hangsOnCoins_39
      exact ok_pos rfl (go (.inl z))
    · unfold X1_hangsOnCoins_38 X1_hangsOnCoins_39
      exact ok_pos rfl (go (.inr (.inl y)))
    · unfold X1_hangsOnCoins_39
      refine ok_neg one_ne (ok_pos bi ?_)
      rw [ci, e2, e3]
      refine ok_ite (fun x => go (.inr (.inr (.inl x)))) (fun x => ok_pos bi (ok_pos bi ?_))
      obtain ⟨a, ha, ea⟩ := (hS.1 i hi).2.1
      rcases okS_aim hS hi with e | ⟨q, hq, -, e⟩
      · exact absurd e x
      have hix : pix s i = 6 * a + q := by unfold pix; rw [ea, e, ni_cell]; exact ni_cl (by omega)
      rw [ea, e]
      refine ok_bindE (cell_ok σ) (ok_ite (fun v => ok_some ⟨rfl, fun g => absurd g one_ne⟩) (fun v => go (.inr (.inr (.inr ?_)))))
      rw [hix]
      intro g
      apply v
      show nI (6 * a + q) = nI c
      rw [g]
  · rintro n σ' ⟨hσ, hI⟩
    rw [hσ]
    show Ok (X1_hangsOnCoins_3 t 31 (n + 1) (nI c) (nI (tN T)) σ) _
    rw [X1_hangsOnCoins_3, h.1]
    exact ok_pos (Int32.le_refl _) (ok_some ⟨rfl, fun _ => hI⟩)
theorem start_ok {T : Tn} {s : St} {t c : Nat} {σ : Mem} (hT : okT T) (hS : okS T s) (ht : t = 7 ∨ t = 124) (hc : c < 36) (h : CT T t σ) (hs : CS T s σ 31) : Ok (X1_keepStart t 31 (nI c) σ) (fun σ' => ∃ b, CS T (stW b c s) σ' 54 ∧ (b = false → noC T s c)) := by
  unfold X1_keepStart
  refine ok_bind (ok_fr (copy_ok (a := 54) (b := 31) hT (by omega) hs) (fr_X7_copy _ _ _ Fr.refl)) ?_
  rintro σ1 ⟨h1, f1⟩
  have f1 : Fr (L_X7_copy 54 31) (K_X7_copy 54 31) σ σ1 := f1
  have hT1 : CT T t σ1 := h.copy ht (by omega) f1
  have g1 := f1.off (A := [31, 32, 33, 34, 35, 36]) (B := []) (by decide)
  have hs1 : CS T s σ1 31 := hs.keep (g1.1 _ (by decide)) (g1.1 _ (by decide)) (g1.1 _ (by decide)) (g1.1 _ (by decide)) (g1.1 _ (by decide)) (g1.1 _ (by decide))
  refine ok_bind (hangs_ok hT hS hc hT1 hs1) ?_
  rintro ⟨x, σ2⟩ ⟨e2, hx⟩
  have e2 : σ2 = σ1 := e2
  subst e2
  have bc := ib_t (n := c) (k := 36) (by omega) (by omega)
  have cc := ni_cl (n := c) (by omega)
  refine ok_ite (fun z => ?_) (fun z => ok_some ⟨true, ?_, fun g => by cases g⟩)
  · refine ok_bind (ok_fr (fill_ok 0 σ2 (by omega)) (fr_J7_fill_53178 _ _ _ _ Fr.refl)) ?_
    rintro σ3 ⟨u1, f3⟩
    have f3 : Fr [59] [] σ2 σ3 := f3
    refine ok_pos bc (ok_pos bc (ok_bv (ok_some ⟨false, ?_, fun _ => hx z⟩)))
    rw [cc, show (31 : Nat) + 5 = 36 from rfl, f3.ne (a := 36) (by decide)]
    have e36 : σ2.1 36 c = s 5 c := hs1.2.1 c hc
    rw [e36]
    refine ⟨fun p hp => ⟨?_, ?_, ?_, ?_⟩, fun k hk => ?_, ?_, ?_, ?_⟩
    · rw [sI_n (by decide), f3.ne (by decide)]
      exact (h1.1 p hp).1
    · rw [sI_n (by decide), f3.ne (by decide)]
      exact (h1.1 p hp).2.1
    · rw [sI_n (by decide), f3.ne (by decide)]
      exact (h1.1 p hp).2.2.1
    · rw [sI_n (by decide), f3.ne (by decide)]
      exact (h1.1 p hp).2.2.2
    · show (sI σ3 59 c (s 5 c)).1 59 k = dl c (s 5 c) k
      rw [sI_o, u1 k hk]
      rfl
    · rw [sI_n (by decide), f3.ne (by decide)]
      exact h1.2.2.1
    · rw [sI_n (by decide), f3.ne (by decide)]
      exact h1.2.2.2.1
    · rw [sI_n (by decide), f3.ne (by decide)]
      exact h1.2.2.2.2
  · exact ⟨h1.1, h1.2.1, h1.2.2.1, h1.2.2.2.1, h1.2.2.2.2⟩
theorem CT_set {T : Tn} {t k : Nat} {v : Int32} {pr : Pg} {σ σ' : Mem} (hT : okT T) (h : CT T t σ) (hk : ∀ a, t ≤ a → a ≤ t + 23 → a ≠ t + 11 → a ≠ t + 12 → a ≠ t + 17 → a ≠ t + 22 → σ'.1 a = σ.1 a) (e11 : ∀ i, σ'.1 (t + 11) i = if i = k then v else σ.1 (t + 11) i) (e : tP T 0 = some pr) (h0 : (pr.getD k (0, 0)).1 = 0) : CT (setL T k v) t σ' := by
  have k0 : σ'.1 t = σ.1 t := hk t (by omega) (by omega) (by omega) (by omega) (by omega) (by omega)
  have kk : ∀ i, i ≤ 23 → i ≠ 11 → i ≠ 12 → i ≠ 17 → i ≠ 22 → σ'.1 (t + i) = σ.1 (t + i) := fun i h1 h2 h3 h4 h5 => hk (t + i) (by omega) (by omega) (by omega) (by omega) (by omega) (by omega)
  have hp := h.2.2.2.1
  rw [e] at hp
  have hp : σ.1 (t + 9) 5 = 1 ∧ FC pr σ (t + 9) := hp
  refine ⟨by rw [k0]; exact h.1, by rw [k0]; exact h.2.1, fun p hp => ?_, ?_, ?_, ?_, fun q e' => ?_⟩
  · rw [kk 1 (by omega) (by omega) (by omega) (by omega) (by omega), kk 2 (by omega) (by omega) (by omega) (by omega) (by omega), kk 3 (by omega) (by omega) (by omega) (by omega) (by omega), kk 4 (by omega) (by omega) (by omega) (by omega) (by omega), kk 5 (by omega) (by omega) (by omega) (by omega) (by omega), kk 6 (by omega) (by omega) (by omega) (by omega) (by omega)]
    exact h.2.2.1 p hp
  · rw [setL_tP e]
    show σ'.1 (t + 9) 5 = 1 ∧ FC (pr.set k (0, v)) σ' (t + 9)
    rw [kk 9 (by omega) (by omega) (by omega) (by omega) (by omega)]
    refine ⟨hp.1, ?_, fun i hi => ?_⟩
    · rw [kk 9 (by omega) (by omega) (by omega) (by omega) (by omega), List.length_set]
      exact hp.2.1
    · rw [List.length_set] at hi
      have q := hp.2.2 i hi
      have e10 : σ'.1 (t + 9 + 1) i = σ.1 (t + 9 + 1) i := by
        rw [show t + 9 + 1 = t + 10 from rfl, kk 10 (by omega) (by omega) (by omega) (by omega) (by omega)]
      have e11' : σ'.1 (t + 9 + 2) i = if i = k then v else σ.1 (t + 9 + 2) i := e11 i
      rw [e10, e11', List.getElem_set]
      by_cases z : k = i
      · subst z
        rw [if_pos rfl, if_pos rfl]
        rw [getD_at hi] at h0
        rcases q with g | g | g | g
        · exact .inl ⟨rfl, g.2.1, rfl⟩
        · rw [h0] at g
          exact absurd g.1 (by decide)
        · rw [h0] at g
          exact absurd g.1 (by decide)
        · rw [h0] at g
          exact absurd g.1 (by decide)
      · rw [if_neg z, if_neg (fun g => z g.symm)]
        exact q
  · rw [setL_tP' (by decide)]
    exact h.2.2.2.2.1.keep (kk 14 (by omega) (by omega) (by omega) (by omega) (by omega)) (kk 15 (by omega) (by omega) (by omega) (by omega) (by omega)) (kk 16 (by omega) (by omega) (by omega) (by omega) (by omega))
  · rw [setL_tP' (by decide)]
    exact h.2.2.2.2.2.1.keep (kk 19 (by omega) (by omega) (by omega) (by omega) (by omega)) (kk 20 (by omega) (by omega) (by omega) (by omega) (by omega)) (kk 21 (by omega) (by omega) (by omega) (by omega) (by omega))
  · rw [setL_tP e] at e'
    cases e'
    rw [kk 9 (by omega) (by omega) (by omega) (by omega) (by omega), (set_ok pr 0 k v h0 (hT.2.2.2.2 0 pr e).1).2.2]
    exact h.2.2.2.2.2.2 pr e
