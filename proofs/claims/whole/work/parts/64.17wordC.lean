/-! a number of the law told otherwise: the class's rolls, start and trial -/
theorem turn_cd {T : Tn} {s h w : St} {b : Bool} {c : Nat} (hp : (w 4, w 5) = if b then paysF T h (tN T) else (s 4, dl c ((paysF T h (tN T)).2 c))) (h5 : w 0 5 = h 0 5) (h6 : w 0 6 = h 0 6) :
    turnF T w 4 = (cdS b c s (hourF T h)).1 ∧ turnF T w 5 = (cdS b c s (hourF T h)).2 ∧ turnF T w 0 5 = hourF T h 0 5 ∧ turnF T w 0 6 = hourF T h 0 6 ∧ turnF T w 2 = w 2 ∧ turnF T w 3 = w 3 := by
  have e4 : w 4 = (cdS b c s (hourF T h)).1 := by
    unfold cdS
    cases b with
    | true =>
      rw [if_pos rfl] at hp ⊢
      rw [hourF_coin, ← hp]
    | false =>
      rw [if_neg (by decide)] at hp ⊢
      exact congrArg Prod.fst hp
  have e5 : (if w 0 6 + 1 = nI (tD T) then (fun j => intF T (w 0 5) (w 5 j)) else w 5) = (cdS b c s (hourF T h)).2 := by
    unfold cdS
    cases b with
    | true =>
      rw [if_pos rfl] at hp ⊢
      rw [hourF_debt, ← hp, h5, h6]
    | false =>
      rw [if_neg (show ¬ (false = true) by decide)] at hp
      have hp : w 5 = dl c ((paysF T h (tN T)).2 c) := congrArg Prod.snd hp
      show _ = dl c (hourF T h 5 c)
      rw [hourF_debt, hp, h5, h6]
      show _ = dl c ((if h 0 6 + 1 = nI (tD T) then (fun j => intF T (h 0 5) ((paysF T h (tN T)).2 j)) else (paysF T h (tN T)).2) c)
      by_cases z : h 0 6 + 1 = nI (tD T)
      · rw [if_pos z, if_pos z]
        funext k
        show intF T (h 0 5) (dl c _ k) = dl c (intF T (h 0 5) _) k
        unfold dl
        by_cases y : k = c
        · rw [if_pos y, if_pos y]
        · rw [if_neg y, if_neg y, intF_z]
      · rw [if_neg z, if_neg z]
  rw [hourF_date, hourF_hour, ← e4, ← e5, ← h5, ← h6]
  unfold turnF
  by_cases z : w 0 6 + 1 = nI (tD T)
  · rw [if_pos z, if_pos z, if_pos z, if_pos z]
    exact ⟨rfl, rfl, rfl, rfl, rfl, rfl⟩
  · rw [if_neg z, if_neg z, if_neg z, if_neg z]
    exact ⟨rfl, rfl, rfl, rfl, rfl, rfl⟩
theorem cdS_c (b : Bool) (c : Nat) (s h : St) : (cdS b c s h).2 c = h 5 c := by
  unfold cdS
  cases b with
  | true => rfl
  | false =>
    show dl c (h 5 c) c = _
    unfold dl
    rw [if_pos rfl]
theorem cdS_okD {b : Bool} {c n : Nat} {s h : St} (hD : okD n (h 5)) : okD n (cdS b c s h).2 := by
  unfold cdS
  cases b with
  | true => exact hD
  | false =>
    intro i j hi hj
    show (∃ v, v ≤ 9999 ∧ dl c (h 5 c) (6 * i + j) = nI v) ∧ (_ → dl c (h 5 c) (6 * i + j) = 0)
    unfold dl
    by_cases z : 6 * i + j = c
    · rw [if_pos z, ← z]
      exact hD i j hi hj
    · rw [if_neg z]
      exact ⟨⟨0, by omega, rfl⟩, fun _ => rfl⟩
def stW (b : Bool) (c : Nat) (s : St) : St := fun r j => if r = 4 then (cdS b c s s).1 j else if r = 5 then (cdS b c s s).2 j else s r j
def upS (w : St) (cd : (Nat → Int32) × (Nat → Int32)) : St := fun r j => if r = 4 then cd.1 j else if r = 5 then cd.2 j else w r j
theorem paysG_no {T : Tn} {s : St} {cd : (Nat → Int32) × (Nat → Int32)} : ∀ i, (∀ p, p < i → wts T s p = false) → paysG T s cd i = cd
  | 0, _ => rfl
  | i + 1, h => by
    show (payF T s i (paysG T s cd i)).2 = cd
    rw [paysG_no i (fun p hp => h p (by omega))]
    unfold payF
    rw [if_pos (.inl (h i (by omega)))]
theorem freed_ok {T : Tn} {s : St} {t m c p q : Nat} {b : Bool} {σ : Mem} (hT : okT T) (hS : okN T s) (ht : t = 7 ∨ t = 124) (hm : m ≤ 60) (hp : p < 6) (hq : q < 6) (hc : c = 6 * p + q) (h : CT T t σ) (hs : CS T (stW b c s) σ 54) (hr : ∀ i, i < m → RollOk T (hoursF T i s) (σ.1 60 i)) (hn : b = false → noC T s c) :
    Ok (X1_isFreed t (nI c) (nI m) σ) (fun r => r.1 = tr (decide (hoursF T m s 5 c = 0))) := by
  have hn6 := hT.1
  have bc := ib_t (n := c) (k := 36) (by omega) (by omega)
  have cc := ni_cl (n := c) (by omega)
  unfold X1_isFreed
  refine ok_bind (ok_fr (copy_ok (a := 48) (b := 54) hT (by omega) hs) (fr_X7_copy _ _ _ Fr.refl)) ?_
  rintro σ1 ⟨h1, f1⟩
  have f1 : Fr (L_X7_copy 48 54) (K_X7_copy 48 54) σ σ1 := f1
  have hT1 : CT T t σ1 := h.copy ht (by omega) f1
  have e60 : σ1.1 60 = σ.1 60 := (f1.off (A := [60]) (B := []) (by decide)).1 60 (by decide)
  have fin : ∀ σ' x, σ'.1 53 c = x → (x = 0 ↔ hoursF T m s 5 c = 0) → Ok (X1_isFreed_79 t (nI c) σ') (fun r => r.1 = tr (decide (hoursF T m s 5 c = 0))) := by
    intro σ' x g1 g2
    unfold X1_isFreed_79
    rw [cc, g1]
    refine ok_pos bc (ok_ite (fun z => ok_some ?_) (fun z => ok_some ?_))
    · rw [decide_eq_true (g2.mp z)]
      rfl
    · rw [decide_eq_false (fun g => z (g2.mpr g))]
      rfl
  refine ok_bv ?_
  refine ok_loop0 (F := fun n i σ => X1_isFreed_14 t n (nI c) (nI m) i σ) (N := m) (I := fun i σ' => CT T t σ' ∧ σ'.1 60 = σ.1 60 ∧ ∃ w, CS T w σ' 48 ∧ (∀ p, p < tN T → w 2 p = s 2 p ∧ w 3 p = s 3 p) ∧ w 0 5 = hoursF T i s 0 5 ∧ w 0 6 = hoursF T i s 0 6 ∧ w 4 = (cdS b c s (hoursF T i s)).1 ∧ w 5 = (cdS b c s (hoursF T i s)).2) 0 σ1 (by omega) (by omega) ⟨hT1, e60, stW b c s, h1, fun p hp => ⟨rfl, rfl⟩, rfl, rfl, rfl, rfl⟩ ?_ ?_
  · rintro n i σ' hi ⟨hT', e60', w, hw, hw23, hw5, hw6, hwc, hwd⟩ hk
    have hSi := okS_hours hT hS.1 i (by have := hS.2; omega)
    have hDi := okS_D hSi
    have a2 := hoursF_aim T s i
    have a3 := hoursF_stand T s i
    have e53 : σ'.1 53 c = hoursF T i s 5 c := by
      have := hw.2.1 c (by omega)
      rw [hwd, cdS_c] at this
      exact this
    have hnx : hoursF T (i + 1) s = hourF T (hoursF T i s) := rfl
    have hz : hoursF T i s 5 c = 0 → hoursF T m s 5 c = 0 := fun g => hoursF_z g m (by omega)
    have hri := hr i hi
    generalize hoursF T i s = g at *
    have b60 := ib_t (n := i) (k := 60) (by omega) (by omega)
    have ci := ni_cl (n := i) (by omega)
    show Ok (X1_isFreed_14 t (n + 1) (nI c) (nI m) (nI i) σ') _
    rw [X1_isFreed_14]
    refine ok_neg (by rw [ni_le (by omega) (by omega)]; omega) (ok_pos bc ?_)
    rw [cc, e53]
    refine ok_ite (fun z => ?_) (fun z => ?_)
    · have z0 : g 5 c = 0 := by
        rw [hc] at z ⊢
        exact (okD_le hDi hp hq).mp z
      refine fin σ' _ e53 ⟨hz, fun _ => z0⟩
    · refine ok_pos b60 ?_
      rw [ci, e60']
      -- the turn of the hour
      have go : ∀ σ3, CT T t σ3 → σ3.1 60 = σ.1 60 → CS T (upS w (paysG T g (cdS b c s g) (tN T))) σ3 48 → Ok (X1_isFreed_61 t (X1_isFreed_14 t n) (nI c) (nI m) (nI i) σ3) (fun r => r.1 = tr (decide (hoursF T m s 5 c = 0))) := by
        intro σ3 t1 t2 t3
        unfold X1_isFreed_61
        refine ok_bind (ok_fr (turn_ok (o := 44) hT (sep44 ht) t1 t3 (paysG_okD (cdS_okD hDi) _) (by
          obtain ⟨k, k1, k2⟩ := hSi.2.2.1
          exact ⟨k, k1, hw6.trans k2⟩)) (fr_X0_turn _ _ _ _ Fr.refl)) ?_
        rintro σ4 ⟨u1, f4⟩
        have f4 : Fr [45, 49, 53, t + 17] [(48, 5), (48, 6), (48, 7)] σ3 σ4 := f4
        refine ok_bv ?_
        rw [ni_succ]
        have hG : ((upS w (paysG T g (cdS b c s g) (tN T))) 4, (upS w (paysG T g (cdS b c s g) (tN T))) 5) = if b then paysF T g (tN T) else (s 4, dl c ((paysF T g (tN T)).2 c)) := by
          rw [← paysG_S hT hSi hS.1 a2 a3 hn (tN T) (Nat.le_refl _)]
          rfl
        obtain ⟨v1, v2, v3, v4, v5, v6⟩ := turn_cd hG hw5 hw6
        refine hk σ4 ⟨t1.keep (fun a g1 g2 g3 g4 g5 => by funext j; exact f4.1 a j (by simp; omega) (by simp; omega)), ?_, turnF T (upS w (paysG T g (cdS b c s g) (tN T))), u1, fun p hp => ?_, ?_, ?_, ?_, ?_⟩
        · rw [← t2]
          funext j
          exact f4.1 60 j (by simp; omega) (by simp)
        · rw [v5, v6]
          exact hw23 p hp
        · rw [v3, hnx]
        · rw [v4, hnx]
        · rw [v1, hnx]
        · rw [v2, hnx]
      refine ok_ite (fun y => ?_) (fun y => ?_)
      · refine go σ' hT' e60' ?_
        rw [y] at hri
        rw [paysG_no (tN T) (fun p hp => by
          have := (hri.1 p hp).1
          rw [tb_zero] at this
          exact this.symm)]
        have : upS w (cdS b c s g) = w := by
          funext r j
          unfold upS
          by_cases g4 : r = 4
          · rw [if_pos g4, g4, hwc]
          · rw [if_neg g4]
            by_cases g5 : r = 5
            · rw [if_pos g5, g5, hwd]
            · rw [if_neg g5]
        rw [this]
        exact hw
      · refine ok_pos b60 ?_
        have hcr : CR T g σ' t 48 := ⟨hT', fun p hp => ⟨by rw [(hw.1 p hp).2.1, (hw23 p hp).1, a2], by rw [(hw.1 p hp).2.2.1, (hw23 p hp).2, a3]⟩, hw.2.2.1.trans hw5, hw.2.2.2.1.trans hw6⟩
        refine ok_bind (ok_fr (settle_ok (cd := cdS b c s g) hT hSi (sep44 ht) hcr hri ⟨fun p hp => ?_, fun k hk => ?_⟩ (cdS_okD hDi)) (fr_X0_settle _ _ _ _ _ Fr.refl)) ?_
        · rw [(hw.1 p hp).2.2.2, hwc]
        · rw [hw.2.1 k hk, hwd]
        · rintro σ3 ⟨⟨u1, -⟩, f3⟩
          have f3 : Fr [45, 47, 52, 53, t + 12] [] σ' σ3 := f3
          refine go σ3 (hT'.keep (fun a g1 g2 g3 g4 g5 => f3.ne (by simp; omega))) ((f3.ne (by simp; omega)).trans e60') ⟨fun p hp => ⟨?_, ?_, ?_, ?_⟩, fun k hk => ?_, ?_, ?_, ?_⟩
          · rw [f3.ne (by simp; omega)]
            exact (hw.1 p hp).1
          · rw [f3.ne (by simp; omega)]
            exact (hw.1 p hp).2.1
          · rw [f3.ne (by simp; omega)]
            exact (hw.1 p hp).2.2.1
          · exact u1.1 p hp
          · exact u1.2 k hk
          · rw [f3.ne (by simp; omega)]
            exact hw.2.2.1
          · rw [f3.ne (by simp; omega)]
            exact hw.2.2.2.1
          · rw [f3.ne (by simp; omega)]
            exact hw.2.2.2.2
  · rintro n σ' ⟨hT', e60', w, hw, hw23, hw5, hw6, hwc, hwd⟩
    show Ok (X1_isFreed_14 t (n + 1) (nI c) (nI m) (nI m) σ') _
    rw [X1_isFreed_14]
    refine ok_pos (Int32.le_refl _) (fin σ' _ (hw.2.1 c (by omega)) ?_)
    rw [hwd, cdS_c]
