/-! town: the class takes the town over -/
theorem begin50_ok {t : Nat} : ∀ (r i n : Nat) (σ : Mem), i + r = 6 → r < n → Ok (X7_begin_50 31 t n (nI i) σ) (fun σ' => ∀ a c, σ'.1 a c = if a = 31 ∧ (c = 5 ∨ c = 6 ∨ c = 7) then 0 else if a = 33 ∧ i ≤ c ∧ c < 6 then -1 else if a = 34 ∧ i ≤ c ∧ c < 6 then nI c else σ.1 a c)
  | 0, i, n, σ, h1, h2 => by
    obtain ⟨n, rfl⟩ : ∃ j, n = j + 1 := ⟨n - 1, by omega⟩
    rw [X7_begin_50]
    refine ok_pos ((ni_le (a := 6) (by omega) (by omega)).mpr (by omega)) (ok_bv (ok_bv (ok_bv (ok_some (fun a c => ?_)))))
    by_cases z : a = 31 ∧ (c = 5 ∨ c = 6 ∨ c = 7)
    · rw [if_pos z, sI_r]
      by_cases y7 : c = 7
      · rw [if_pos ⟨z.1, y7⟩]
      rw [if_neg (by omega), sI_r]
      by_cases y6 : c = 6
      · rw [if_pos ⟨z.1, y6⟩]
      rw [if_neg (by omega), sI_r, if_pos (by omega)]
    · rw [if_neg z, if_neg (show ¬ (a = 33 ∧ i ≤ c ∧ c < 6) by omega), if_neg (show ¬ (a = 34 ∧ i ≤ c ∧ c < 6) by omega), sI_r, if_neg (by omega), sI_r, if_neg (by omega), sI_r, if_neg (by omega)]
  | r + 1, i, n, σ, h1, h2 => by
    obtain ⟨n, rfl⟩ : ∃ j, n = j + 1 := ⟨n - 1, by omega⟩
    have gb := ib_t (n := i) (k := 6) (by omega) (by omega)
    rw [X7_begin_50]
    refine ok_neg (by rw [show (6 : Int32) = nI 6 from rfl, ni_le (by omega) (by omega)]; omega) (ok_pos gb (ok_bv (ok_pos gb (ok_bv (ok_bv ?_)))))
    rw [ni_cl (by omega), ni_succ]
    refine ok_mono (begin50_ok r (i + 1) n _ (by omega) (by omega)) (fun σ' g a c => ?_)
    rw [g a c]
    by_cases z : a = 31 ∧ (c = 5 ∨ c = 6 ∨ c = 7)
    · rw [if_pos z, if_pos z]
    rw [if_neg z, if_neg z]
    by_cases y3 : a = 33
    · by_cases e : c = i
      · rw [if_neg (show ¬ (a = 33 ∧ i + 1 ≤ c ∧ c < 6) by omega), if_neg (show ¬ (a = 34 ∧ i + 1 ≤ c ∧ c < 6) by omega), if_pos (show a = 33 ∧ i ≤ c ∧ c < 6 by omega), sI_n (by omega), sI_r, if_pos ⟨by omega, e⟩]
      · rw [if_neg (show ¬ (a = 34 ∧ i + 1 ≤ c ∧ c < 6) by omega), if_neg (show ¬ (a = 34 ∧ i ≤ c ∧ c < 6) by omega), sI_k e, sI_k e]
        have q : (a = 33 ∧ i + 1 ≤ c ∧ c < 6) = (a = 33 ∧ i ≤ c ∧ c < 6) := propext (by omega)
        simp only [q]
    · rw [if_neg (show ¬ (a = 33 ∧ i + 1 ≤ c ∧ c < 6) by omega), if_neg (show ¬ (a = 33 ∧ i ≤ c ∧ c < 6) by omega)]
      by_cases y4 : a = 34
      · by_cases e : c = i
        · rw [if_neg (show ¬ (a = 34 ∧ i + 1 ≤ c ∧ c < 6) by omega), if_pos (show a = 34 ∧ i ≤ c ∧ c < 6 by omega), sI_r, if_pos ⟨by omega, e⟩, e]
        · rw [sI_k e, sI_k e]
          have q : (a = 34 ∧ i + 1 ≤ c ∧ c < 6) = (a = 34 ∧ i ≤ c ∧ c < 6) := propext (by omega)
          simp only [q]
      · rw [if_neg (show ¬ (a = 34 ∧ i + 1 ≤ c ∧ c < 6) by omega), if_neg (show ¬ (a = 34 ∧ i ≤ c ∧ c < 6) by omega), sI_n (by omega), sI_n (by omega)]
theorem begin_ok {u : Nat} {σ : Mem} (hu : u = 7 ∨ u = 124) : Ok (X7_begin 31 u σ) (fun σ' => (∀ p, p < 6 → σ'.1 32 p = σ.1 (u + 1) p ∧ σ'.1 33 p = -1 ∧ σ'.1 34 p = nI p ∧ σ'.1 35 p = σ.1 (u + 7) p) ∧ (∀ k, k < 36 → σ'.1 36 k = σ.1 (u + 8) k) ∧ σ'.1 31 5 = 0 ∧ σ'.1 31 6 = 0 ∧ σ'.1 31 7 = 0 ∧ ∀ a c, ¬ (31 ≤ a ∧ a ≤ 36) → σ'.1 a c = σ.1 a c) := by
  unfold X7_begin
  refine ok_pos (cpok_t (a := 0) (b := 0) (c := 6) (by omega) (by omega) (by omega) (by omega) (by omega)) (ok_bv (ok_pos (cpok_t (a := 0) (b := 0) (c := 6) (by omega) (by omega) (by omega) (by omega) (by omega)) (ok_bv (ok_pos (cpok_t (a := 0) (b := 0) (c := 36) (by omega) (by omega) (by omega) (by omega) (by omega)) (ok_bv (ok_bv ?_))))))
  rw [show (0 : Int32).toNatClampNeg = 0 by decide, show (6 : Int32).toNatClampNeg = 6 by decide, show (36 : Int32).toNatClampNeg = 36 by decide]
  refine ok_mono (begin50_ok 6 0 fu _ (by omega) (by decide)) (fun σ' g => ⟨fun p hp => ⟨?_, ?_, ?_, ?_⟩, fun k hk => ?_, ?_, ?_, ?_, fun a c h => ?_⟩)
  · rw [g, if_neg (by omega), if_neg (by omega), if_neg (by omega), sC_n (by omega), sC_n (by omega), sC_o, if_pos (by omega), Nat.sub_zero, Nat.zero_add]
  · rw [g, if_neg (by omega), if_pos (by omega)]
  · rw [g, if_neg (by omega), if_neg (by omega), if_pos (by omega)]
  · rw [g, if_neg (by omega), if_neg (by omega), if_neg (by omega), sC_n (by omega), sC_o, if_pos (by omega), Nat.sub_zero, Nat.zero_add, sC_n (by omega)]
  · rw [g, if_neg (by omega), if_neg (by omega), if_neg (by omega), sC_o, if_pos (by omega), Nat.sub_zero, Nat.zero_add, sC_n (by omega), sC_n (by omega)]
  · rw [g, if_pos (by omega)]
  · rw [g, if_pos (by omega)]
  · rw [g, if_pos (by omega)]
  · rw [g, if_neg (by omega), if_neg (by omega), if_neg (by omega), sC_n (by omega), sC_n (by omega), sC_n (by omega)]
theorem t78_ok {u : Nat} {σ : Mem} (hu : u = 7 ∨ u = 124) (h012 : σ.1 0 12 = nI u) : Ok (X11_town_78 fu (nI 0) σ) (fun t => t.1 = σ.1 u 12 ∧ ∀ a c, t.2.1 a c = if a = 122 ∧ c < 3 then 0 else σ.1 a c) := by
  refine ok_loop0 (F := X11_town_78) (N := 3) (I := fun i ρ' => ∀ a c, ρ'.1 a c = if a = 122 ∧ c < i then 0 else σ.1 a c) 0 σ (by omega) (by omega) (fun a c => by rw [if_neg (by omega)]) (fun n i s hi h next => ?_) (fun n s h => ?_)
  · rw [X11_town_78]
    refine ok_neg (by rw [show (3 : Int32) = nI 3 from rfl, ni_le (by omega) (by omega)]; omega) (ok_pos (ib_t hi (by omega)) (ok_bv (ok_bv ?_)))
    rw [ni_cl (by omega), ni_succ]
    refine next _ (fun a c => ?_)
    rw [sI_r, h]
    by_cases z : a = 122 ∧ c = i
    · rw [if_pos z, if_pos (by omega)]
    · rw [if_neg z]
      by_cases y : a = 122 ∧ c < i
      · rw [if_pos y, if_pos (by omega)]
      · rw [if_neg y, if_neg (by omega)]
  · rw [X11_town_78, gT_u hu (show s.1 0 12 = nI u by rw [h, if_neg (by omega)]; exact h012)]
    exact ok_pos (Int32.le_refl _) (ok_some ⟨by rw [h, if_neg (by omega)], h⟩)
theorem stRow_cong {σ σ' : Mem} (h : ∀ a c, 31 ≤ a → a ≤ 36 → σ'.1 a c = σ.1 a c) (j : Nat) : stRow σ' 31 j = stRow σ 31 j := by
  unfold stRow
  rw [h 31 5 (by omega) (by omega), h 31 6 (by omega) (by omega), h 31 7 (by omega) (by omega), h (31 + 1) _ (by omega) (by omega), h (31 + 2) _ (by omega) (by omega), h (31 + 3) _ (by omega) (by omega), h (31 + 4) _ (by omega) (by omega), h (31 + 5) _ (by omega) (by omega)]
theorem cEnd_ok {t u N : Nat} {σ σ1 : Mem} (ht : t = 7 ∨ t = 124) (hu : u = 7 ∨ u = 124) (e1 : X5_read (σ.1 0 13) σ = some (1, σ1)) (h012 : σ1.1 0 12 = nI t) (h23 : σ1.1 2 3 = nI u) (h12 : σ1.1 u 12 = nI N) :
    Ok (X11_town σ) (fun r => r.1 = nI N ∧ r.2.1 0 12 = nI u ∧ r.2.1 2 3 = nI t ∧ r.2.1 0 13 = 0 ∧ r.2.1 0 14 = 0 ∧ (∀ p, p < 6 → r.2.1 32 p = σ1.1 (u + 1) p ∧ r.2.1 33 p = -1 ∧ r.2.1 34 p = nI p ∧ r.2.1 35 p = σ1.1 (u + 7) p) ∧ (∀ k, k < 36 → r.2.1 36 k = σ1.1 (u + 8) k) ∧ (r.2.1 31 5 = 0 ∧ r.2.1 31 6 = 0 ∧ r.2.1 31 7 = 0) ∧ (r.2.1 37 1 = 0 ∧ r.2.1 37 2 = 0) ∧ (∀ j, j < 63 → r.2.1 38 j = stRow r.2 31 j) ∧ r.2.1 114 6 = 0 ∧ (∀ b, b < 3 → r.2.1 122 b = 0) ∧ ∀ a c, ¬ (a = 0 ∨ (a = 2 ∧ c = 3) ∨ (31 ≤ a ∧ a ≤ 38) ∨ (a = 114 ∧ c = 6) ∨ a = 122) → r.2.1 a c = σ1.1 a c) := by
  unfold X11_town
  refine ok_bindE e1 (ok_bv (ok_bv (ok_neg one_ne ?_)))
  rw [gT_u ht (show (sI σ1 0 13 0).1 0 12 = nI t by rw [sI_k (by decide)]; exact h012)]
  have ex : X5_exchange t (sI σ1 0 13 0) = some (u, sI (sI σ1 0 13 0) 2 3 (nI t)) := by
    unfold X5_exchange
    rw [gT_u hu (show (sI σ1 0 13 0).1 2 3 = nI u by rw [sI_n (by decide)]; exact h23), bv_eq]
  refine ok_bindE ex (ok_pos hu (ok_bv ?_))
  rw [gT_u hu (sI_e _ _ _ _)]
  obtain ⟨σ8, e8, b1, b2, b3, b4, b5, b6⟩ := begin_ok (u := u) (σ := sI (sI (sI σ1 0 13 0) 2 3 (nI t)) 0 12 (nI u)) hu
  refine ok_bindE e8 ?_
  have k8 : ∀ a c, ¬ (a = 0 ∨ (a = 2 ∧ c = 3)) → (sI (sI (sI σ1 0 13 0) 2 3 (nI t)) 0 12 (nI u)).1 a c = σ1.1 a c := fun a c h => by
    rw [sI_r, if_neg (by omega), sI_r, if_neg (by omega), sI_r, if_neg (by omega)]
  have m12 : σ8.1 0 12 = nI u := by rw [b6 _ _ (by omega), sI_e]
  have m13 : σ8.1 0 13 = 0 := by rw [b6 _ _ (by omega), sI_k (by decide), sI_n (by decide), sI_e]
  have m23 : σ8.1 2 3 = nI t := by rw [b6 _ _ (by omega), sI_n (by decide), sI_e]
  have kO : ∀ a c, ¬ (a = 0 ∨ (a = 2 ∧ c = 3) ∨ (31 ≤ a ∧ a ≤ 36)) → σ8.1 a c = σ1.1 a c := fun a c h => by
    rw [b6 a c (by omega), k8 a c (by omega)]
  have b1' : ∀ p, p < 6 → σ8.1 32 p = σ1.1 (u + 1) p ∧ σ8.1 33 p = -1 ∧ σ8.1 34 p = nI p ∧ σ8.1 35 p = σ1.1 (u + 7) p := fun p hp => by
    have := b1 p hp
    rw [k8 _ _ (by omega), k8 _ _ (by omega)] at this
    exact this
  have b2' : ∀ k, k < 36 → σ8.1 36 k = σ1.1 (u + 8) k := fun k hk => by
    rw [b2 k hk, k8 _ _ (by omega)]
  clear b1 b2 k8 b6
  unfold X3_begin
  obtain ⟨σ9, e9, s9⟩ := store_ok (o := 31) (a := 38) (al := 2583) (m := 0) (σ := sI (sI σ8 37 1 0) 37 2 0) (.inr (by omega)) (by omega) (by omega)
  have f9 : Fr (L_X7_store 31 38 2583) (K_X7_store 31 38 2583) (sI (sI σ8 37 1 0) 37 2 0) σ9 := fr_X7_store 31 38 2583 (nI 0) _ Fr.refl _ e9
  have k9 : ∀ a c, a ≠ 38 → a ≠ 37 → σ9.1 a c = σ8.1 a c := fun a c h1 h2 => by
    rw [f9.1 a c (by unfold L_X7_store; simp; omega) (by unfold K_X7_store; simp), sI_n h2, sI_n h2]
  have k9' : σ9.1 37 1 = 0 ∧ σ9.1 37 2 = 0 := by
    rw [f9.1 37 1 (by unfold L_X7_store; simp) (by unfold K_X7_store; simp), f9.1 37 2 (by unfold L_X7_store; simp) (by unfold K_X7_store; simp)]
    exact ⟨by rw [sI_k (by decide), sI_e], sI_e _ _ _ _⟩
  refine ok_bindE (b := σ9) (by rw [bv_eq, bv_eq]; show ((X7_store 31 38 2583 (nI 0) _).bind _) = _; rw [e9]; rfl) ?_
  unfold X8_forget
  refine ok_bindE (b := sI σ9 114 6 0) (by rw [bv_eq]) (ok_bv (ok_bv ?_))
  refine ok_mono (t78_ok hu (show (sI (sI σ9 114 6 0) 0 14 0).1 0 12 = nI u by rw [sI_k (by decide), sI_n (by decide), k9 _ _ (by decide) (by decide)]; exact m12)) (fun r g => ?_)
  obtain ⟨g1, g2⟩ := g
  have kF : ∀ a c, ¬ (a = 122 ∨ (a = 0 ∧ c = 14) ∨ (a = 114 ∧ c = 6)) → r.2.1 a c = σ9.1 a c := fun a c h => by
    rw [g2, if_neg (by omega), sI_r, if_neg (by omega), sI_r, if_neg (by omega)]
  refine ⟨?_, ?_, ?_, ?_, ?_, fun p hp => ?_, fun k hk => ?_, ⟨?_, ?_, ?_⟩, ⟨?_, ?_⟩, fun j hj => ?_, ?_, fun b hb => ?_, fun a c h => ?_⟩
  · rw [g1, sI_n (by omega), sI_n (by omega), k9 _ _ (by omega) (by omega), kO _ _ (by omega)]
    exact h12
  · rw [kF _ _ (by omega), k9 _ _ (by decide) (by decide)]
    exact m12
  · rw [kF _ _ (by omega), k9 _ _ (by decide) (by decide)]
    exact m23
  · rw [kF _ _ (by omega), k9 _ _ (by decide) (by decide)]
    exact m13
  · rw [g2, if_neg (by omega), sI_e]
  · rw [kF _ _ (by omega), k9 _ _ (by decide) (by decide), kF _ _ (by omega), k9 _ _ (by decide) (by decide), kF _ _ (by omega), k9 _ _ (by decide) (by decide), kF _ _ (by omega), k9 _ _ (by decide) (by decide)]
    exact b1' p hp
  · rw [kF _ _ (by omega), k9 _ _ (by decide) (by decide)]
    exact b2' k hk
  · rw [kF _ _ (by omega), k9 _ _ (by decide) (by decide)]
    exact b3
  · rw [kF _ _ (by omega), k9 _ _ (by decide) (by decide)]
    exact b4
  · rw [kF _ _ (by omega), k9 _ _ (by decide) (by decide)]
    exact b5
  · rw [kF _ _ (by omega)]
    exact k9'.1
  · rw [kF _ _ (by omega)]
    exact k9'.2
  · rw [kF _ _ (by omega), s9, if_pos (by omega), Nat.sub_zero]
    refine (stRow_cong (σ := sI (sI σ8 37 1 0) 37 2 0) (σ' := r.2) (fun a c h1 h2 => ?_) j).symm
    rw [kF _ _ (by omega), k9 _ _ (by omega) (by omega), sI_n (by omega), sI_n (by omega)]
  · rw [g2, if_neg (by omega), sI_n (by decide), sI_e]
  · rw [g2, if_pos ⟨rfl, hb⟩]
  · rw [kF _ _ (by omega), k9 _ _ (by omega) (by omega), kO _ _ (by omega)]
