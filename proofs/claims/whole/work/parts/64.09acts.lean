/-! aim, stand, offset, hours, undo, redo, image, back -/
def acA : List Nat := esA.filter (fun a => a < 31 || 38 < a)
def acC : List Nat := esC.filter (fun a => !(a == 1028) && !(a == 1039))
def acD : List (Nat × Nat) := esD.filter (fun b => !(b.2 == 69) && !(b.2 == 70))
theorem InvR.acts {σ σ' ρ ρ' : Mem} {L L' : List Nat} {K K' : List (Nat × Nat)} {t : Nat} {T : Tn} {s' : St} (h1 : I_town t T σ ρ) (h4 : I_box T σ ρ) (h5 : I_step T σ ρ) (h6 : I_lies σ ρ) (h7 : I_tape σ ρ) (h8 : I_fault σ ρ) (h9 : I_misc σ ρ) (f : Fr L K σ σ') (g : Fr L' K' ρ ρ') (c : offL L K acA esB = true) (c' : offL L' K' acC acD = true) (h2 : I_now T s' σ' ρ') (h3 : I_hist T s' σ' ρ') : InvR σ' ρ' := by
  have k : ∀ (A : List Nat) (B : List (Nat × Nat)), (∀ a, a ∈ A → a ∈ acA) → (∀ b, b ∈ B → b ∈ esB) → offL L K A B = true := fun A B x y => offL_sub c x y
  have k' : ∀ (A : List Nat) (B : List (Nat × Nat)), (∀ a, a ∈ A → a ∈ acC) → (∀ b, b ∈ B → b ∈ acD) → offL L' K' A B = true := fun A B x y => offL_sub c' x y
  exact ⟨t, T, s', h1.keep f g (k _ _ (by decide) (by decide)) (k' _ _ (by decide) (by decide)), h2, h3, h4.keep f g (k _ _ (by decide) (by decide)) (k' _ _ (by decide) (by decide)), h5.keep f g (k _ _ (by decide) (by decide)) (k' _ _ (by decide) (by decide)), h6.keep f g (k _ _ (by decide) (by decide)) (k' _ _ (by decide) (by decide)), h7.keep f g (k _ _ (by decide) (by decide)) (k' _ _ (by decide) (by decide)), h8.keep f g (k _ _ (by decide) (by decide)) (k' _ _ (by decide) (by decide)), h9.keep f g (k _ _ (by decide) (by decide)) (k' _ _ (by decide) (by decide))⟩
def setS (s : St) (k0 j0 : Nat) (v : Int32) : St := fun k j => if k = k0 ∧ j = j0 then v else s k j
theorem setS_row {n : Nat} {s : St} {f : Nat → Int32} {p : Nat} {v : Int32} {c : Nat} (hn : n ≤ 6) (hp : p < n) (hc : c = 2 ∨ c = 3) (h : rowR n s f) : rowR n (setS s c p v) (fun k => if k = 6 * (c - 1) + p then v else f k) := by
  refine ⟨fun j hj => ?_, fun k hk => ?_, ?_, ?_, ?_⟩
  · have := h.1 j hj
    unfold setS
    rcases hc with rfl | rfl
    · simp only [show ¬ j = 6 * (2 - 1) + p by omega, show ¬ 12 + j = 6 * (2 - 1) + p by omega, show ¬ 18 + j = 6 * (2 - 1) + p by omega, if_false, Nat.reduceEqDiff, false_and]
      refine ⟨this.1, ?_, this.2.2⟩
      by_cases z : j = p
      · rw [if_pos (by omega), if_pos ⟨trivial, z⟩]
      · rw [if_neg (by omega), if_neg (fun g => z g.2)]
        exact this.2.1
    · simp only [show ¬ j = 6 * (3 - 1) + p by omega, show ¬ 6 + j = 6 * (3 - 1) + p by omega, show ¬ 18 + j = 6 * (3 - 1) + p by omega, if_false, Nat.reduceEqDiff, false_and]
      refine ⟨this.1, this.2.1, ?_, this.2.2.2⟩
      by_cases z : j = p
      · rw [if_pos (by omega), if_pos ⟨trivial, z⟩]
      · rw [if_neg (by omega), if_neg (fun g => z g.2)]
        exact this.2.2.1
  · show (if 24 + k = 6 * (c - 1) + p then v else f (24 + k)) = setS s c p v 5 k
    rw [if_neg (by omega)]
    unfold setS
    rw [if_neg (by omega)]
    exact h.2.1 k hk
  · show (if 60 = 6 * (c - 1) + p then v else f 60) = setS s c p v 0 5
    rw [if_neg (by omega)]
    unfold setS
    rw [if_neg (by omega)]
    exact h.2.2.1
  · show (if 61 = 6 * (c - 1) + p then v else f 61) = setS s c p v 0 6
    rw [if_neg (by omega)]
    unfold setS
    rw [if_neg (by omega)]
    exact h.2.2.2.1
  · show (if 62 = 6 * (c - 1) + p then v else f 62) = setS s c p v 0 7
    rw [if_neg (by omega)]
    unfold setS
    rw [if_neg (by omega)]
    exact h.2.2.2.2
theorem setS_CS {T : Tn} {s : St} {σ : Mem} {p : Nat} {v : Int32} {c : Nat} (hc : c = 2 ∨ c = 3) (h : CS T s σ 31) : CS T (setS s c p v) (sI σ (31 + c) p v) 31 := by
  refine ⟨fun j hj => ?_, fun k hk => ?_, ?_, ?_, ?_⟩
  · have := h.1 j hj
    unfold setS
    rcases hc with rfl | rfl
    · simp only [sI_n (show (31 + 1 : Nat) ≠ 31 + 2 by decide), sI_n (show (31 + 3 : Nat) ≠ 31 + 2 by decide), sI_n (show (31 + 4 : Nat) ≠ 31 + 2 by decide), sI_o, Nat.reduceEqDiff, false_and, if_false, true_and]
      refine ⟨this.1, ?_, this.2.2⟩
      by_cases z : j = p
      · rw [if_pos z, if_pos z]
      · rw [if_neg z, if_neg z]
        exact this.2.1
    · simp only [sI_n (show (31 + 1 : Nat) ≠ 31 + 3 by decide), sI_n (show (31 + 2 : Nat) ≠ 31 + 3 by decide), sI_n (show (31 + 4 : Nat) ≠ 31 + 3 by decide), sI_o, Nat.reduceEqDiff, false_and, if_false, true_and]
      refine ⟨this.1, this.2.1, ?_, this.2.2.2⟩
      by_cases z : j = p
      · rw [if_pos z, if_pos z]
      · rw [if_neg z, if_neg z]
        exact this.2.2.1
  · rw [sI_n (by omega)]
    unfold setS
    rw [if_neg (by omega)]
    exact h.2.1 k hk
  · rw [sI_n (by omega)]
    unfold setS
    rw [if_neg (by omega)]
    exact h.2.2.1
  · rw [sI_n (by omega)]
    unfold setS
    rw [if_neg (by omega)]
    exact h.2.2.2.1
  · rw [sI_n (by omega)]
    unfold setS
    rw [if_neg (by omega)]
    exact h.2.2.2.2
theorem setS_aim {T : Tn} {s : St} {p : Nat} {v : Int32} (h : okN T s) (hv : v = -1 ∨ ∃ q, q < tN T ∧ q ≠ p ∧ v = nI q) : okN T (setS s 2 p v) := by
  refine ⟨⟨fun j hj => ?_, h.1.2.1, h.1.2.2.1, h.1.2.2.2⟩, h.2⟩
  have := h.1.1 j hj
  refine ⟨?_, this.2.1, this.2.2⟩
  show (if 2 = 2 ∧ j = p then v else s 2 j) = -1 ∨ ∃ q, q < tN T ∧ q ≠ j ∧ (if 2 = 2 ∧ j = p then v else s 2 j) = nI q
  by_cases z : j = p
  · rw [if_pos ⟨rfl, z⟩, z]
    exact hv
  · rw [if_neg (fun g => z g.2)]
    exact this.1
theorem setS_stand {T : Tn} {s : St} {p q : Nat} (h : okN T s) (hq : q < tN T) : okN T (setS s 3 p (nI q)) := by
  refine ⟨⟨fun j hj => ?_, h.1.2.1, h.1.2.2.1, h.1.2.2.2⟩, h.2⟩
  have := h.1.1 j hj
  refine ⟨this.1, ?_, this.2.2⟩
  show ∃ q', q' < tN T ∧ (if 3 = 3 ∧ j = p then nI q else s 3 j) = nI q'
  by_cases z : j = p
  · rw [if_pos ⟨rfl, z⟩]
    exact ⟨q, hq, rfl⟩
  · rw [if_neg (fun g => z g.2)]
    exact this.2.1
/-- a person's aim or stand is set anew -/
theorem set_act {t : Nat} {T : Tn} {s : St} {σ ρ : Mem} (h1 : I_town t T σ ρ) (h2 : I_now T s σ ρ) (h3 : I_hist T s σ ρ) (h4 : I_box T σ ρ) (h5 : I_step T σ ρ) (h6 : I_lies σ ρ) (h7 : I_tape σ ρ) (h8 : I_fault σ ρ) (h9 : I_misc σ ρ) {p c : Nat} {v : Int32} (hp : p < tN T) (hc : c = 2 ∨ c = 3) (hok : okN T (setS s c p v)) :
    ∃ σ' ρ1, X3_add 31 (sI σ (31 + c) p v) = some σ' ∧ X12_act ρ = some ρ1 ∧ ρ1.1 1028 = ρ.1 1028 ∧ InvR σ' (sI ρ1 1028 (6 * (c - 1) + p) v) := by
  have hn := h1.2.2.2.1.1
  have hcs := setS_CS (p := p) (v := v) hc h2.2.1
  have f1 : Fr [33, 34] [] σ (sI σ (31 + c) p v) := frI Fr.refl (by rcases hc with rfl | rfl <;> decide)
  have h3' : I_hist T s (sI σ (31 + c) p v) ρ := h3.keep f1 (L' := []) (K' := []) Fr.refl (by decide) (by decide)
  obtain ⟨σ', ρ1, e1, e2, h3''⟩ := hist_add hn h3' hok hcs h2.2.2
  have fC : Fr [38] [(37, 1), (37, 2)] (sI σ (31 + c) p v) σ' := fr_X3_add 31 _ Fr.refl _ e1
  have fM : Fr L_X12_act K_X12_act ρ ρ1 := fr_X12_act ρ Fr.refl _ e2
  have fC2 : Fr [33, 34, 38] [(37, 1), (37, 2)] σ σ' := (f1.mono (by decide) (by decide)).trans (fC.mono (by decide) (by decide))
  have fM2 : Fr [1028, 1039] [(1000, 69), (1000, 70)] ρ (sI ρ1 1028 (6 * (c - 1) + p) v) := frI (fM.mono (by decide) (by decide)) (.head _)
  have e28 : ρ1.1 1028 = ρ.1 1028 := (fM.off (A := [1028]) (B := []) (by decide)).1 _ (by decide)
  refine ⟨σ', ρ1, e1, e2, e28, InvR.acts h1 h4 h5 h6 h7 h8 h9 fC2 fM2 (by decide) (by decide) ⟨hok, ?_, ?_⟩ ?_⟩
  · have o := fC.off (A := [31, 32, 33, 34, 35, 36]) (B := []) (by decide)
    exact hcs.keep (o.1 _ (by decide)) (o.1 _ (by decide)) (o.1 _ (by decide)) (o.1 _ (by decide)) (o.1 _ (by decide)) (o.1 _ (by decide))
  · refine (setS_row (v := v) hn hp hc h2.2.2).congr hn (fun k hk => ?_)
    rw [sI_o, e28]
  · exact h3''.keep (L := []) (K := []) Fr.refl (L' := [1028]) (K' := []) (frI Fr.refl (.head _)) (by decide) (by decide)
theorem s_aim (a0 a1 : Int32) : StpI Inv (X11_aim a0 a1) (X12_aim a0 a1) := by
  refine stp (fun σ => fr_X11_aim a0 a1 σ Fr.refl) (fun σ => fr_X12_aim a0 a1 σ Fr.refl) (by decide) (by decide) (fun σ ρ hI => ?_)
  have hI0 := hI
  obtain ⟨t, T, s, h1, h2, h3, h4, h5, h6, h7, h8, h9⟩ := hI
  have hn := h1.2.2.2.1.1
  cases hb : isP (tN T) a0 with
  | false =>
    refine ⟨-2, σ, ρ, ?_, ?_, hI0⟩
    · unfold X11_aim
      rw [isPersonC_ok h1, Option.bind_some, hb]
      rfl
    · unfold X12_aim
      rw [isPersonM_ok h1, Option.bind_some, hb]
      rfl
  | true =>
    have hb1 : ¬ tr (isP (tN T) a0) = 0 := by rw [hb]; exact one_ne
    obtain ⟨p, hp, rfl⟩ := isP_t hn hb
    have bp := ib_t (n := p) (k := 6) (by omega) (by omega)
    have cp := ni_cl (n := p) (by omega)
    have k6 : ib ((6 : Int32) + nI p) 64 = true ∧ ((6 : Int32) + nI p).toNatClampNeg = 6 + p := by
      rw [show (6 : Int32) + nI p = nI (6 + p) from ni_add 6 p]
      exact ⟨ib_t (by omega) (by omega), ni_cl (by omega)⟩
    have go : (a1 = -1 ∨ ∃ q, q < tN T ∧ q ≠ p ∧ a1 = nI q) → ∃ r σ' ρ', X11_aim_25 (nI p) a1 σ = some (r, σ') ∧ X12_aim_21 (nI p) a1 ρ = some (r, ρ') ∧ InvR σ' ρ' := by
      intro hv
      obtain ⟨σ', ρ1, e1, e2, e28, hR⟩ := set_act h1 h2 h3 h4 h5 h6 h7 h8 h9 hp (.inl rfl) (setS_aim h2.1 hv)
      refine ⟨s 2 p, σ', _, ?_, ?_, hR⟩
      · unfold X11_aim_25
        rw [if_pos bp, bv_eq, if_pos bp, bv_eq, cp, show sI σ 33 p a1 = sI σ (31 + 2) p a1 from rfl, e1, Option.bind_some, show σ.1 33 p = s 2 p from (h2.2.1.1 p hp).2.1]
      · have hne : ¬ a1 = nI p := by
          rcases hv with g | ⟨q, hq, hqp, g⟩
          · rw [g]
            exact fun g2 => ni_ne_neg (by omega) g2.symm
          · rw [g, ni_inj (by omega) (by omega)]
            exact hqp
        unfold X12_aim_21
        rw [if_neg hne, e2, Option.bind_some, if_pos k6.1, bv_eq, if_pos k6.1, bv_eq, k6.2, e28, (h2.2.2.1 p hp).2.1]
    by_cases z : a1 = -1
    · obtain ⟨r, σ', ρ', e1, e2, hR⟩ := go (.inl z)
      refine ⟨r, σ', ρ', ?_, ?_, hR⟩
      · unfold X11_aim
        rw [isPersonC_ok h1, Option.bind_some, if_neg hb1, if_pos z]
        exact e1
      · unfold X12_aim
        rw [isPersonM_ok h1, Option.bind_some, if_neg hb1, if_pos z]
        exact e2
    · have hC : X11_aim (nI p) a1 σ = if tr (isTwo (tN T) (nI p) a1) = 0 then some (-2, σ) else X11_aim_25 (nI p) a1 σ := by
        unfold X11_aim
        rw [isPersonC_ok h1, Option.bind_some, if_neg hb1, if_neg z]
        show (X11_isPair (nI p) a1 σ).bind _ = _
        rw [isPairC_ok h1, Option.bind_some]
      have hM : X12_aim (nI p) a1 ρ = if tr (isP (tN T) a1) = 0 then some (-2, ρ) else X12_aim_21 (nI p) a1 ρ := by
        unfold X12_aim
        rw [isPersonM_ok h1, Option.bind_some, if_neg hb1, if_neg z]
        show (X12_isPerson a1 ρ).bind _ = _
        rw [isPersonM_ok h1, Option.bind_some]
      cases hq : isP (tN T) a1 with
      | false =>
        refine ⟨-2, σ, ρ, ?_, ?_, hI0⟩
        · rw [hC, if_pos]
          unfold isTwo
          rw [hq, Bool.and_false]
          rfl
        · rw [hM, hq]
          rfl
      | true =>
        obtain ⟨q, hq', rfl⟩ := isP_t hn hq
        by_cases y : q = p
        · subst y
          refine ⟨-2, σ, ρ, ?_, ?_, hI0⟩
          · rw [hC, if_pos]
            unfold isTwo
            simp [tr]
          · rw [hM, hq, if_neg (show ¬ tr true = 0 from one_ne)]
            unfold X12_aim_21
            rw [if_pos rfl]
        · obtain ⟨r, σ', ρ', e1, e2, hR⟩ := go (.inr ⟨q, hq', y, rfl⟩)
          refine ⟨r, σ', ρ', ?_, ?_, hR⟩
          · rw [hC, if_neg]
            · exact e1
            · unfold isTwo
              rw [hb, hq, decide_eq_false (by rw [ni_inj (by omega) (by omega)]; omega)]
              exact one_ne
          · rw [hM, hq, if_neg (show ¬ tr true = 0 from one_ne)]
            exact e2
theorem s_stand (a0 a1 : Int32) : StpI Inv (X11_stand a0 a1) (X12_stand a0 a1) := by
  refine stp (fun σ => fr_X11_stand a0 a1 σ Fr.refl) (fun σ => fr_X12_stand a0 a1 σ Fr.refl) (by decide) (by decide) (fun σ ρ hI => ?_)
  have hI0 := hI
  obtain ⟨t, T, s, h1, h2, h3, h4, h5, h6, h7, h8, h9⟩ := hI
  have hn := h1.2.2.2.1.1
  cases hb : isP (tN T) a0 with
  | false =>
    refine ⟨-1, σ, ρ, ?_, ?_, hI0⟩
    · unfold X11_stand
      rw [isPersonC_ok h1, Option.bind_some, hb]
      rfl
    · unfold X12_stand
      rw [isPersonM_ok h1, Option.bind_some, hb]
      rfl
  | true =>
    have hb1 : ¬ tr (isP (tN T) a0) = 0 := by rw [hb]; exact one_ne
    have hC : X11_stand a0 a1 σ = if tr (isP (tN T) a1) = 0 then some (-1, σ) else if ib a0 6 = true then (if ib a0 6 = true then (X3_add 31 (sI σ 34 a0.toNatClampNeg a1)).bind fun σ5 => some (σ.1 34 a0.toNatClampNeg, σ5) else none) else none := by
      unfold X11_stand
      rw [isPersonC_ok h1, Option.bind_some, if_neg hb1]
      show (X11_isPerson a1 σ).bind _ = _
      rw [isPersonC_ok h1, Option.bind_some]
      rfl
    have hM : X12_stand a0 a1 ρ = if tr (isP (tN T) a1) = 0 then some (-1, ρ) else (X12_act ρ).bind fun σ3 => if ib (12 + a0) 64 = true then (if ib (12 + a0) 64 = true then some (σ3.1 1028 (12 + a0).toNatClampNeg, sI σ3 1028 (12 + a0).toNatClampNeg a1) else none) else none := by
      unfold X12_stand
      rw [isPersonM_ok h1, Option.bind_some, if_neg hb1]
      show (X12_isPerson a1 ρ).bind _ = _
      rw [isPersonM_ok h1, Option.bind_some]
      rfl
    cases hq : isP (tN T) a1 with
    | false =>
      refine ⟨-1, σ, ρ, ?_, ?_, hI0⟩
      · rw [hC, hq]
        rfl
      · rw [hM, hq]
        rfl
    | true =>
      obtain ⟨p, hp, rfl⟩ := isP_t hn hb
      obtain ⟨q, hq', rfl⟩ := isP_t hn hq
      have bp := ib_t (n := p) (k := 6) (by omega) (by omega)
      have cp := ni_cl (n := p) (by omega)
      have k12 : ib ((12 : Int32) + nI p) 64 = true ∧ ((12 : Int32) + nI p).toNatClampNeg = 12 + p := by
        rw [show (12 : Int32) + nI p = nI (12 + p) from ni_add 12 p]
        exact ⟨ib_t (by omega) (by omega), ni_cl (by omega)⟩
      obtain ⟨σ', ρ1, e1, e2, e28, hR⟩ := set_act h1 h2 h3 h4 h5 h6 h7 h8 h9 hp (.inr rfl) (setS_stand h2.1 hq')
      refine ⟨s 3 p, σ', _, ?_, ?_, hR⟩
      · rw [hC, hq, if_neg (show ¬ tr true = 0 from one_ne), if_pos bp, if_pos bp, cp, show sI σ 34 p (nI q) = sI σ (31 + 3) p (nI q) from rfl, e1, Option.bind_some, show σ.1 34 p = s 3 p from (h2.2.1.1 p hp).2.2.1]
      · rw [hM, hq, if_neg (show ¬ tr true = 0 from one_ne), e2, Option.bind_some, if_pos k12.1, if_pos k12.1, k12.2, e28, (h2.2.2.1 p hp).2.2.1]
theorem s_undo : StpI Inv X11_undo X12_undo := by
  refine stp (fun σ => fr_X11_undo σ Fr.refl) (fun σ => fr_X12_undo σ Fr.refl) (by decide) (by decide) (fun σ ρ hI => ?_)
  have hI0 := hI
  obtain ⟨t, T, s, h1, h2, h3, h4, h5, h6, h7, h8, h9⟩ := hI
  have hn := h1.2.2.2.1.1
  obtain ⟨H, dn, kp, q1, q2, q3, q4, q5, q6, q7, q8, q9, q10⟩ := h3
  have z0 : (0 : Int32) &&& 1 = 0 := by decide
  have z1 : (1 : Int32) &&& 1 = 1 := by decide
  by_cases z : dn = 0
  · subst z
    refine ⟨0, σ, ρ, ?_, ?_, hI0⟩
    · unfold X11_undo X3_goBack
      rw [q4, if_pos (show nI 0 = 0 from rfl), Option.bind_some, z0]
    · unfold X12_undo
      rw [q6, if_pos (show nI 0 = 0 from rfl)]
  · obtain ⟨m, rfl⟩ : ∃ m, dn = m + 1 := ⟨dn - 1, by omega⟩
    have hne : ¬ nI (m + 1) = 0 := by rw [show (0 : Int32) = nI 0 from rfl, ni_inj (by omega) (by omega)]; omega
    -- the class
    have f1 : Fr [] [(37, 1)] σ (sI σ 37 1 (nI m)) := frIk Fr.refl (.inl (.head _))
    obtain ⟨σ', e1, hcs⟩ := loadC_ok (T := T) (s := H m) (o := 31) (a := 38) (al := 2583) (m := 63 * m) (σ := sI σ 37 1 (nI m)) hn (by omega) (by omega) (by omega) ((q8 m (by omega)).2)
    have fC : Fr [32, 33, 34, 35, 36] [(31, 5), (31, 6), (31, 7)] (sI σ 37 1 (nI m)) σ' := fr_X7_load 31 38 2583 _ _ Fr.refl _ e1
    have eC : X11_undo σ = some (1, σ') := by
      unfold X11_undo X3_goBack
      rw [q4, if_neg hne, bv_eq, ni_pred, sI_e, show nI m * 63 = nI (63 * m) by rw [show (63 : Int32) = nI 63 from rfl, ni_mul, Nat.mul_comm], e1, Option.bind_some, Option.bind_some, z1]
    -- the reference
    obtain ⟨ρ', e2, a1, a2⟩ := exch_ok (ρ := sI (sI ρ 1000 69 (nI m)) 1000 70 (nI (kp - m))) (c := m) (by omega)
    have fM : Fr [1028, 1039] [] (sI (sI ρ 1000 69 (nI m)) 1000 70 (nI (kp - m))) ρ' := fr_X12_exchange _ _ Fr.refl _ e2
    have eM : X12_undo ρ = some (1, ρ') := by
      unfold X12_undo
      rw [q6, if_neg hne, bv_eq, bv_eq, ni_pred, sI_k (k := 69) (b := 70) (by decide), q7, ni_succ, show kp - (m + 1) + 1 = kp - m by omega, sI_k (k := 70) (b := 69) (by decide), sI_e, show (64 : Int32) * nI m = nI (64 * m) by rw [show (64 : Int32) = nI 64 from rfl, ni_mul], e2, Option.bind_some]
    have o := fC.off (A := [37, 38]) (B := []) (by decide)
    have oM := fM.off (A := []) (B := [(1000, 69), (1000, 70)]) (by decide)
    refine ⟨1, σ', ρ', eC, eM, InvR.acts (s' := H m) h1 h4 h5 h6 h7 h8 h9 (fr_X11_undo σ Fr.refl _ eC) (fr_X12_undo ρ Fr.refl _ eM) (by decide) (by decide) ⟨(q8 m (by omega)).1, hcs, ?_⟩ ⟨H, m, kp, by omega, q2, rfl, ?_, ?_, ?_, ?_, fun i hi => ?_, fun i hi => ?_, fun i g1 g2 => ?_⟩⟩
    · refine (q9 m (by omega)).congr hn (fun k hk => ?_)
      rw [a1 k hk, sI_n (by decide), sI_n (by decide)]
    · rw [o.1 37 (by decide), sI_e]
    · rw [o.1 37 (by decide), sI_k (by decide)]
      exact q5
    · rw [oM.2 1000 69 (by decide), sI_k (by decide), sI_e]
    · rw [oM.2 1000 70 (by decide), sI_e]
    · refine ⟨(q8 i hi).1, (q8 i hi).2.congr hn (fun k hk => ?_)⟩
      rw [o.1 38 (by decide), sI_n (by decide)]
    · refine (q9 i (by omega)).congr hn (fun k hk => ?_)
      rw [a2, if_neg (by omega), sI_n (by decide), sI_n (by decide)]
    · by_cases y : i = m
      · subst y
        rw [q3]
        refine h2.2.2.congr hn (fun k hk => ?_)
        rw [a2, if_pos (by omega), sI_n (by decide), sI_n (by decide), show 64 * i + k - 64 * i = k by omega]
      · refine (q10 i (by omega) g2).congr hn (fun k hk => ?_)
        rw [a2, if_neg (by omega), sI_n (by decide), sI_n (by decide)]
theorem s_redo : StpI Inv X11_redo X12_redo := by
  refine stp (fun σ => fr_X11_redo σ Fr.refl) (fun σ => fr_X12_redo σ Fr.refl) (by decide) (by decide) (fun σ ρ hI => ?_)
  have hI0 := hI
  obtain ⟨t, T, s, h1, h2, h3, h4, h5, h6, h7, h8, h9⟩ := hI
  have hn := h1.2.2.2.1.1
  obtain ⟨H, dn, kp, q1, q2, q3, q4, q5, q6, q7, q8, q9, q10⟩ := h3
  have z0 : (0 : Int32) &&& 1 = 0 := by decide
  have z1 : (1 : Int32) &&& 1 = 1 := by decide
  by_cases z : dn = kp
  · subst z
    refine ⟨0, σ, ρ, ?_, ?_, hI0⟩
    · unfold X11_redo X3_goForth
      rw [q4, q5, if_pos rfl, Option.bind_some, z0]
    · unfold X12_redo
      rw [q7, Nat.sub_self, if_pos (show nI 0 = 0 from rfl)]
  · have hne : ¬ nI dn = nI kp := by rw [ni_inj (by omega) (by omega)]; exact z
    have hne2 : ¬ nI (kp - dn) = 0 := by rw [show (0 : Int32) = nI 0 from rfl, ni_inj (by omega) (by omega)]; omega
    obtain ⟨σ', e1, hcs⟩ := loadC_ok (T := T) (s := H (dn + 1)) (o := 31) (a := 38) (al := 2583) (m := 63 * (dn + 1)) (σ := sI σ 37 1 (nI (dn + 1))) hn (by omega) (by omega) (by omega) ((q8 (dn + 1) (by omega)).2)
    have fC : Fr [32, 33, 34, 35, 36] [(31, 5), (31, 6), (31, 7)] (sI σ 37 1 (nI (dn + 1))) σ' := fr_X7_load 31 38 2583 _ _ Fr.refl _ e1
    have eC : X11_redo σ = some (1, σ') := by
      unfold X11_redo X3_goForth
      rw [q4, q5, if_neg hne, bv_eq, ni_succ, sI_e, show nI (dn + 1) * 63 = nI (63 * (dn + 1)) by rw [show (63 : Int32) = nI 63 from rfl, ni_mul, Nat.mul_comm], e1, Option.bind_some, Option.bind_some, z1]
    obtain ⟨ρ1, e2, a1, a2⟩ := exch_ok (ρ := ρ) (c := dn) (by omega)
    have fM : Fr [1028, 1039] [] ρ ρ1 := fr_X12_exchange _ _ Fr.refl _ e2
    have oM := fM.off (A := []) (B := [(1000, 69), (1000, 70)]) (by decide)
    have eM : X12_redo ρ = some (1, sI (sI ρ1 1000 69 (nI (dn + 1))) 1000 70 (nI (kp - (dn + 1)))) := by
      unfold X12_redo
      rw [q7, if_neg hne2, q6, show (64 : Int32) * nI dn = nI (64 * dn) by rw [show (64 : Int32) = nI 64 from rfl, ni_mul], e2, Option.bind_some, bv_eq, bv_eq, oM.2 1000 69 (by decide), q6, ni_succ, sI_k (by decide), oM.2 1000 70 (by decide), q7, show kp - dn = kp - (dn + 1) + 1 by omega, ni_pred]
    have o := fC.off (A := [37, 38]) (B := []) (by decide)
    refine ⟨1, σ', _, eC, eM, InvR.acts (s' := H (dn + 1)) h1 h4 h5 h6 h7 h8 h9 (fr_X11_redo σ Fr.refl _ eC) (fr_X12_redo ρ Fr.refl _ eM) (by decide) (by decide) ⟨(q8 _ (by omega)).1, hcs, ?_⟩ ⟨H, dn + 1, kp, by omega, q2, rfl, ?_, ?_, ?_, ?_, fun i hi => ?_, fun i hi => ?_, fun i g1 g2 => ?_⟩⟩
    · refine (q10 dn (by omega) (by omega)).congr hn (fun k hk => ?_)
      show (sI (sI ρ1 1000 69 _) 1000 70 _).1 1028 k = _
      rw [sI_n (by decide), sI_n (by decide), a1 k hk]
    · rw [o.1 37 (by decide), sI_e]
    · rw [o.1 37 (by decide), sI_k (by decide)]
      exact q5
    · show (sI (sI ρ1 1000 69 _) 1000 70 _).1 1000 69 = _
      rw [sI_k (by decide), sI_e]
    · exact sI_e _ _ _ _
    · refine ⟨(q8 i hi).1, (q8 i hi).2.congr hn (fun k hk => ?_)⟩
      rw [o.1 38 (by decide), sI_n (by decide)]
    · by_cases y : i = dn
      · subst y
        rw [q3]
        refine h2.2.2.congr hn (fun k hk => ?_)
        show (sI (sI ρ1 1000 69 _) 1000 70 _).1 1039 (64 * i + k) = _
        rw [sI_n (by decide), sI_n (by decide), a2, if_pos (by omega), show 64 * i + k - 64 * i = k by omega]
      · refine (q9 i (by omega)).congr hn (fun k hk => ?_)
        show (sI (sI ρ1 1000 69 _) 1000 70 _).1 1039 (64 * i + k) = _
        rw [sI_n (by decide), sI_n (by decide), a2, if_neg (by omega)]
    · refine (q10 i (by omega) g2).congr hn (fun k hk => ?_)
      show (sI (sI ρ1 1000 69 _) 1000 70 _).1 1039 (64 * i + k) = _
      rw [sI_n (by decide), sI_n (by decide), a2, if_neg (by omega)]
/-! hours -/
theorem hoursF_aim (T : Tn) (s : St) : ∀ n, hoursF T n s 2 = s 2
  | 0 => rfl
  | n + 1 => by
    show hourF T (hoursF T n s) 2 = _
    rw [hourF_aim, hoursF_aim T s n]
theorem hoursF_stand (T : Tn) (s : St) : ∀ n, hoursF T n s 3 = s 3
  | 0 => rfl
  | n + 1 => by
    show hourF T (hoursF T n s) 3 = _
    rw [hourF_stand, hoursF_stand T s n]
theorem keep_ok (ρ : Mem) : Ok (X12_keep ρ) (fun ρ' => (∀ p, p < 6 → ρ'.1 1028 p = ρ.1 1029 p ∧ ρ'.1 1028 (18 + p) = ρ.1 1032 p) ∧ (∀ k, k < 36 → ρ'.1 1028 (24 + k) = ρ.1 1033 k) ∧ ρ'.1 1028 60 = ρ.1 1000 62 ∧ ρ'.1 1028 61 = ρ.1 1000 63 ∧ (∀ j, 6 ≤ j → j < 18 → ρ'.1 1028 j = ρ.1 1028 j) ∧ ρ'.1 1028 62 = ρ.1 1028 62) := by
  unfold X12_keep
  refine ok_bv ?_
  refine ok_loop0 (F := fun n i ρ => X12_keep_2 n i ρ) (N := 6) (I := fun i ρ' => Fr [1028] [] ρ ρ' ∧ (∀ p, p < i → ρ'.1 1028 p = ρ.1 1029 p ∧ ρ'.1 1028 (18 + p) = ρ.1 1032 p) ∧ (∀ j, 6 ≤ j → j < 18 → ρ'.1 1028 j = ρ.1 1028 j) ∧ ρ'.1 1028 62 = ρ.1 1028 62) 0 ρ (by omega) (by omega) ⟨Fr.refl, fun p hp => by omega, fun _ _ _ => rfl, rfl⟩ ?_ ?_
  · rintro n i ρ' hi ⟨hf, hI, hJ, hJ2⟩ hk
    have o := hf.off (A := [1029, 1032]) (B := []) (by decide)
    have bi := ib_t (n := i) (k := 6) (by omega) (by omega)
    have ci := ni_cl (n := i) (by omega)
    show Ok (X12_keep_2 (n + 1) (nI i) ρ') _
    rw [X12_keep_2, show (0 : Int32) + nI i = nI i from Int32.zero_add _, show (18 : Int32) + nI i = nI (18 + i) from ni_add 18 i]
    refine ok_neg (by rw [show (6 : Int32) = nI 6 from rfl, ni_le (by omega) (by omega)]; omega) (ok_pos bi (ok_pos (ib_t (by omega) (by omega)) (ok_bv (ok_pos bi (ok_pos (ib_t (by omega) (by omega)) (ok_bv (ok_bv ?_)))))))
    rw [ci, ni_cl (by omega), ni_succ, sI_n (a := 1032) (by decide), o.1 1029 (by decide), o.1 1032 (by decide)]
    refine hk _ ⟨frI (frI hf (.head _)) (.head _), fun p hp => ?_, fun j g1 g2 => ?_, ?_⟩
    · simp only [sI_o]
      by_cases z : p = i
      · rw [if_neg (by omega), if_pos z, if_pos (by omega), z]
        exact ⟨rfl, rfl⟩
      · rw [if_neg (by omega), if_neg z, if_neg (by omega), if_neg (by omega)]
        exact hI p (by omega)
    · rw [sI_k (by omega), sI_k (by omega)]
      exact hJ j g1 g2
    · rw [sI_k (by omega), sI_k (by omega)]
      exact hJ2
  · rintro n ρ1 ⟨f1, hI, hJ, hJ2⟩
    show Ok (X12_keep_2 (n + 1) (nI 6) ρ1) _
    rw [X12_keep_2]
    refine ok_pos (Int32.le_refl _) (ok_bv ?_)
    refine ok_loop0 (F := fun n i ρ => X12_keep_45 n i ρ) (N := 36) (I := fun i ρ' => Fr [1028] [] ρ1 ρ' ∧ (∀ k, k < i → ρ'.1 1028 (24 + k) = ρ.1 1033 k) ∧ (∀ j, j < 24 ∨ 60 ≤ j → ρ'.1 1028 j = ρ1.1 1028 j)) 0 ρ1 (by omega) (by omega) ⟨Fr.refl, fun p hp => by omega, fun _ _ => rfl⟩ ?_ ?_
    · rintro n i ρ' hi ⟨hf, hK, hL⟩ hk
      have e33 : ρ'.1 1033 = ρ.1 1033 := by rw [hf.ne (by decide), f1.ne (by decide)]
      show Ok (X12_keep_45 (n + 1) (nI i) ρ') _
      rw [X12_keep_45, show (24 : Int32) + nI i = nI (24 + i) from ni_add 24 i]
      refine ok_neg (by rw [show (36 : Int32) = nI 36 from rfl, ni_le (by omega) (by omega)]; omega) (ok_pos (ib_t (by omega) (by omega)) (ok_pos (ib_t (by omega) (by omega)) (ok_bv (ok_bv ?_))))
      rw [ni_cl (by omega), ni_cl (by omega), ni_succ, e33]
      refine hk _ ⟨frI hf (.head _), fun k hk => ?_, fun j hj => ?_⟩
      · rw [sI_o]
        by_cases z : k = i
        · rw [if_pos (by omega), z]
        · rw [if_neg (by omega)]
          exact hK k (by omega)
      · rw [sI_k (by omega)]
        exact hL j hj
    · rintro n ρ2 ⟨f2, hK, hL⟩
      have e1000 : ρ2.1 1000 = ρ.1 1000 := by rw [f2.ne (by decide), f1.ne (by decide)]
      show Ok (X12_keep_45 (n + 1) (nI 36) ρ2) _
      rw [X12_keep_45]
      refine ok_pos (Int32.le_refl _) (ok_bv (ok_bv (ok_some ⟨fun p hp => ?_, fun k hk => ?_, ?_, ?_, fun j g1 g2 => ?_, ?_⟩)))
      · rw [sI_k (by omega), sI_k (by omega), sI_k (by omega), sI_k (by omega), hL p (by omega), hL (18 + p) (by omega)]
        exact hI p hp
      · rw [sI_k (by omega), sI_k (by omega)]
        exact hK k hk
      · rw [sI_k (by omega), sI_e, e1000]
      · rw [sI_e, sI_n (by decide), e1000]
      · rw [sI_k (by omega), sI_k (by omega), hL j (by omega)]
        exact hJ j g1 g2
      · rw [sI_k (by omega), sI_k (by omega), hL 62 (by omega)]
        exact hJ2
theorem s_hours (a0 : Int32) : StpI Inv (X11_hours a0) (X12_hours a0) := by
  refine stp (fun σ => fr_X11_hours a0 σ Fr.refl) (fun σ => fr_X12_hours a0 σ Fr.refl) (by decide) (by decide) (fun σ ρ hI => ?_)
  have hI0 := hI
  obtain ⟨t, T, s, h1, h2, h3, h4, h5, h6, h7, h8, h9⟩ := hI
  have hT := h1.2.2.2.1
  have hn := hT.1
  have ht := h1.1
  have hpast := h2.1.2
  have hp0 := h2.1.1.2.2.2
  by_cases z : a0 < 0
  · refine ⟨-1, σ, ρ, ?_, ?_, hI0⟩
    · unfold X11_hours
      rw [if_pos z]
    · unfold X12_hours
      rw [isIn_ok, Option.bind_some, decide_eq_false (Int32.not_le.mpr z)]
      rfl
  · by_cases y : 60 < a0
    · refine ⟨-1, σ, ρ, ?_, ?_, hI0⟩
      · unfold X11_hours
        rw [if_neg z, if_pos y]
      · unfold X12_hours
        rw [isIn_ok, Option.bind_some, decide_eq_false (Int32.not_le.mpr y), Bool.and_false]
        rfl
    · have hin : tr (decide (0 ≤ a0) && decide (a0 ≤ 60)) = 1 := by
        rw [decide_eq_true (Int32.not_lt.mp z), decide_eq_true (Int32.not_lt.mp y)]
        rfl
      obtain ⟨k, -, hk, rfl⟩ := rng (a := 0) (b := 60) (by omega) (by omega) z (Int32.not_lt.mp y)
      have hkI : (nI k).toInt = k := toInt_nI (by omega)
      by_cases x : s 0 7 + nI k ≤ 2000
      · have hx : (s 0 7).toInt + k ≤ 2000 := by
          rw [Int32.le_iff_toInt_le, toInt_add_of (by omega) (by omega), hkI] at x
          exact x
        have hS' := okS_hours hT h2.1.1 k (by omega)
        have hN' : okN T (hoursF T k s) := ⟨hS', by rw [hoursF_pastI h2.1.1 (by omega)]; omega⟩
        -- the class
        have hC : Ok (X11_hours_29 fu (nI k) 0 σ) (fun r => ∃ σ1 ρ1, CS T (hoursF T k s) σ1 31 ∧ Fr [19, 24, 29, 32, 35, 36, 40, 41, 42, 136, 141, 146] [(31, 5), (31, 6), (31, 7)] σ σ1 ∧ X3_add 31 σ1 = some r.2 ∧ r.1 = hoursF T k s 0 7 ∧ X12_act ρ = some ρ1 ∧ I_hist T (hoursF T k s) r.2 ρ1) := by
          refine ok_loop0 (F := fun n i σ => X11_hours_29 n (nI k) i σ) (N := k) (I := fun i σ' => CT T t σ' ∧ CS T (hoursF T i s) σ' 31 ∧ Fr [19, 24, 29, 32, 35, 36, 40, 41, 42, 136, 141, 146] [(31, 5), (31, 6), (31, 7)] σ σ') 0 σ (by omega) (by omega) ⟨h1.2.2.2.2.1, h2.2.1, Fr.refl⟩ ?_ ?_
          · rintro n i σ' hi ⟨c1, c2, c3⟩ hk'
            have o := c3.off (A := []) (B := [(0, 12)]) (by decide)
            show Ok (X11_hours_29 (n + 1) (nI k) (nI i) σ') _
            rw [X11_hours_29, o.2 0 12 (by decide), h1.2.1, gT_ok ht]
            refine ok_neg (by rw [ni_le (by omega) (by omega)]; omega) ?_
            refine ok_bind (ok_fr (pass_ok hT (okS_hours hT h2.1.1 i (by omega)) (sep39 ht) c1 c2) (fr_X0_pass _ _ _ _ Fr.refl)) ?_
            rintro ⟨w, σ2⟩ ⟨⟨d1, d2, -, -, -⟩, f2⟩
            have f2 : Fr (L_X0_pass 39 t 31) (K_X0_pass 39 t 31) σ' σ2 := f2
            refine ok_bv ?_
            rw [ni_succ]
            refine hk' σ2 ⟨d1, d2, c3.trans (f2.mono (fun a ha => ?_) (fun a ha => ?_))⟩
            · simp [L_X0_pass] at ha ⊢
              omega
            · exact .inl ha
          · rintro n σ1 ⟨c1, c2, c3⟩
            show Ok (X11_hours_29 (n + 1) (nI k) (nI k) σ1) _
            rw [X11_hours_29]
            refine ok_pos (Int32.le_refl _) ?_
            have h3' : I_hist T s σ1 ρ := h3.keep c3 (L' := []) (K' := []) Fr.refl (by decide) (by decide)
            obtain ⟨σ2, ρ1, e1, e2, g⟩ := hist_add hn h3' hN' c2 h2.2.2
            have f2 : Fr [38] [(37, 1), (37, 2)] σ1 σ2 := fr_X3_add 31 _ Fr.refl _ e1
            rw [e1]
            refine ok_bindE rfl (ok_some ⟨σ1, ρ1, c2, c3, e1, ?_, e2, g⟩)
            show σ2.1 31 7 = _
            rw [(f2.off (A := [31]) (B := []) (by decide)).1 31 (by decide)]
            exact c2.2.2.2.2
        obtain ⟨⟨r, σ2⟩, eC0, σ1, ρ1, c2, c3, eadd, er, eact, hh⟩ := hC
        have er : r = hoursF T k s 0 7 := er
        have eC : X11_hours (nI k) σ = some (r, σ2) := by
          unfold X11_hours
          rw [if_neg z, if_neg y, show σ.1 31 7 = s 0 7 from h2.2.1.2.2.2.2, if_pos x]
          exact eC0
        have fadd : Fr [38] [(37, 1), (37, 2)] σ1 σ2 := fr_X3_add 31 _ Fr.refl _ eadd
        -- the reference
        have fact : Fr L_X12_act K_X12_act ρ ρ1 := fr_X12_act ρ Fr.refl _ eact
        have e28 : ρ1.1 1028 = ρ.1 1028 := (fact.off (A := [1028]) (B := []) (by decide)).1 _ (by decide)
        have hM1 : MN T ρ1 := h1.2.2.2.2.2.2.1.keep fact (by decide)
        obtain ⟨ρ2, eload, m1, m2⟩ := load_ok hT hM1 (by rw [e28]; exact h2.2.2)
        have fload : Fr L_X12_load K_X12_load ρ1 ρ2 := fr_X12_load _ Fr.refl _ eload
        obtain ⟨ρ3, ego, g1, g2⟩ := goHours_ok (k := k) hT h2.1.1 (by omega) m1 m2
        have fgo : Fr L_X12_goHours K_X12_goHours ρ2 ρ3 := fr_X12_goHours _ _ Fr.refl _ ego
        obtain ⟨ρ4, ekeep, k1, k2, k3, k4, k5, k6⟩ := keep_ok ρ3
        have fkeep : Fr [1028] [] ρ3 ρ4 := fr_X12_keep _ Fr.refl _ ekeep
        have e28' : ρ3.1 1028 = ρ.1 1028 := by
          rw [(fgo.off (A := [1028]) (B := []) (by decide)).1 _ (by decide), (fload.off (A := [1028]) (B := []) (by decide)).1 _ (by decide), e28]
        have e62 : ρ4.1 1028 62 = s 0 7 := by rw [k6, e28']; exact h2.2.2.2.2.2.2
        have eM : X12_hours (nI k) ρ = some (r, sI ρ4 1028 62 (hoursF T k s 0 7)) := by
          unfold X12_hours
          rw [isIn_ok, Option.bind_some, hin, if_neg one_ne]
          show (if ρ.1 1028 62 + nI k ≤ 2000 then (X12_act ρ).bind _ else _) = _
          rw [h2.2.2.2.2.2.2, if_pos x, eact, Option.bind_some, eload, Option.bind_some, ego, Option.bind_some, ekeep, Option.bind_some, bv_eq, e62, sI_e, er, hoursF_past]
        refine ⟨r, σ2, _, eC, eM, InvR.acts h1 h4 h5 h6 h7 h8 h9 (fr_X11_hours _ σ Fr.refl _ eC) (fr_X12_hours _ ρ Fr.refl _ eM) (by decide) (by decide) ⟨hN', ?_, ?_⟩ ?_⟩
        · have o := fadd.off (A := [31, 32, 33, 34, 35, 36]) (B := []) (by decide)
          exact c2.keep (o.1 _ (by decide)) (o.1 _ (by decide)) (o.1 _ (by decide)) (o.1 _ (by decide)) (o.1 _ (by decide)) (o.1 _ (by decide))
        · refine ⟨fun p hp => ?_, fun j hj => ?_, ?_, ?_, ?_⟩
          · show (sI ρ4 1028 62 _).1 1028 p = _ ∧ (sI ρ4 1028 62 _).1 1028 (6 + p) = _ ∧ (sI ρ4 1028 62 _).1 1028 (12 + p) = _ ∧ (sI ρ4 1028 62 _).1 1028 (18 + p) = _
            rw [sI_k (by omega), sI_k (by omega), sI_k (by omega), sI_k (by omega), (k1 p (by omega)).1, (k1 p (by omega)).2, k5 (6 + p) (by omega) (by omega), k5 (12 + p) (by omega) (by omega), e28', hoursF_aim, hoursF_stand]
            exact ⟨(g2.1 p hp).1, (h2.2.2.1 p hp).2.1, (h2.2.2.1 p hp).2.2.1, (g2.1 p hp).2.2.2⟩
          · show (sI ρ4 1028 62 _).1 1028 (24 + j) = _
            rw [sI_k (by omega), k2 j hj]
            exact g2.2.1 j hj
          · show (sI ρ4 1028 62 _).1 1028 60 = _
            rw [sI_k (by omega), k3]
            exact g2.2.2.1
          · show (sI ρ4 1028 62 _).1 1028 61 = _
            rw [sI_k (by omega), k4]
            exact g2.2.2.2
          · exact sI_e _ _ _ _
        · refine hh.keep (L := []) (K := []) Fr.refl (L' := [1028, 1010, 1011, 1029, 1030, 1031, 1032, 1033, 1034, 1035, 1036, 1037, 1038]) (K' := [(1000, 62), (1000, 63)]) ?_ (by decide) (by decide)
          exact frI (((fload.mono (by decide) (by decide)).trans (fgo.mono (by decide) (by decide))).trans (fkeep.mono (by decide) (by decide))) (.head _)
      · refine ⟨-1, σ, ρ, ?_, ?_, hI0⟩
        · unfold X11_hours
          rw [if_neg z, if_neg y, show σ.1 31 7 = s 0 7 from h2.2.1.2.2.2.2, if_neg x]
        · unfold X12_hours
          rw [isIn_ok, Option.bind_some, hin, if_neg one_ne]
          show (if ρ.1 1028 62 + nI k ≤ 2000 then _ else _) = _
          rw [h2.2.2.2.2.2.2, if_neg x]
