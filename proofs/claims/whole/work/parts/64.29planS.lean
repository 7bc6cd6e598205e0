/-! plan: the step -/
theorem planM_ok {T : Tn} {s : St} {x : Nat} {ρ : Mem} (hT : okT T) (hS : okN T s) (hx : x < tN T) (hM : MN T ρ) (hR : rowR (tN T) s (ρ.1 1028)) (h75 : ρ.1 1000 75 = 0) :
    Ok ((X12_load ρ).bind fun σ3 => bv (sI σ3 1000 74 0) fun σ4 => X12_plan_28 fu (nI x) 1 0 σ4) (fun r => accR (crs x s (tN T) 0).length (bestF T x s) r.2 ∧ r.1 = if (bestF T x s).1 ≤ 300 then nI (bestF T x s).1 else -1) := by
  have hn6 := hT.1
  have hK5 : (crs x s (tN T) 0).length ≤ 5 := by
    have := crs_self hx hn6 (okS_D hS.1)
    omega
  refine ok_bind (ok_fr (load_ok hT hM hR) (fr_X12_load _ Fr.refl)) ?_
  rintro ρ1 ⟨⟨a1, a2⟩, f1⟩
  have f1 : Fr L_X12_load K_X12_load ρ ρ1 := f1
  have f2 : Fr [1029, 1030, 1031, 1032, 1033, 1034] [(1000, 62), (1000, 63), (1000, 74)] ρ (sI ρ1 1000 74 0) := frIk (f1.mono (by decide) (by decide)) (by decide)
  refine ok_bv ?_
  have e33 : ∀ k, k < 36 → (sI ρ1 1000 74 0).1 1033 k = s 5 k := fun k hk => by
    rw [sI_n (by decide)]
    exact a2.2.1 k hk
  have e45 : (sI ρ1 1000 74 0).1 1000 45 = nI (tN T) := by
    rw [sI_k (by decide)]
    exact a1.1
  have e74 : (sI ρ1 1000 74 0).1 1000 74 = nI 0 := sI_e _ _ _ _
  generalize sI ρ1 1000 74 0 = ρ2 at *
  refine ok_loop0 (F := fun n i (y : Int32 × Mem) => X12_plan_28 n (nI x) y.1 i y.2) (N := tN T) (I := fun j y => y.1 = nI (fct (crs x s j 0).length) ∧ Fr [1040] [(1000, 74)] ρ2 y.2 ∧ y.2.1 1000 74 = nI (crs x s j 0).length ∧ ∀ q, q < (crs x s j 0).length → y.2.1 1040 q = nI ((crs x s j 0).getD q 0)) 0 (1, ρ2) (by omega) (by omega) ⟨rfl, Fr.refl, e74, fun q hq => by simp [crs] at hq⟩ ?_ ?_
  · rintro n j ⟨y, ρ3⟩ hj ⟨q1, f3, q3, q4⟩ hk
    simp only [] at q1 f3 q3 q4
    have g3 := f3.off (A := [1033]) (B := [(1000, 45)]) (by decide)
    have hlj := crs_len_le x s j 0
    have hle5 : (crs x s j 0).length ≤ 5 := by omega
    have hfj : fct (crs x s j 0).length ≤ 720 := fct_le ⟨_, by omega⟩
    show Ok (X12_plan_28 (n + 1) (nI x) y (nI j) ρ3) _
    rw [X12_plan_28, g3.2 1000 45 (by decide), e45]
    refine ok_neg (by rw [ni_le (by omega) (by omega)]; omega) ?_
    rw [ni_cell, ni_cl (by omega), g3.1 1033 (by decide), e33 _ (by omega)]
    refine ok_pos (ib_t (by omega) (by omega)) ?_
    have ej : crs x s (j + 1) 0 = crs x s j 0 ++ (if s 5 (6 * x + j) = 0 then [] else [j]) := by
      rw [crs_app, Nat.zero_add, crs_s]
      split <;> rfl
    refine ok_ite (fun z => ?_) (fun z => ?_)
    · rw [if_pos z, List.append_nil] at ej
      unfold X12_plan_80
      refine ok_bv ?_
      rw [ni_succ]
      exact hk (y, ρ3) ⟨by rw [ej]; exact q1, f3, by rw [ej]; exact q3, by rw [ej]; exact q4⟩
    · rw [if_neg z] at ej
      have el : (crs x s (j + 1) 0).length = (crs x s j 0).length + 1 := by rw [ej, List.length_append]; rfl
      rw [q3]
      refine ok_pos (ib_t (by omega) (by omega)) (ok_bv (ok_bv (ok_bv ?_)))
      unfold X12_plan_80
      refine ok_bv ?_
      rw [ni_cl (by omega), sI_e, sI_n (by decide), q3, ni_succ, ni_succ, q1, ni_mul]
      refine hk (nI (fct (crs x s j 0).length * ((crs x s j 0).length + 1)), sI (sI ρ3 1040 (crs x s j 0).length (nI j)) 1000 74 (nI ((crs x s j 0).length + 1))) ⟨?_, frIk (frI f3 (by decide)) (by decide), ?_, fun q hq => ?_⟩
      · rw [el]
        show nI _ = nI (((crs x s j 0).length + 1) * fct (crs x s j 0).length)
        rw [Nat.mul_comm]
      · rw [sI_e, el]
      · rw [el] at hq
        rw [sI_n (by decide), sI_o, ej]
        by_cases y : q = (crs x s j 0).length
        · rw [if_pos y, y]
          simp
        · rw [if_neg y, q4 q (by omega)]
          simp only [List.getD]
          rw [List.getElem?_append_left (by omega)]
  · rintro n ⟨y, ρ3⟩ ⟨q1, f3, q3, q4⟩
    simp only [] at q1 f3 q3 q4
    have g3 := f3.off (A := [1033]) (B := [(1000, 45)]) (by decide)
    have f4 : Fr [1029, 1030, 1031, 1032, 1033, 1034, 1040] [(1000, 62), (1000, 63), (1000, 74)] ρ ρ3 := (f2.mono (by decide) (by decide)).trans (f3.mono (by decide) (by decide))
    have e75 : ρ3.1 1000 75 = 0 := ((f4.off (A := [1028]) (B := [(1000, 75)]) (by decide)).2 1000 75 (by decide)).trans h75
    show Ok (X12_plan_28 (n + 1) (nI x) y (nI (tN T)) ρ3) _
    rw [X12_plan_28, g3.2 1000 45 (by decide), e45, q3]
    refine ok_pos (Int32.le_refl _) (ok_ite (fun z => ?_) (fun z => ok_bv (ok_bv ?_)))
    · rw [ni_z (by omega)] at z
      have ec : crs x s (tN T) 0 = [] := List.length_eq_zero_iff.mp z
      have hB : bestF T x s = (0, []) := by
        unfold bestF
        rw [ec]
        rfl
      rw [hB, ec]
      refine ok_some ⟨⟨by simp, fun w => absurd (show (0 : Nat) < 301 by omega) w, fun _ => ⟨e75, fun j hj => by simp at hj⟩⟩, ?_⟩
      show (0 : Int32) = if 0 ≤ 300 then nI 0 else -1
      rw [if_pos (by omega)]
      rfl
    · rw [q1]
      have hM3 : MN T ρ3 := hM.keep f4 (by decide)
      have z' : 1 ≤ (crs x s (tN T) 0).length := by
        rw [ni_z (by omega)] at z
        omega
      exact plan102_ok hT hS hx hM3 (by rw [(f4.off (A := [1028]) (B := [(1000, 75)]) (by decide)).1 1028 (by decide)]; exact hR) z' q4 q3 e75
theorem s_plan (a0 : Int32) : StpI Inv (X11_plan a0) (X12_plan a0) := by
  refine stp (fun σ => fr_X11_plan a0 σ Fr.refl) (fun σ => fr_X12_plan a0 σ Fr.refl) (by decide) (by decide) (fun σ ρ hI => ?_)
  have fC : Fr [] [(0, 14)] σ (sI σ 0 14 0) := frIk Fr.refl (.inl (.head _))
  have fM : Fr [] [(1000, 75)] ρ (sI ρ 1000 75 0) := frIk Fr.refl (.inl (.head _))
  have hI1 : InvR (sI σ 0 14 0) (sI ρ 1000 75 0) := hI.lie fC fM (by decide) (by decide) ⟨0, by omega, sI_e _ _ _ _, sI_e _ _ _ _, fun i hi => by omega⟩
  have z14 : (sI σ 0 14 0).1 0 14 = 0 := sI_e _ _ _ _
  have z75 : (sI ρ 1000 75 0).1 1000 75 = 0 := sI_e _ _ _ _
  have eC : ∀ σ1, σ1 = sI σ 0 14 0 → X11_plan a0 σ = (X11_isPerson a0 σ1).bind fun r2 => if r2.1 = 0 then some ((-1), r2.2) else gT (r2.2.1 0 12) fun q3 => (X4_hoursOfBest q3 31 a0 r2.2).bind fun r4 => bv (r4.1 : Int32) fun v5 => if v5 = (-1) then some (v5, r4.2) else (X11_layDown 68 6 (r4.2.1 61 6) r4.2).bind fun σ6 => some (v5, σ6) := fun σ1 g => by
    subst g
    rfl
  have eM : ∀ ρ1, ρ1 = sI ρ 1000 75 0 → X12_plan a0 ρ = (X12_isPerson a0 ρ1).bind fun r2 => if r2.1 = 0 then some ((-1), r2.2) else (X12_load r2.2).bind fun σ3 => bv (sI σ3 1000 74 0) fun σ4 => X12_plan_28 fu a0 1 0 σ4 := fun ρ1 g => by
    subst g
    rfl
  have eC := eC _ rfl
  have eM := eM _ rfl
  have hfM : ∀ r ρ', X12_plan a0 ρ = some (r, ρ') → Fr L_X12_plan K_X12_plan (sI ρ 1000 75 0) ρ' := fun r ρ' e => by
    have q : Fr L_X12_plan K_X12_plan ρ ρ' := fr_X12_plan a0 ρ Fr.refl _ e
    refine ⟨fun a b h1 h2 => ?_, fun h5 => q.2 h5⟩
    rw [q.1 a b h1 h2, sI_r, if_neg]
    rintro ⟨rfl, rfl⟩
    exact h2 (by decide)
  have hfC : ∀ r σ', X11_plan a0 σ = some (r, σ') → Fr L_X11_plan K_X11_plan (sI σ 0 14 0) σ' := fun r σ' e => by
    have q : Fr L_X11_plan K_X11_plan σ σ' := fr_X11_plan a0 σ Fr.refl _ e
    refine ⟨fun a b h1 h2 => ?_, fun h5 => q.2 h5⟩
    rw [q.1 a b h1 h2, sI_r, if_neg]
    rintro ⟨rfl, rfl⟩
    exact h2 (by decide)
  generalize sI σ 0 14 0 = σ1 at *
  generalize sI ρ 1000 75 0 = ρ1 at *
  obtain ⟨t, T, s, h1, h2, -, -, -, -, -, -, h9⟩ := id hI1
  have hT := h1.2.2.2.1
  have hn := hT.1
  have ht := h1.1
  rw [isPersonC_ok h1, Option.bind_some] at eC
  rw [isPersonM_ok h1, Option.bind_some] at eM
  cases hb : isP (tN T) a0 with
  | false =>
    rw [hb, if_pos (show tr false = 0 from rfl)] at eC eM
    exact ⟨_, _, _, eC, eM, hI1⟩
  | true =>
    rw [hb, if_neg (show ¬ tr true = 0 from one_ne)] at eC eM
    obtain ⟨x, hx, rfl⟩ := isP_t hn hb
    rw [show (tr true, σ1).2.1 0 12 = nI t from h1.2.1, gT_ok ht] at eC
    obtain ⟨⟨v, σ2⟩, e1, c1, c2, c3⟩ := best_ok (x := x) (s := s) hT h2.1 ht hx h1.2.2.2.2.1 h2.2.1 h9.1
    obtain ⟨⟨v', ρ2⟩, e2, d1, d2⟩ := planM_ok (x := x) (s := s) hT h2.1 hx h1.2.2.2.2.2.2.1 h2.2.2 z75
    have hK5 : (crs x s (tN T) 0).length ≤ 5 := by
      have := crs_self hx hn (okS_D h2.1.1)
      omega
    have c1 : accP _ _ σ2 := c1
    have c2 : σ2.1 61 6 = _ := c2
    have c3 : v = _ := c3
    have d1 : accR _ _ ρ2 := d1
    have d2 : v' = _ := d2
    have eM : X12_plan (nI x) ρ = some (v', ρ2) := eM.trans e2
    have eC : X11_plan (nI x) σ = ((X4_hoursOfBest t 31 (nI x) σ1).bind fun r4 => bv (r4.1 : Int32) fun v5 => if v5 = (-1) then some (v5, r4.2) else (X11_layDown 68 6 (r4.2.1 61 6) r4.2).bind fun σ6 => some (v5, σ6)) := eC
    rw [e1, Option.bind_some] at eC
    have eC : X11_plan (nI x) σ = if v = (-1) then some (v, σ2) else (X11_layDown 68 6 (σ2.1 61 6) σ2).bind fun σ6 => some (v, σ6) := eC
    have f12 : Fr (L_X4_hoursOfBest t 31) (K_X4_hoursOfBest t 31) σ1 σ2 := fr_X4_hoursOfBest t 31 _ σ1 Fr.refl _ e1
    have e14 : σ2.1 0 14 = 0 := by
      rw [← z14]
      exact f12.1 0 14 (by simp [L_X4_hoursOfBest]) (by simp [K_X4_hoursOfBest])
    generalize bestF T x s = B at *
    generalize (crs x s (tN T) 0).length = K at *
    by_cases z : B.1 ≤ 300
    · rw [if_pos z] at c3 d2
      subst c3
      subst d2
      rw [if_neg (ni_ne_neg (by omega)), c2] at eC
      obtain ⟨σ3, e3, u1, u2⟩ := layDown_ok (a := 68) (m := K) (g := fun j => nI (B.2.getD j 0)) (σ := σ2) (by omega) (by decide) (fun j hj => (c1.2.2 (by omega)).2 j hj)
      rw [e3] at eC
      have eC : X11_plan (nI x) σ = some (nI B.1, σ3) := eC
      have dd := d1.2.2 (by omega)
      exact ⟨_, σ3, ρ2, eC, eM, hI1.lie (hfC _ _ eC) (hfM _ _ eM) (by decide) (by decide) ⟨K, by omega, u1, dd.1, fun j hj => (u2 j hj).trans (dd.2 j hj).symm⟩⟩
    · rw [if_neg z] at c3 d2
      subst c3
      subst d2
      rw [if_pos rfl] at eC
      exact ⟨_, σ2, ρ2, eC, eM, hI1.lie (hfC _ _ eC) (hfM _ _ eM) (by decide) (by decide) ⟨0, by omega, e14, d1.2.1 (by omega), fun j hj => by omega⟩⟩
