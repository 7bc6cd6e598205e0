/-! town: a debt, the day, a formula's line -/
section Dbs
variable {b : Nat → Nat} {k u N D db all : Nat} {ns ne : Nat → Nat} {F : Nat → Option Pg} {x : Tk} {σ ρ : Mem}
theorem knownX (h : σ.1 2 5 ≠ 0) : X5_knownPersonHere σ = some (-1, σ) := by
  unfold X5_knownPersonHere
  rw [isAtB_ok h, Option.bind_some]
  show (if (0 : Int32) = 0 then (X5_fail 2 σ).bind _ else _) = _
  rw [if_pos rfl, failB_ok h]
  rfl
theorem oldX (h : ¬ ρ.1 1000 2 ≤ 0) : X12_old ρ = some (0, ρ) := by
  unfold X12_old
  rw [if_neg h]
theorem st_known (hb : TB b k) (hu : u = 7 ∨ u = 124) (hH : HT b k u N D db all ns ne F σ ρ) (hP : PT b k x σ ρ) : Ok2 (X5_knownPersonHere σ) (X12_old ρ) (fun r t => ((∃ p, p < N ∧ r.1 = nI p ∧ t.1 = nI p ∧ kindC b x = 3 ∧ r.2 = σ ∧ t.2 = ρ) ∨ (PX r.2 t.2 ∧ r.1 = -1)) ∧ Fc σ r.2 ∧ Fm ρ t.2) := by
  have h2 := hP.2.2.2.2
  have stop : ∀ v : Nat, 0 < v → v ≤ 5 → Ok2 ((X5_fail (nI v) σ).bind fun σ5 => some ((-1 : Int32), σ5)) ((X12_wrong (nI v) ρ).bind fun σ4 => X12_old_36 σ4) (fun r t => ((∃ p, p < N ∧ r.1 = nI p ∧ t.1 = nI p ∧ kindC b x = 3 ∧ r.2 = σ ∧ t.2 = ρ) ∨ (PX r.2 t.2 ∧ r.1 = -1)) ∧ Fc σ r.2 ∧ Fm ρ t.2) := fun v h0 h5 => by
    refine o2_bind (t_fail h0 h5 hP) (fun σ1 ρ1 q => ?_)
    unfold X12_old_36
    exact o2_nr q.1.neM.2 (o2_some ⟨.inr ⟨q.1, rfl⟩, q.2⟩)
  unfold X5_knownPersonHere X12_old
  rw [isAt_ok hP.2.2.2.1, Option.bind_some, hP.1.2.2.2.1]
  refine o2_pr (by rw [h2]; exact Int32.le_refl _) (o2_r (isNameM_ok hP.2.2.1 hP.2.1) ?_)
  by_cases z : kindC b x = 3
  · have h3 := ((kindC_name hP.2.2.1).mp z).1
    obtain ⟨r, er1, er2, hf⟩ := person_in (r := 0) hb hu hH hP h3
    rw [decide_eq_true z]
    refine o2_nl one_ne (o2_nr one_ne (o2_l er1 (o2_r er2 (o2_bvl ?_))))
    rcases hf with ⟨p, hp, rfl, e⟩ | ⟨rfl, no⟩
    · have hp6 := hH.1.2.1.2.2
      refine o2_nl (ni_ne_neg (by omega)) (o2_pr (ni_nn (by omega)) ?_)
      unfold X12_old_36
      refine o2_pr (by show ρ.1 1000 2 ≤ 0; rw [h2]; exact Int32.le_refl _) (o2_r er2 (o2_some ⟨.inl ⟨p, hp, rfl, rfl, z, rfl, rfl⟩, Fc.refl, Fm.refl⟩))
    · exact o2_pl rfl (o2_nr (show ¬ (0 : Int32) ≤ -1 by decide) (stop 5 (by decide) (by decide)))
  · rw [decide_eq_false z]
    exact o2_pl rfl (o2_pr rfl (stop 2 (by decide) (by decide)))
theorem expectName (hb : TB b k) (hP : PT b k x σ ρ) (hk : kindC b x = 3) : Ok2 (X5_expect 3 σ) (X12_token ρ) (fun σ' ρ' => PT b k (nxt b k x.2.2) σ' ρ' ∧ Fc σ σ' ∧ Fm ρ ρ') := by
  have h3 := ((kindC_name hP.2.2.1).mp hk).1
  unfold X5_expect
  rw [isAt_ok hP.2.2.2.1, Option.bind_some, hP.1.2.2.2.1, decide_eq_true hk]
  refine o2_nl one_ne ?_
  obtain ⟨σ1, ρ1, e1, e2, q⟩ := t_next hb (by omega) hP
  exact ⟨σ1, ρ1, by rw [e1]; rfl, e2, q⟩
theorem debt20X {v : Int32} (h : ρ.1 1000 2 ≠ 0 ∧ ¬ ρ.1 1000 2 ≤ 0) : X12_readDebt_20 v ρ = some ρ := by
  unfold X12_readDebt_20
  rw [wantX h.2, Option.bind_some, oldX h.2, Option.bind_some, bv_eq]
  show (if ρ.1 1000 2 = 0 then _ else X12_readDebt_63 v 0 ρ) = _
  rw [if_neg h.1]
  unfold X12_readDebt_63
  rw [if_neg h.1]
  unfold X12_readDebt_74
  rw [toldNumberX h.2, Option.bind_some, bv_eq]
  exact if_neg h.2
theorem debt63X {v v' : Int32} (h : ρ.1 1000 2 ≠ 0 ∧ ¬ ρ.1 1000 2 ≤ 0) : X12_readDebt_63 v v' ρ = some ρ := by
  unfold X12_readDebt_63
  rw [if_neg h.1]
  unfold X12_readDebt_74
  rw [toldNumberX h.2, Option.bind_some, bv_eq]
  exact if_neg h.2
theorem debt_ok (hb : TB b k) (hu : u = 7 ∨ u = 124) (hH : HT b k u N D db all ns ne F σ ρ) (hP : PT b k x σ ρ) (hk : kindC b x = 109) (hdb : db < 20) : Ok2 (X5_readDebt σ) (X12_readDebt ρ) (fun σ' ρ' => Lin b k u x.2.1 σ σ' ρ') := by
  have hu3 : 3 < u := by omega
  have hx3 := own_tok hP (i := 9) (by decide) hk
  obtain ⟨i1, i2, i3, i4, i5⟩ := hH.1
  unfold X5_readDebt X12_readDebt
  rw [gT_u hu i1, i4.1]
  refine o2_pl ((ni_lt (a := db) (b := 20) (by omega) (by omega)).mpr hdb) (o2_bind (t_next hb (by omega) hP) (fun σ1 ρ1 g => ?_))
  have hadv := adv hP (by omega)
  have hH1 := hH.t hu3 g.2.1 g.2.2
  have f1 : FCu u σ σ1 := .t g.2.1
  have hP1 := g.1
  generalize nxt b k x.2.2 = x1 at *
  refine o2_bind (st_known hb hu hH1 hP1) (fun r t q => o2_bvl (o2_bvr ?_))
  obtain ⟨q, qc, qm⟩ := q
  rcases q with ⟨p, hp, er, et, hk1, e1, e2⟩ | ⟨qX, er⟩
  · rw [er, et, e1, e2]
    refine o2_pr hP1.2.2.2.2 (o2_bind (expectName hb hP1 hk1) (fun σ2 ρ2 g2 => ?_))
    have hx13 := ((kindC_name hP1.2.2.1).mp hk1).1
    have hadv1 := adv hP1 (by omega)
    have hH2 := hH1.t hu3 g2.2.1 g2.2.2
    have f2 : FCu u σ σ2 := f1.trans (.t g2.2.1)
    unfold X12_readDebt_20
    refine o2_bind (st_expect (i := 4) (s := x1.2.1) (F := True) hb (by decide) wc4 (.inl ⟨_, g2.1, by omega, trivial⟩)) (fun σ3 ρ3 g3 => ?_)
    have hH3 := hH2.t hu3 g3.2.1 g3.2.2
    have f3 : FCu u σ σ3 := f2.trans (.t g3.2.1)
    rcases g3.1 with ⟨x3, hP3, hs3, _⟩ | gX
    · refine o2_bind (st_known hb hu hH3 hP3) (fun r' t' q' => o2_bvl (o2_bvr ?_))
      obtain ⟨q', qc', qm'⟩ := q'
      have hp6 := hH3.1.2.1.2.2
      refine o2_nl (ni_ne_neg (by omega)) ?_
      rcases q' with ⟨p', hp', er', et', hk3, e1', e2'⟩ | ⟨qX, er'⟩
      · rw [er', et', e1', e2']
        refine o2_nl (ni_ne_neg (by omega)) (o2_pr hP3.2.2.2.2 ?_)
        have told : Ok2 (X5_readDebt_78 σ3) (X12_readDebt_58 X12_readDebt_63 (nI p) (nI p') ρ3) (fun σ' ρ' => Lin b k u x.2.1 σ σ' ρ') := by
          unfold X5_readDebt_78 X12_readDebt_58
          refine o2_bind (t_fail (v := 3) (by decide) (by decide) hP3) (fun σ4 ρ4 g4 => ?_)
          rw [debt63X g4.1.neM]
          exact o2_some (fin_px (f3.trans (.t g4.2.1)) g4.1 (hH3.b5.t g4.2.2))
        by_cases z : p = p'
        · rw [z] at told ⊢
          exact o2_pl rfl (o2_pr rfl told)
        · have zi : ¬ nI p = nI p' := by rw [ni_inj (by omega) (by omega)]; exact z
          have gb := ib_t (n := 6 * p + p') (k := 36) (by omega) (by omega)
          refine o2_nl zi (o2_nr zi ?_)
          rw [gT_u hu hH3.1.1, cell_ok, Option.bind_some]
          show Ok2 (if ib (nI (6 * p + p')) 36 = true then (if σ3.1 (u + 8) (nI (6 * p + p')).toNatClampNeg = 0 then _ else _) else _) _ _
          rw [show 6 * nI p + nI p' = nI (6 * p + p') by rw [show (6 : Int32) = nI 6 from rfl, ni_mul, ni_add], ni_cl (by omega)]
          obtain ⟨v, v1, v2, v3, v4⟩ := hH3.2.2.1 p p' (by omega) (by omega)
          refine o2_pl gb (o2_pr gb ?_)
          rw [v2, v3]
          by_cases zv : v = 0
          · rw [zv]
            refine o2_pl rfl (o2_pr (Int32.le_refl _) ?_)
            unfold X12_readDebt_63
            refine o2_pr hP3.2.2.2.2 (o2_bind (expectName hb hP3 hk3) (fun σ4 ρ4 g4 => ?_))
            have hx33 := ((kindC_name hP3.2.2.1).mp hk3).1
            have hadv3 := adv hP3 (by omega)
            have hH4 := hH3.t hu3 g4.2.1 g4.2.2
            have f4 : FCu u σ σ4 := f3.trans (.t g4.2.1)
            rw [gT_u hu hH4.1.1, cell_ok, Option.bind_some]
            unfold X12_readDebt_74
            refine o2_bind (st_number (x1 := 1) (x2 := 9999) (y1 := 1) (y2 := 9999) (s := x3.2.1) (F := True) hb (fun _ => ⟨rfl, rfl⟩) (.inl ⟨_, g4.1, by omega, trivial⟩)) (fun r5 t5 q5 => o2_bvr ?_)
            have hH5 := hH4.t hu3 q5.2.1 q5.2.2
            have f5 : FCu u σ r5.2 := f4.trans (.t q5.2.1)
            refine o2_pl gb (o2_bvl ?_)
            rw [ni_cl (by omega)]
            rw [gT_u hu (show (sI r5.2 (u + 8) (6 * p + p') r5.1).1 2 3 = nI u by rw [sI_n (by omega)]; exact hH5.1.1)]
            refine o2_bvl ?_
            rw [sI_n (by omega), hH5.1.2.2.2.1.1, ni_succ]
            have f6 : FCu u σ (sI (sI r5.2 (u + 8) (6 * p + p') r5.1) u 13 (nI (db + 1))) := (f5.w (by omega)).w (by omega)
            rcases q5.1 with ⟨x5, hP5, hs5, _, n1, ⟨v5, hv5, ev5⟩, n3, n4⟩ | qX
            · refine o2_pr (by rw [hP5.2.2.2.2]; exact Int32.le_refl _) ?_
              rw [show 6 * nI p + nI p' = nI (6 * p + p') by rw [show (6 : Int32) = nI 6 from rfl, ni_mul, ni_add], ni_cl (by omega)]
              refine o2_pr gb (o2_bvr (o2_bvr ?_))
              rw [sI_n (by decide), hH5.1.2.2.2.1.2.1, ni_succ]
              obtain ⟨j1, j2, j3, j4, j5⟩ := hH5.1
              have hc : ∀ a c, ¬ (a = u + 8 ∧ c = 6 * p + p') → ¬ (a = u ∧ c = 13) → (sI (sI r5.2 (u + 8) (6 * p + p') r5.1) u 13 (nI (db + 1))).1 a c = r5.2.1 a c := fun a c g1 g2 => by
                rw [sI_r, if_neg g2, sI_r, if_neg g1]
              have hm : ∀ a c, ¬ (a = 1019 ∧ c = 6 * p + p') → ¬ (a = 1000 ∧ c = 43) → (sI (sI t5.2 1019 (6 * p + p') t5.1) 1000 43 (nI (db + 1))).1 a c = t5.2.1 a c := fun a c g1 g2 => by
                rw [sI_r, if_neg g2, sI_r, if_neg g1]
              refine o2_some ⟨f6, .inl ⟨x5, ⟨⟨(hP5.1.o (by omega) (by omega)).o (by omega) (by omega), (hP5.2.1.o (by decide) (by decide)).k (by decide), hP5.2.2.1, ?_, ?_⟩, N, D, db + 1, all, ns, ne, F, ⟨?_, ⟨?_, ?_, j2.2.2⟩, ⟨?_, ?_, j3.2.2⟩, ⟨sI_e _ _ _ _, sI_e _ _ _ _, by omega⟩, ?_, ?_, j5.2.2⟩, fun q hq => ?_, fun i j hi hj => ?_, ?_, fun w hw => ?_⟩, by omega⟩⟩
              · rw [hc _ _ (by omega) (by omega)]
                exact hP5.2.2.2.1
              · rw [hm _ _ (by omega) (by omega)]
                exact hP5.2.2.2.2
              · rw [hc _ _ (by omega) (by omega)]
                exact j1
              · rw [hc _ _ (by omega) (by omega)]
                exact j2.1
              · rw [hm _ _ (by omega) (by omega)]
                exact j2.2.1
              · rw [hc _ _ (by omega) (by omega)]
                exact j3.1
              · rw [hm _ _ (by omega) (by omega)]
                exact j3.2.1
              · rw [hc _ _ (by omega) (by omega)]
                exact j5.1
              · rw [hm _ _ (by omega) (by omega)]
                exact j5.2.1
              · exact (hH5.2.1 q hq).keep (fun j g1 g2 => hc _ _ (by omega) (by omega)) (fun j g1 g2 => hm _ _ (by omega) (by omega))
              · by_cases e : i = p ∧ j = p'
                · rw [e.1, e.2]
                  refine ⟨v5, ?_, ?_, ?_, fun h => by omega⟩
                  · rw [ev5, show (9999 : Int32) = nI 9999 from rfl, ni_le (by omega) (by omega)] at n4
                    exact n4
                  · rw [sI_n (by omega), sI_e]
                    exact ev5
                  · rw [sI_n (by decide), sI_e, ← n1]
                    exact ev5
                · obtain ⟨v', w1, w2, w3, w4⟩ := hH5.2.2.1 i j hi hj
                  refine ⟨v', w1, ?_, ?_, w4⟩
                  · rw [hc _ _ (by omega) (by omega)]
                    exact w2
                  · rw [hm _ _ (by omega) (by omega)]
                    exact w3
              · exact hH5.2.2.2.1.keep (fun c _ => ⟨hc _ _ (by omega) (by omega), hc _ _ (by omega) (by omega)⟩) (fun c _ => rfl)
              · exact (hH5.2.2.2.2 w hw).keep (fun a c g1 g2 => hc _ _ (by omega) (by omega)) (hm _ _ (by omega) (by omega)) (hm _ _ (by omega) (by omega)) (fun c g1 g2 => ⟨hm _ _ (by omega) (by omega), hm _ _ (by omega) (by omega)⟩)
            · refine o2_nr qX.neM.2 (o2_some (fin_px f6 (qX.cong ?_ ?_ rfl rfl) hH5.b5))
              · rw [sI_n (by omega), sI_n (by omega)]
              · rw [sI_n (by omega), sI_n (by omega)]
          · refine o2_nl (by rw [show (0 : Int32) = nI 0 from rfl, ni_inj (by omega) (by omega)]; exact zv) (o2_nr (by rw [show (0 : Int32) = nI 0 from rfl, ni_le (by omega) (by omega)]; omega) told)
      · rw [er']
        refine o2_pl rfl (o2_nr qX.neM.1 ?_)
        rw [debt63X qX.neM]
        exact o2_some (fin_px (f3.trans (.t qc')) qX (hH3.b5.t qm'))
    · refine o2_l (knownX gX.neC) (o2_r (oldX gX.neM.2) (o2_bvl (o2_bvr ?_)))
      have hp6 := hH3.1.2.1.2.2
      refine o2_nl (ni_ne_neg (by omega)) (o2_pl rfl (o2_nr gX.neM.1 ?_))
      show Ok2 (some σ3) (X12_readDebt_63 (nI p) 0 ρ3) _
      rw [debt63X gX.neM]
      exact o2_some (fin_px f3 gX hH3.b5)
  · rw [er]
    refine o2_nr qX.neM.1 (o2_l (expectX qX.neC) (o2_l (expectX qX.neC) (o2_l (knownX qX.neC) (o2_bvl (o2_pl rfl ?_)))))
    rw [debt20X qX.neM]
    exact o2_some (fin_px (f1.trans (.t qc)) qX (hH1.b5.t qm))
theorem day_ok (hb : TB b k) (hu : u = 7 ∨ u = 124) (hH : HT b k u 0 D db all ns ne F σ ρ) (hP : PT b k x σ ρ) (hk : kindC b x = 100) : Ok2 (X5_readDay 1 σ) ((X12_told 6578553 2 24 (sI ρ 1000 47 1)).bind fun r3 => some (sI r3.2 1000 44 r3.1)) (fun σ' ρ' => Lin b k u x.2.1 σ σ' ρ') := by
  have hu3 : 3 < u := by omega
  have hx3 := own_tok hP (i := 0) (by decide) hk
  have hP0 : PT b k x σ (sI ρ 1000 47 1) := ⟨hP.1, hP.2.1.k (by decide), hP.2.2.1, hP.2.2.2.1, by rw [sI_k (by decide)]; exact hP.2.2.2.2⟩
  have hH0 : HT b k u 0 D db all ns ne F σ (sI ρ 1000 47 1) := hH.keep (fun _ _ _ => rfl) (fun a c h => by rw [sI_r, if_neg (by omega)]) rfl
  generalize sI ρ 1000 47 1 = ρ0 at *
  unfold X5_readDay
  rw [told_bind]
  refine o2_nl one_ne ?_
  have eW : Ok2 (X9_next σ) (X12_want 6578553 ρ0) (fun σ' ρ' => PT b k (nxt b k x.2.2) σ' ρ' ∧ Fc σ σ' ∧ Fm ρ0 ρ') := by
    unfold X12_want
    refine o2_pr (by rw [hP0.2.2.2.2]; exact Int32.le_refl _) (o2_r (isWordM_ok 0 hP0.2.2.1 hP0.2.1 (by decide) wc0) ?_)
    rw [decide_eq_true (show kindC b x = nI (100 + 0) from hk)]
    refine o2_nr one_ne ?_
    obtain ⟨σ1, ρ1, e1, e2, q⟩ := t_next hb (by omega) hP0
    exact ⟨σ1, ρ1, e1, by rw [e2]; rfl, q⟩
  refine o2_bind eW (fun σ1 ρ1 g => ?_)
  have hadv := adv hP0 (by omega)
  have hH1 := hH0.t hu3 g.2.1 g.2.2
  have f1 : FCu u σ σ1 := .t g.2.1
  rw [gT_u hu hH1.1.1]
  refine o2_bind (st_number (x1 := 2) (x2 := 24) (y1 := 2) (y2 := 24) (s := x.2.1 + 1) (F := True) hb (fun _ => ⟨rfl, rfl⟩) (.inl ⟨_, g.1, by omega, trivial⟩)) (fun r t q => o2_bvl ?_)
  have hH2 := hH1.t hu3 q.2.1 q.2.2
  have f2 : FCu u σ (sI r.2 u 11 r.1) := (f1.trans (.t q.2.1)).w (by omega)
  have hc : ∀ a c, ¬ (a = u ∧ c = 11) → (sI r.2 u 11 r.1).1 a c = r.2.1 a c := fun a c g1 => by
    rw [sI_r, if_neg g1]
  have hm : ∀ a c, ¬ (a = 1000 ∧ c = 44) → (sI t.2 1000 44 t.1).1 a c = t.2.1 a c := fun a c g1 => by
    rw [sI_r, if_neg g1]
  obtain ⟨j1, j2, j3, j4, j5⟩ := hH2.1
  rcases q.1 with ⟨x2, hP2, hs2, _, n1, ⟨v, hv, ev⟩, n3, n4⟩ | qX
  · rw [ev, show (24 : Int32) = nI 24 from rfl, ni_le (by omega) (by omega)] at n4
    rw [ev, show (2 : Int32) = nI 2 from rfl, ni_lt (by omega) (by omega)] at n3
    refine o2_some ⟨f2, .inl ⟨x2, ⟨⟨hP2.1.o (by omega) (by omega), hP2.2.1.k (by decide), hP2.2.2.1, ?_, ?_⟩, 0, v, db, all, ns, ne, F, ⟨?_, ⟨?_, ?_, j2.2.2⟩, ⟨?_, ?_, by omega, by omega⟩, ⟨?_, ?_, j4.2.2⟩, ?_, ?_, j5.2.2⟩, fun q hq => by omega, hH2.2.2.1.keep (fun c => hc _ _ (by omega)) (fun c => hm _ _ (by omega)), hH2.2.2.2.1.keep (fun c h => by omega) (fun c h => by omega), fun w hw => ?_⟩, by omega⟩⟩
    · rw [hc _ _ (by omega)]
      exact hP2.2.2.2.1
    · rw [hm _ _ (by omega)]
      exact hP2.2.2.2.2
    · rw [hc _ _ (by omega)]
      exact j1
    · rw [hc _ _ (by omega)]
      exact j2.1
    · rw [hm _ _ (by omega)]
      exact j2.2.1
    · rw [sI_e]
      exact ev
    · rw [sI_e, ← n1]
      exact ev
    · rw [hc _ _ (by omega)]
      exact j4.1
    · rw [hm _ _ (by omega)]
      exact j4.2.1
    · rw [hc _ _ (by omega)]
      exact j5.1
    · rw [hm _ _ (by omega)]
      exact j5.2.1
    · exact (hH2.2.2.2.2 w hw).keep (fun a c g1 g2 => hc _ _ (by omega)) (hm _ _ (by omega)) (hm _ _ (by omega)) (fun c g1 g2 => ⟨hm _ _ (by omega), hm _ _ (by omega)⟩)
  · refine o2_some (fin_px f2 (qX.cong (hc _ _ (by omega)) (hc _ _ (by omega)) (hm _ _ (by omega)) (hm _ _ (by omega))) (fun w hw => ?_))
    rw [hm _ _ (by omega)]
    exact hH2.b5 w hw
theorem formL_ok {w : Nat} (hb : TB b k) (hu : u = 7 ∨ u = 124) (hw3 : w < 3) (hH : HT b k u N D db all ns ne F σ ρ) (hP : PT b k x σ ρ) (hk : kindC b x = nI (110 + w)) (hF : F w = none) : Ok2 (X5_readFormula (u + 9 + 5 * w) σ) (X12_formula (nI w) (sI ρ 1000 (49 + w) 1)) (fun σ' ρ' => Lin b k u x.2.1 σ σ' ρ') := by
  have hu3 : 3 < u := by omega
  have hx3 := own_tok hP (i := 10 + w) (by omega) (by rw [hk]; congr 1; omega)
  obtain ⟨j1, j2, j3, j4, j5⟩ := hH.1
  have hR := hH.2.2.2.2 w hw3
  rw [hF] at hR
  obtain ⟨r4, r5, r6, r7, _, _⟩ := hR
  have hR0 : RTok b k x (sI ρ 1000 (49 + w) 1) := hP.2.1.k (by omega)
  have h2 : (sI ρ 1000 (49 + w) 1).1 1000 2 = 0 := by rw [sI_k (by omega)]; exact hP.2.2.2.2
  have h21 : (sI ρ 1000 (49 + w) 1).1 1000 21 = nI all := by rw [sI_k (by omega)]; exact j5.2.1
  have h49 : (sI ρ 1000 (49 + w) 1).1 1000 (49 + w) = 1 := sI_e _ _ _ _
  have hm0 : ∀ a c, ¬ (a = 1000 ∧ c = 49 + w) → (sI ρ 1000 (49 + w) 1).1 a c = ρ.1 a c := fun a c g => by rw [sI_r, if_neg g]
  have hl0 : (sI ρ 1000 (49 + w) 1).2 = ρ.2 := rfl
  generalize sI ρ 1000 (49 + w) 1 = ρ0 at *
  obtain ⟨σ1, e1, ff, res⟩ := form_ok (f := u + 9 + 5 * w) hb hu (by omega) hw3 hP.2.2.1 hx3 j5.2.2 hP.1 hP.2.2.2.1 j1 j5.1 r4 r5 r6 r7
  have fc : ∀ a c, ¬ (a = 3 ∨ a = u + 9 + 5 * w + 1 ∨ a = u + 9 + 5 * w + 2 ∨ a = u + 9 + 5 * w + 4 ∨ (a = 2 ∧ 4 ≤ c ∧ c ≤ 6) ∨ (a = u ∧ c = 14) ∨ a = u + 9 + 5 * w) → σ1.1 a c = σ.1 a c := fun a c g => ff.1 a c (by unfold LFf; simp; omega) (by unfold KFf; simp; omega)
  have f1 : FCu u σ σ1 := fun a c g => fc a c (by omega)
  have fmM : ∀ {ρ1 : Mem}, FW w ρ0 ρ1 → ∀ a c, a < 2000 → a ≠ 1003 → a ≠ 1004 → a ≠ 1005 → a ≠ 1009 → (a = 1000 → (42 ≤ c ∧ c ≠ 49 + w)) → ρ1.1 a c = ρ.1 a c := fun g a c g1 g2 g3 g4 g5 g6 => by
    rw [g.1 a c g1 g2 g3 g4 g5 (fun e => by have := g6 e; unfold KF; simp; omega), hm0 a c (by omega)]
  rcases res with ⟨x', pr, own, all', c1, c2, c3, c4, c5, c6, c7⟩ | ⟨c, p, hX, h0, h5, run⟩
  · obtain ⟨ρ1, e2, m1, m2⟩ := c7 ρ0 hR0 h2 h21
    refine ⟨σ1, ρ1, e1, e2, f1, .inl ⟨x', ⟨⟨c1.1, m1.1, c3, c1.2.1, m1.2.1⟩, N, D, db, all', ns, ne, fun v => if v = w then some pr else F v, ⟨?_, ⟨?_, ?_, j2.2.2⟩, ⟨?_, ?_, j3.2.2⟩, ⟨?_, ?_, j4.2.2⟩, c1.2.2.2.2.1, m1.2.2.2.2.1, c5⟩, fun q hq => ?_, ?_, ?_, fun v hv => ?_⟩, c4⟩⟩
    · exact c1.2.2.1
    · rw [fc _ _ (by omega)]
      exact j2.1
    · rw [fmM m2 _ _ (by omega) (by omega) (by omega) (by omega) (by omega) (by omega)]
      exact j2.2.1
    · rw [fc _ _ (by omega)]
      exact j3.1
    · rw [fmM m2 _ _ (by omega) (by omega) (by omega) (by omega) (by omega) (by omega)]
      exact j3.2.1
    · rw [fc _ _ (by omega)]
      exact j4.1
    · rw [fmM m2 _ _ (by omega) (by omega) (by omega) (by omega) (by omega) (by omega)]
      exact j4.2.1
    · exact (hH.2.1 q hq).keep (fun j g1 g2 => fc _ _ (by omega)) (fun j g1 g2 => fmM m2 _ _ (by omega) (by omega) (by omega) (by omega) (by omega) (by omega))
    · exact hH.2.2.1.keep (fun c => fc _ _ (by omega)) (fun c => fmM m2 _ _ (by omega) (by omega) (by omega) (by omega) (by omega) (by omega))
    · refine hH.2.2.2.1.keep (fun c _ => ⟨fc _ _ (by omega), fc _ _ (by omega)⟩) (fun c _ => ?_)
      rw [m2.2.2.2 1002 (by decide), hl0]
    · by_cases e : v = w
      · subst e
        simp only [if_pos]
        refine ⟨c6, c2, c1.2.2.2.2.2, ?_, m1.2.2.1.2.1, m1.2.2.1.2.2⟩
        rw [m2.1 1000 (49 + v) (by omega) (by omega) (by omega) (by omega) (by omega) (fun _ => by unfold KF; simp; omega)]
        exact h49
      · simp only [if_neg e]
        refine (hH.2.2.2.2 v hv).keep (fun a c g1 g2 => fc _ _ (by omega)) (fmM m2 _ _ (by omega) (by omega) (by omega) (by omega) (by omega) (by omega)) ?_ (fun c g1 g2 => ⟨?_, ?_⟩)
        · rw [m2.2.2.1 v e, hm0 _ _ (by omega)]
        · rw [m2.2.1 1003 c (.inl rfl) (by omega), hm0 _ _ (by omega)]
        · rw [m2.2.1 1004 c (.inr rfl) (by omega), hm0 _ _ (by omega)]
  · obtain ⟨ρ1, e2, m1, m2⟩ := run ρ0 hR0 h2 h21
    refine ⟨σ1, ρ1, e1, e2, fin_px f1 ⟨c, p, h0, h5, hX.1, m1.1, hX.2.1, m1.2.1⟩ (fun v hv => ?_)⟩
    by_cases e : v = w
    · subst e
      exact m1.2.2
    · rw [m2.2.2.1 v e, hm0 _ _ (by omega)]
      exact hH.b5 v hv
end Dbs
