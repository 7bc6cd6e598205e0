/-! town: both sides -/
def LBt : List Nat := [3, 5, 6] ++ (List.range 24).map (fun j => 7 + j) ++ (List.range 24).map (fun j => 124 + j)
def KBt : List (Nat × Nat) := [(2, 4), (2, 5), (2, 6), (0, 13)]
theorem not_LBt {a : Nat} (h : a ∉ LBt) : a ≠ 3 ∧ a ≠ 5 ∧ a ≠ 6 ∧ ¬ (7 ≤ a ∧ a ≤ 30) ∧ ¬ (124 ≤ a ∧ a ≤ 147) := by
  refine ⟨fun e => h ?_, fun e => h ?_, fun e => h ?_, fun e => h ?_, fun e => h ?_⟩
  · subst e
    decide
  · subst e
    decide
  · subst e
    decide
  · unfold LBt
    rw [List.mem_append, List.mem_append, List.mem_map]
    exact .inl (.inr ⟨a - 7, by rw [List.mem_range]; omega, by omega⟩)
  · unfold LBt
    rw [List.mem_append, List.mem_map]
    exact .inr ⟨a - 124, by rw [List.mem_range]; omega, by omega⟩
theorem town2 : Stp2 X11_town X12_town := by
  intro σ ρ hI
  obtain ⟨t, T, s, h1, h2, h3, h4, h5, h6, h7, h8, h9⟩ := hI
  obtain ⟨ht, h012, h23, hT, hC, hCN, hM, h14⟩ := h1
  obtain ⟨k, hk, k13, k1, kby⟩ := h7
  have hu : 131 - t = 7 ∨ 131 - t = 124 := by omega
  obtain ⟨⟨rv, σ1⟩, ρ1, e1, e2, hF, res⟩ := read_ok (u := 131 - t) hu hk k13 k1 kby h23 h9.2
  have hF : FCu (131 - t) σ σ1 := hF
  have k0 := all0 e2
  have gM : Fr L_X12_readAll K_X12_readAll ρ ρ1 := fr_X12_readAll ρ Fr.refl _ e2
  have l1 : σ1.2 = σ.2 := (fr_X5_read (σ.1 0 13) σ Fr.refl _ e1).2 (by decide)
  rcases res with ⟨r1, f25, f2, f26, f3, b, N, D, db, all, ns, ne, F, hH⟩ | ⟨r0, hX, hB⟩
  · have r1 : rv = 1 := r1
    subst r1
    have f25 : σ1.1 2 5 = 0 := f25
    have f26 : σ1.1 2 6 = -1 := f26
    have hH : HT b k (131 - t) N D db all ns ne F σ1 ρ1 := hH
    obtain ⟨⟨j1, j2, j3, j4, j5⟩, hR, hDb, _, hFm⟩ := hH
    have hb5 : B5 ρ1 := fun w hw => by
      have := hFm w hw
      unfold FRel at this
      cases hFw : F w with
      | none =>
        rw [hFw] at this
        exact this.2.2.2.2.2
      | some pr =>
        rw [hFw] at this
        have h1 := this.1.2.2.1
        exact ⟨pr.length, by omega, this.2.2.2.2.1⟩
    have hfl : ∀ w, w < 3 → ρ1.1 1000 (49 + w) = 0 ∨ ρ1.1 1000 (49 + w) = 1 := fun w hw => by
      have := hFm w hw
      unfold FRel at this
      cases hFw : F w with
      | none =>
        rw [hFw] at this
        exact .inl this.2.2.2.2.1
      | some pr =>
        rw [hFw] at this
        exact .inr this.2.2.2.1
    obtain ⟨⟨v1, σ2⟩, eC, c1, c2, c3, c4, c5, c6, c7, c8, c9, c10, c11, c12, cO⟩ := cEnd_ok (t := t) (u := 131 - t) (N := N) ht hu e1 ((hF 0 12 (by omega)).trans h012) j1 j2.1
    obtain ⟨⟨v2, ρ2⟩, eM, ⟨m1, mO, m2, m3, m4, m5, m6, m7⟩, m8, m9, m10, m11, m12⟩ := townEnd_ok f2 j2.2.1 j2.2.2 hfl hb5
    have c1 : v1 = nI N := c1
    have m1 : v2 = nI N := m1
    subst c1
    subst m1
    refine ⟨nI N, σ2, ρ2, eC, ?_, ?_⟩
    · rw [town_eq, e2]
      exact eM
    have tw : ∀ a c, 131 - t ≤ a → a ≤ 131 - t + 23 → σ2.1 a c = σ1.1 a c := fun a c g1 g2 => cO a c (by omega)
    have mP : ∀ a c, a < 1020 ∨ 1050 < a → a ≠ 1006 → a ≠ 1007 → a ≠ 1008 → ¬ (a = 1000 ∧ (c = 69 ∨ c = 70 ∨ c = 75 ∨ c = 86 ∨ c = 45 ∨ c = 46 ∨ c = 52 ∨ c = 53 ∨ c = 54 ∨ c = 22)) → ρ2.1 a c = ρ1.1 a c := mO
    obtain ⟨T', eT⟩ : ∃ y : Tn, y = (N, D, (fun j p => σ1.1 (131 - t + j) p), fun w => if w < 3 then F w else none) := ⟨_, rfl⟩
    obtain ⟨s', es⟩ : ∃ y : St, y = fun kk j => if kk = 0 then 0 else if kk = 1 then σ1.1 (131 - t + 1) j else if kk = 2 then -1 else if kk = 3 then nI j else if kk = 4 then σ1.1 (131 - t + 7) j else σ1.1 (131 - t + 8) j := ⟨_, rfl⟩
    have tN' : tN T' = N := by rw [eT]; rfl
    have tD' : tD T' = D := by rw [eT]; rfl
    have tR' : ∀ j p, tR T' j p = σ1.1 (131 - t + j) p := fun j p => by rw [eT]; rfl
    have tP' : ∀ w, w < 3 → tP T' w = F w := fun w hw => by
      rw [eT]
      exact if_pos hw
    have s0' : ∀ j, s' 0 j = 0 := fun j => by rw [es]; rfl
    have s1' : ∀ j, s' 1 j = σ1.1 (131 - t + 1) j := fun j => by rw [es]; rfl
    have s2' : ∀ j, s' 2 j = -1 := fun j => by rw [es]; rfl
    have s3' : ∀ j, s' 3 j = nI j := fun j => by rw [es]; rfl
    have s4' : ∀ j, s' 4 j = σ1.1 (131 - t + 7) j := fun j => by rw [es]; rfl
    have s5' : ∀ j, s' 5 j = σ1.1 (131 - t + 8) j := fun j => by rw [es]; rfl
    have hN6 := j2.2.2
    have okT' : okT T' := by
      refine ⟨by rw [tN']; exact hN6, by rw [tD']; exact j3.2.2.1, by rw [tD']; exact j3.2.2.2, fun p hp => ?_, fun w pr hpr => ?_⟩
      · rw [tN'] at hp
        obtain ⟨q1, q2, q3, q4, q5, q6, _, _⟩ := hR p hp
        rw [tR', tR', tR', tD']
        exact ⟨⟨q2, q3, q4⟩, q5, q6⟩
      · by_cases hw : w < 3
        · rw [tP' w hw] at hpr
          have := hFm w hw
          rw [hpr] at this
          exact ⟨this.1.1, this.1.2.1, this.1.2.2.1⟩
        · rw [eT] at hpr
          have hpr : (if w < 3 then F w else none) = some pr := hpr
          rw [if_neg hw] at hpr
          cases hpr
    have okN' : okN T' s' := by
      refine ⟨⟨fun p hp => ?_, fun i j hi hj => ?_, ⟨0, by rw [tD']; have := j3.2.2.1; omega, s0' 6⟩, ?_, ?_⟩, ?_⟩
      · rw [tN'] at hp
        obtain ⟨_, _, _, _, _, _, q7, q8⟩ := hR p hp
        refine ⟨.inl (s2' p), ⟨p, by rw [tN']; exact hp, s3' p⟩, by rw [s4']; exact q7, ?_⟩
        rw [s4', s0']
        have := Int32.le_iff_toInt_le.mp q8
        have e9 : (999 : Int32).toInt = 999 := by decide
        have e0 : (0 : Int32).toInt = 0 := by decide
        omega
      · obtain ⟨v, v1, v2, v3, v4⟩ := hDb i j hi hj
        rw [s5', tN']
        exact ⟨⟨v, v1, v2⟩, fun e => by rw [v2, v4 e]; rfl⟩
      · rw [s0']
        decide
      · rw [s0']
        decide
      · rw [s0']
        decide
    have csN : CS T' s' σ2 31 := by
      refine ⟨fun p hp => ?_, fun kk hkk => ?_, ?_, ?_, ?_⟩
      · rw [tN'] at hp
        rw [s1', s2', s3', s4']
        exact c6 p (by omega)
      · rw [s5']
        exact c7 kk hkk
      · rw [s0']
        exact c8.1
      · rw [s0']
        exact c8.2.1
      · rw [s0']
        exact c8.2.2
    have rowM : rowR N s' (ρ2.1 1028) := by
      refine ⟨fun p hp => ?_, fun kk hkk => ?_, ?_, ?_, ?_⟩
      · obtain ⟨q1, _⟩ := hR p hp
        obtain ⟨a1, a2, a3, a4⟩ := m5 p hp
        rw [s1', s2', s3', s4', q1 1 (by omega) (by omega), q1 7 (by omega) (by omega)]
        exact ⟨a1, a2, a3, a4⟩
      · rw [s5']
        obtain ⟨i, j, hi, hj, e⟩ : ∃ i j, i < 6 ∧ j < 6 ∧ kk = 6 * i + j := ⟨kk / 6, kk % 6, by omega, by omega, by omega⟩
        obtain ⟨v, v1, v2, v3, v4⟩ := hDb i j hi hj
        have := m4 kk hkk
        rw [e] at this ⊢
        rw [v2, ← v3]
        exact this
      · rw [s0']
        exact m6.1
      · rw [s0']
        exact m6.2.1
      · rw [s0']
        exact m6.2.2
    have hCO : ∀ w pr, w < 3 → F w = some pr → CO pr (131 - t + 9 + 5 * w) σ2 ∧ σ2.1 (131 - t + 9 + 5 * w) 5 = 1 := fun w pr hw hpr => by
      have := hFm w hw
      rw [hpr] at this
      obtain ⟨a1, a2, a3, _⟩ := this
      refine ⟨a3.keep (tw _ _ (by omega) (by omega)) (tw _ _ (by omega) (by omega)) (tw _ _ (by omega) (by omega)) (by funext c; exact tw _ _ (by omega) (by omega)) (by funext c; exact tw _ _ (by omega) (by omega)) (by funext c; exact tw _ _ (by omega) (by omega)), ?_⟩
      rw [tw _ _ (by omega) (by omega)]
      exact a2
    have hCP : ∀ w, w < 3 → CPf (tP T' w) σ2 (131 - t + 9 + 5 * w) := fun w hw => by
      rw [tP' w hw]
      have := hFm w hw
      cases hpr : F w with
      | none =>
        rw [hpr] at this
        show σ2.1 (131 - t + 9 + 5 * w) 5 = 0
        rw [tw _ _ (by omega) (by omega)]
        exact this.2.1
      | some pr =>
        have q := hCO w pr hw hpr
        exact ⟨q.2, q.1.1⟩
    have hMP : ∀ w, w < 3 → MPg T' ρ2 w := fun w hw => by
      unfold MPg
      rw [tP' w hw]
      have := hFm w hw
      have e52 := m11 w hw
      cases hpr : F w with
      | none =>
        rw [hpr] at this
        exact e52.trans this.2.2.2.2.1
      | some pr =>
        rw [hpr] at this
        obtain ⟨a1, a2, a3, a4, a5, a6⟩ := this
        obtain ⟨q1, q2⟩ := m8 w hw
        refine ⟨e52.trans a4, q1.trans a5, fun i hi => ?_⟩
        have hl := a1.2.2.1
        obtain ⟨q3, q4⟩ := q2 pr.length a5 (by omega) i hi
        have q3 : ρ2.1 1006 (320 * w + i) = ρ1.1 1003 (320 * w + i) := q3
        have q4 : ρ2.1 1007 (320 * w + i) = ρ1.1 1004 (320 * w + i) := q4
        rw [q3, q4]
        exact a6 i hi
    refine ⟨131 - t, T', s', ⟨hu, c2, ?_, okT', ⟨?_, ?_, fun p hp => ?_, hCP 0 (by omega), hCP 1 (by omega), hCP 2 (by omega), fun pr hpr => ?_⟩, ?_, ⟨?_, ?_, fun p hp => ?_, hMP 0 (by omega), hMP 1 (by omega), hMP 2 (by omega)⟩, ?_⟩, ⟨okN', csN, by rw [tN']; exact rowM⟩, ?_, fun b hb => .inl ⟨c12 b hb, m2 b hb⟩, ?_, ⟨0, by omega, c5, m3 75 (by omega), fun i hi => by omega⟩, ⟨0, by omega, c4, ?_, fun i hi => by omega⟩, ⟨?_, ?_⟩, ⟨fun i hi => ?_, fun w hw => ?_⟩⟩
    · rw [show 131 - (131 - t) = t by omega]
      exact c3
    · rw [tw _ _ (by omega) (by omega), tN']
      exact j2.1
    · rw [tw _ _ (by omega) (by omega), tD']
      exact j3.1
    · rw [tw _ _ (by omega) (by omega), tw _ _ (by omega) (by omega), tw _ _ (by omega) (by omega), tw _ _ (by omega) (by omega), tw _ _ (by omega) (by omega), tw _ _ (by omega) (by omega), tR', tR', tR', tR', tR', tR']
      exact ⟨rfl, rfl, rfl, rfl, rfl, rfl⟩
    · rw [tP' 0 (by omega)] at hpr
      exact (hCO 0 pr (by omega) hpr).1.2.1
    · unfold CN
      rw [tP' 0 (by omega)]
      have := hFm 0 (by omega)
      cases hpr : F 0 with
      | none =>
        rw [hpr] at this
        show σ2.1 (131 - t + 9) 7 = 0
        rw [tw _ _ (by omega) (by omega)]
        exact this.2.2.2.1
      | some pr =>
        rw [hpr] at this
        have q := (hCO 0 pr (by omega) hpr).1
        exact ⟨this.1.2.2.2, q.2.2.1, q.2.2.2⟩
    · rw [tN']
      exact m9.trans j2.2.1
    · rw [tD']
      exact m10.trans j3.2.1
    · rw [tN'] at hp
      obtain ⟨q1, _⟩ := hR p hp
      rw [tR', tR', tR', tR', tR', tR', q1 1 (by omega) (by omega), q1 2 (by omega) (by omega), q1 3 (by omega) (by omega), q1 4 (by omega) (by omega), q1 5 (by omega) (by omega), q1 6 (by omega) (by omega)]
      exact ⟨m7 0 p (by omega) (by omega), m7 1 p (by omega) (by omega), m7 2 p (by omega) (by omega), m7 3 p (by omega) (by omega), m7 4 p (by omega) (by omega), m7 5 p (by omega) (by omega)⟩
    · rw [tw _ _ (by omega) (by omega), j5.1]
      exact (m12.trans j5.2.1).symm
    · refine ⟨fun _ => s', 0, 0, Nat.le_refl _, by omega, rfl, c9.1, c9.2, m3 69 (by omega), m3 70 (by omega), fun i hi => ⟨okN', ?_⟩, fun i hi => by omega, fun i _ hi => by omega⟩
      have hi0 : i = 0 := by omega
      subst hi0
      have q := stRow_R (by rw [tN']; exact hN6) csN
      obtain ⟨q1, q2, q3, q4, q5⟩ := q
      have e38 : ∀ j, j < 63 → σ2.1 38 (63 * 0 + j) = stRow σ2 31 j := fun j hj => by
        rw [show 63 * 0 + j = j by omega]
        exact c10 j hj
      rw [tN'] at q1 ⊢
      refine ⟨fun p hp => ?_, fun kk hkk => ?_, ?_, ?_, ?_⟩
      · show σ2.1 38 (63 * 0 + p) = _ ∧ σ2.1 38 (63 * 0 + (6 + p)) = _ ∧ σ2.1 38 (63 * 0 + (12 + p)) = _ ∧ σ2.1 38 (63 * 0 + (18 + p)) = _
        rw [e38 _ (by omega), e38 _ (by omega), e38 _ (by omega), e38 _ (by omega)]
        exact q1 p hp
      · show σ2.1 38 (63 * 0 + (24 + kk)) = _
        rw [e38 _ (by omega)]
        exact q2 kk hkk
      · show σ2.1 38 (63 * 0 + 60) = _
        rw [e38 _ (by omega)]
        exact q3
      · show σ2.1 38 (63 * 0 + 61) = _
        rw [e38 _ (by omega)]
        exact q4
      · show σ2.1 38 (63 * 0 + 62) = _
        rw [e38 _ (by omega)]
        exact q5
    · obtain ⟨c, tm, _, htm, _, _, t1, t2, _⟩ := h5
      refine ⟨0, tm, by omega, htm, c11, m3 86 (by omega), ?_, ?_, fun i hi => by omega⟩
      · rw [cO _ _ (by omega), hF _ _ (by omega)]
        exact t1
      · rw [mP _ _ (by omega) (by omega) (by omega) (by omega) (by omega), gM.1 _ _ (by decide) (by decide)]
        exact t2
    · rw [mP _ _ (by omega) (by omega) (by omega) (by omega) (by omega)]
      exact k0
    · rw [cO _ _ (by omega), mP _ _ (by omega) (by omega) (by omega) (by omega) (by omega), f2]
      exact f25
    · rw [cO _ _ (by omega), mP _ _ (by omega) (by omega) (by omega) (by omega) (by omega), f3]
      exact f26
    · rw [cO _ _ (by omega), hF _ _ (by omega)]
      exact h9.1 i hi
    · rw [mP _ _ (by omega) (by omega) (by omega) (by omega) (by omega)]
      exact hb5 w hw
  · have r0 : rv = 0 := r0
    subst r0
    have hX : PX σ1 ρ1 := hX
    refine ⟨-1, sI σ1 0 13 0, ρ1, ?_, ?_, ?_⟩
    · unfold X11_town
      rw [e1, Option.bind_some, bv_eq, bv_eq]
      exact if_pos rfl
    · rw [town_eq, e2, Option.bind_some]
      unfold townEnd
      rw [if_neg hX.neM.2]
    have fC : Fr LBt KBt σ (sI σ1 0 13 0) := by
      refine ⟨fun a c g1 g2 => ?_, fun _ => l1⟩
      have n1 := not_LBt g1
      have n2 : ¬ (a = 2 ∧ 4 ≤ c ∧ c ≤ 6) ∧ ¬ (a = 0 ∧ c = 13) := by
        unfold KBt at g2
        simp at g2
        omega
      rw [sI_r, if_neg n2.2]
      exact hF a c (by omega)
    have hcell : ∀ a, t ≤ a → a ≤ t + 23 → (sI σ1 0 13 0).1 a = σ.1 a := fun a g1 g2 => by
      funext c
      rw [sI_n (by omega)]
      exact hF a c (by omega)
    refine ⟨t, T, s, ⟨ht, ?_, ?_, hT, hC.keep (fun a g1 g2 _ _ _ => hcell a g1 g2), hCN.keep (hcell _ (by omega) (by omega)) (hcell _ (by omega) (by omega)), hM.keep gM (by decide), ?_⟩, h2.keep fC gM (by decide) (by decide), h3.keep fC gM (by decide) (by decide), h4.keep fC gM (by decide) (by decide), h5.keep fC gM (by decide) (by decide), h6.keep fC gM (by decide) (by decide), ⟨0, by omega, sI_e _ _ _ _, k0, fun i hi => by omega⟩, ⟨?_, ?_⟩, ⟨fun i hi => ?_, hB⟩⟩
    · rw [sI_k (by decide), hF _ _ (by omega)]
      exact h012
    · rw [sI_n (by decide), hF _ _ (by omega)]
      exact h23
    · rw [hcell t (by omega) (by omega), h14]
      exact (gM.1 1000 22 (by decide) (by decide)).symm
    · obtain ⟨c, p, _, _, q1, q2, q3, q4⟩ := hX
      rw [sI_n (by decide), q1, q2]
    · obtain ⟨c, p, _, _, q1, q2, q3, q4⟩ := hX
      rw [sI_n (by decide), q3, q4]
    · rw [sI_n (by decide), hF _ _ (by omega)]
      exact h9.1 i hi
theorem s_town : StpI Inv X11_town X12_town := stp (fun σ => fr_X11_town σ Fr.refl) (fun σ => fr_X12_town σ Fr.refl) (by decide) (by decide) town2
