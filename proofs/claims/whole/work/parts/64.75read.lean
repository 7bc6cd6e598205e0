/-! town: line by line -/
section Lines
variable {b : Nat → Nat} {k u : Nat} {x : Tk} {σ ρ : Mem}
theorem iw (i : Nat) {c : Int64} (hw : TW b k x) (h : RTok b k x ρ) (hi : i < 23) (hc : c = pack (OW.getD i [])) {α : Type} {f : Int32 × Mem → Option α} : (kindC b x = nI (100 + i) → (X12_isWord c ρ).bind f = f (1, ρ)) ∧ (kindC b x ≠ nI (100 + i) → (X12_isWord c ρ).bind f = f (0, ρ)) := by
  rw [isWordM_ok i hw h hi hc, Option.bind_some]
  refine ⟨fun e => ?_, fun e => ?_⟩
  · rw [decide_eq_true e]
    rfl
  · rw [decide_eq_false e]
    rfl
theorem kne {v v' : Nat} (h : kindC b x = nI v) (hv : v < 1000) (hv' : v' < 1000) (hne : v ≠ v') : kindC b x ≠ nI v' := fun e => by
  rw [h, ni_inj (by omega) (by omega)] at e
  exact hne e
theorem rl_day (hw : TW b k x) (h : RTok b k x ρ) (hk : kindC b x = nI 100) (h47 : ρ.1 1000 47 = 0) (h48 : ρ.1 1000 48 = 0) : X12_readLine ρ = ((X12_told 6578553 2 24 (sI ρ 1000 47 1)).bind fun r3 => some (sI r3.2 1000 44 r3.1)).bind X12_readLine_193 := by
  unfold X12_readLine
  rw [(iw 0 hw h (by decide) wc0).1 hk]
  show (if (1 : Int32) = 0 then _ else if ρ.1 1000 47 = 0 then if ρ.1 1000 48 = 0 then _ else _ else _) = _
  rw [if_neg one_ne, if_pos h47, if_pos h48, bv_eq, Option.bind_assoc]
  rfl
theorem rl_46 (hw : TW b k x) (h : RTok b k x ρ) (hk : kindC b x = nI 100 → ρ.1 1000 48 ≠ 0) : X12_readLine ρ = X12_readLine_46 X12_readLine_193 ρ := by
  unfold X12_readLine
  by_cases z : kindC b x = nI 100
  · rw [(iw 0 hw h (by decide) wc0).1 z]
    show (if (1 : Int32) = 0 then _ else if ρ.1 1000 47 = 0 then if ρ.1 1000 48 = 0 then _ else X12_readLine_46 X12_readLine_193 ρ else X12_readLine_46 X12_readLine_193 ρ) = _
    rw [if_neg one_ne, if_neg (hk z)]
    split <;> rfl
  · rw [(iw 0 hw h (by decide) wc0).2 z]
    exact if_pos rfl
theorem rl_72 (hw : TW b k x) (h : RTok b k x ρ) (hk : kindC b x = nI 101 → 6 ≤ ρ.1 1000 42) : X12_readLine_46 X12_readLine_193 ρ = X12_readLine_72 X12_readLine_193 ρ := by
  unfold X12_readLine_46
  by_cases z : kindC b x = nI 101
  · rw [(iw 1 hw h (by decide) wc1).1 z]
    show (if (1 : Int32) = 0 then _ else if 6 ≤ ρ.1 1000 42 then X12_readLine_72 X12_readLine_193 ρ else _) = _
    rw [if_neg one_ne, if_pos (hk z)]
  · rw [(iw 1 hw h (by decide) wc1).2 z]
    exact if_pos rfl
theorem rl_98 (hw : TW b k x) (h : RTok b k x ρ) (hk : kindC b x = nI 109 → 20 ≤ ρ.1 1000 43) : X12_readLine_72 X12_readLine_193 ρ = X12_readLine_98 X12_readLine_193 ρ := by
  unfold X12_readLine_72
  by_cases z : kindC b x = nI 109
  · rw [(iw 9 hw h (by decide) wc9).1 z]
    show (if (1 : Int32) = 0 then _ else if 20 ≤ ρ.1 1000 43 then X12_readLine_98 X12_readLine_193 ρ else _) = _
    rw [if_neg one_ne, if_pos (hk z)]
  · rw [(iw 9 hw h (by decide) wc9).2 z]
    exact if_pos rfl
theorem rl_128 (hw : TW b k x) (h : RTok b k x ρ) (hk : kindC b x = nI 110 → ρ.1 1000 49 ≠ 0) : X12_readLine_98 X12_readLine_193 ρ = X12_readLine_128 X12_readLine_193 ρ := by
  unfold X12_readLine_98
  by_cases z : kindC b x = nI 110
  · rw [(iw 10 hw h (by decide) wc10).1 z]
    show (if (1 : Int32) = 0 then _ else if ρ.1 1000 49 = 0 then _ else X12_readLine_128 X12_readLine_193 ρ) = _
    rw [if_neg one_ne, if_neg (hk z)]
  · rw [(iw 10 hw h (by decide) wc10).2 z]
    exact if_pos rfl
theorem rl_158 (hw : TW b k x) (h : RTok b k x ρ) (hk : kindC b x = nI 111 → ρ.1 1000 50 ≠ 0) : X12_readLine_128 X12_readLine_193 ρ = X12_readLine_158 X12_readLine_193 ρ := by
  unfold X12_readLine_128
  by_cases z : kindC b x = nI 111
  · rw [(iw 11 hw h (by decide) wc11).1 z]
    show (if (1 : Int32) = 0 then _ else if ρ.1 1000 50 = 0 then _ else X12_readLine_158 X12_readLine_193 ρ) = _
    rw [if_neg one_ne, if_neg (hk z)]
  · rw [(iw 11 hw h (by decide) wc11).2 z]
    exact if_pos rfl
theorem rl_188 (hw : TW b k x) (h : RTok b k x ρ) (hk : kindC b x = nI 112 → ρ.1 1000 51 ≠ 0) : X12_readLine_158 X12_readLine_193 ρ = (X12_wrong 2 ρ).bind X12_readLine_193 := by
  unfold X12_readLine_158 X12_readLine_188
  by_cases z : kindC b x = nI 112
  · rw [(iw 12 hw h (by decide) wc12).1 z]
    show (if (1 : Int32) = 0 then _ else if ρ.1 1000 51 = 0 then _ else (X12_wrong 2 ρ).bind fun σ21 => X12_readLine_193 σ21) = _
    rw [if_neg one_ne, if_neg (hk z)]
  · rw [(iw 12 hw h (by decide) wc12).2 z]
    exact if_pos rfl
theorem rl_person (hw : TW b k x) (h : RTok b k x ρ) (hk : kindC b x = nI 101) (hN : ¬ 6 ≤ ρ.1 1000 42) : X12_readLine ρ = (X12_readPerson ρ).bind X12_readLine_193 := by
  rw [rl_46 hw h (fun e => absurd e (kne hk (by decide) (by decide) (by decide)))]
  unfold X12_readLine_46
  rw [(iw 1 hw h (by decide) wc1).1 hk]
  show (if (1 : Int32) = 0 then _ else if 6 ≤ ρ.1 1000 42 then _ else _) = _
  rw [if_neg one_ne, if_neg hN]
theorem rl_debt (hw : TW b k x) (h : RTok b k x ρ) (hk : kindC b x = nI 109) (hN : ¬ 20 ≤ ρ.1 1000 43) : X12_readLine ρ = (X12_readDebt ρ).bind X12_readLine_193 := by
  rw [rl_46 hw h (fun e => absurd e (kne hk (by decide) (by decide) (by decide))), rl_72 hw h (fun e => absurd e (kne hk (by decide) (by decide) (by decide)))]
  unfold X12_readLine_72
  rw [(iw 9 hw h (by decide) wc9).1 hk]
  show (if (1 : Int32) = 0 then _ else if 20 ≤ ρ.1 1000 43 then _ else _) = _
  rw [if_neg one_ne, if_neg hN]
theorem rl_f0 (hw : TW b k x) (h : RTok b k x ρ) (hk : kindC b x = nI 110) (hN : ρ.1 1000 49 = 0) : X12_readLine ρ = (X12_formula 0 (sI ρ 1000 49 1)).bind X12_readLine_193 := by
  rw [rl_46 hw h (fun e => absurd e (kne hk (by decide) (by decide) (by decide))), rl_72 hw h (fun e => absurd e (kne hk (by decide) (by decide) (by decide))), rl_98 hw h (fun e => absurd e (kne hk (by decide) (by decide) (by decide)))]
  unfold X12_readLine_98
  rw [(iw 10 hw h (by decide) wc10).1 hk]
  show (if (1 : Int32) = 0 then _ else if ρ.1 1000 49 = 0 then _ else _) = _
  rw [if_neg one_ne, if_pos hN, bv_eq]
theorem rl_f1 (hw : TW b k x) (h : RTok b k x ρ) (hk : kindC b x = nI 111) (hN : ρ.1 1000 50 = 0) : X12_readLine ρ = (X12_formula 1 (sI ρ 1000 50 1)).bind X12_readLine_193 := by
  rw [rl_46 hw h (fun e => absurd e (kne hk (by decide) (by decide) (by decide))), rl_72 hw h (fun e => absurd e (kne hk (by decide) (by decide) (by decide))), rl_98 hw h (fun e => absurd e (kne hk (by decide) (by decide) (by decide))), rl_128 hw h (fun e => absurd e (kne hk (by decide) (by decide) (by decide)))]
  unfold X12_readLine_128
  rw [(iw 11 hw h (by decide) wc11).1 hk]
  show (if (1 : Int32) = 0 then _ else if ρ.1 1000 50 = 0 then _ else _) = _
  rw [if_neg one_ne, if_pos hN, bv_eq]
theorem rl_f2 (hw : TW b k x) (h : RTok b k x ρ) (hk : kindC b x = nI 112) (hN : ρ.1 1000 51 = 0) : X12_readLine ρ = (X12_formula 2 (sI ρ 1000 51 1)).bind X12_readLine_193 := by
  rw [rl_46 hw h (fun e => absurd e (kne hk (by decide) (by decide) (by decide))), rl_72 hw h (fun e => absurd e (kne hk (by decide) (by decide) (by decide))), rl_98 hw h (fun e => absurd e (kne hk (by decide) (by decide) (by decide))), rl_128 hw h (fun e => absurd e (kne hk (by decide) (by decide) (by decide))), rl_158 hw h (fun e => absurd e (kne hk (by decide) (by decide) (by decide)))]
  unfold X12_readLine_158
  rw [(iw 12 hw h (by decide) wc12).1 hk]
  show (if (1 : Int32) = 0 then _ else if ρ.1 1000 51 = 0 then _ else _) = _
  rw [if_neg one_ne, if_pos hN, bv_eq]
theorem rl_X (hw : TW b k x) (h : RTok b k x ρ) (h0 : kindC b x = nI 100 → ρ.1 1000 48 ≠ 0) (h1 : kindC b x = nI 101 → 6 ≤ ρ.1 1000 42) (h9 : kindC b x = nI 109 → 20 ≤ ρ.1 1000 43) (h10 : kindC b x = nI 110 → ρ.1 1000 49 ≠ 0) (h11 : kindC b x = nI 111 → ρ.1 1000 50 ≠ 0) (h12 : kindC b x = nI 112 → ρ.1 1000 51 ≠ 0) : X12_readLine ρ = (X12_wrong 2 ρ).bind X12_readLine_193 := by
  rw [rl_46 hw h h0, rl_72 hw h h1, rl_98 hw h h9, rl_128 hw h h10, rl_158 hw h h11, rl_188 hw h h12]
/-- both between two lines -/
def Bet (b : Nat → Nat) (k u i : Nat) (x : Tk) (σ ρ : Mem) : Prop := PT b k x σ ρ ∧ ∃ N D db all ns ne F, HT b k u N D db all ns ne F σ ρ ∧ (i = 0 → N = 0 ∧ ρ.1 1000 47 = 0 ∧ ρ.1 1000 48 = 0) ∧ (0 < i → ρ.1 1000 48 = 1)
/-- the end of a line -/
theorem endL (hb : TB b k) (hu : 3 < u) {s i : Nat} {σ0 : Mem} (h : Lin b k u s σ0 σ ρ) : Ok2 (X5_expect 59 σ) (X12_readLine_193 ρ) (fun σ' ρ' => FCu u σ0 σ' ∧ ((∃ x', Bet b k u (i + 1) x' σ' ρ' ∧ s < x'.2.1) ∨ (PX σ' ρ' ∧ B5 ρ'))) := by
  obtain ⟨hf, h⟩ := h
  unfold X12_readLine_193
  refine o2_bvr ?_
  rcases h with ⟨x', ⟨hP, N, D, db, all, ns, ne, F, hH⟩, hs⟩ | ⟨hX, h5⟩
  · have hP' : PT b k x' σ (sI ρ 1000 48 1) := ⟨hP.1, hP.2.1.k (by decide), hP.2.2.1, hP.2.2.2.1, by rw [sI_k (by decide)]; exact hP.2.2.2.2⟩
    have hH' : HT b k u N D db all ns ne F σ (sI ρ 1000 48 1) := hH.keep (fun _ _ _ => rfl) (fun a c h => by rw [sI_r, if_neg (by omega)]) rfl
    have h48 : (sI ρ 1000 48 1).1 1000 48 = 1 := sI_e _ _ _ _
    generalize sI ρ 1000 48 1 = ρ1 at *
    unfold X5_expect X12_readLine_219
    rw [isAt_ok hP'.2.2.2.1, Option.bind_some]
    refine o2_pr hP'.2.2.2.2 ?_
    have hk : ρ1.1 1000 6 = 59 ↔ σ.1 3 2 = 59 := hP'.ne (v := 59) (by decide) (by decide) (by decide)
    by_cases z : σ.1 3 2 = 59
    · have hx : x'.1 = 59 := (kindC_low hP'.2.2.1 (v := 59) (by decide) (by decide)).mp (by rw [← hP'.1.2.2.2.1]; exact z)
      have hadv := adv hP' (by omega)
      rw [decide_eq_true z]
      refine o2_nl one_ne (o2_pr (hk.mpr z) (o2_pr hP'.2.2.2.2 (o2_bind (t_next hb (by omega) hP') (fun σ2 ρ2 g => o2_some ⟨hf.trans (.t g.2.1), .inl ⟨_, ⟨g.1, N, D, db, all, ns, ne, F, hH'.t hu g.2.1 g.2.2, fun e => by omega, fun _ => ?_⟩, by omega⟩⟩))))
      rw [g.2.2.at _ _ (by decide) (by omega)]
      exact h48
    · rw [decide_eq_false z]
      refine o2_pl rfl (o2_nr (fun e => z (hk.mp e)) (o2_bind (t_fail (v := 2) (by decide) (by decide) hP') (fun σ2 ρ2 g => o2_nr g.1.neM.1 (o2_some ⟨hf.trans (.t g.2.1), .inr ⟨g.1, hH'.b5.t g.2.2⟩⟩))))
  · have hX' : PX σ (sI ρ 1000 48 1) := hX.cong rfl rfl (by rw [sI_k (by decide)]) (by rw [sI_k (by decide)])
    unfold X12_readLine_219
    rw [expectX hX'.neC]
    refine o2_nr hX'.neM.1 (o2_nr hX'.neM.1 (o2_some ⟨hf, .inr ⟨hX', fun w hw => ?_⟩⟩))
    rw [sI_n (by decide)]
    exact h5 w hw
theorem FRel.flag {w : Nat} {P : Option Pg} (h : FRel u w P σ ρ) : (P = none ∧ σ.1 (u + 9 + 5 * w) 5 = 0 ∧ ρ.1 1000 (49 + w) = 0) ∨ (σ.1 (u + 9 + 5 * w) 5 ≠ 0 ∧ ρ.1 1000 (49 + w) ≠ 0) := by
  unfold FRel at h
  cases P with
  | none => exact .inl ⟨rfl, h.2.1, h.2.2.2.2.1⟩
  | some pr =>
    refine .inr ⟨?_, ?_⟩
    · rw [h.2.1]
      decide
    · rw [h.2.2.2.1]
      decide
theorem line_ok (hb : TB b k) (hu : u = 7 ∨ u = 124) {i n : Nat} (hi : i < 1600) (h : Bet b k u i x σ ρ) (h0 : x.1 ≠ 0) {Q : Int32 × Mem → Mem → Prop} {G : Mem → Option Mem}
    (hQ : ∀ σ' ρ', FCu u σ σ' → ((∃ x', Bet b k u (i + 1) x' σ' ρ' ∧ x.2.1 < x'.2.1) ∨ (PX σ' ρ' ∧ B5 ρ')) → Ok2 (X5_read_28 n (nI (i + 1)) σ') (G ρ') Q) : Ok2 (X5_read_28 (n + 1) (nI i) σ) ((X12_readLine ρ).bind G) Q := by
  have hu3 : 3 < u := by omega
  obtain ⟨hP, N, D, db, all, ns, ne, F, hH, hi0, hi1⟩ := h
  obtain ⟨j1, j2, j3, j4, j5⟩ := hH.1
  have hw := hP.2.2.1
  have hR := hP.2.1
  have ek : σ.1 3 2 = kindC b x := hP.1.2.2.2.1
  have fin : ∀ {r : Option Mem} {t : Option Mem}, Ok2 r t (fun σ' ρ' => Lin b k u x.2.1 σ σ' ρ') → Ok2 (r.bind fun σ9 => X5_read_201 (X5_read_28 n) (nI i) σ9) ((t.bind X12_readLine_193).bind G) Q := fun g => by
    rw [Option.bind_assoc]
    refine o2_bind g (fun σ1 ρ1 q => ?_)
    unfold X5_read_201
    refine o2_bind (endL (i := i) hb hu3 q) (fun σ2 ρ2 q2 => o2_bvl ?_)
    rw [ni_succ]
    exact hQ σ2 ρ2 q2.1 q2.2
  have wrong : X12_readLine ρ = (X12_wrong 2 ρ).bind X12_readLine_193 → Ok2 (X5_fail 2 σ) (X12_wrong 2 ρ) (fun σ' ρ' => Lin b k u x.2.1 σ σ' ρ') := fun _ => o2_mono (t_fail (v := 2) (by decide) (by decide) hP) (fun σ1 ρ1 g => fin_px (.t g.2.1) g.1 (hH.b5.t g.2.2))
  have hk0 : kindC b x ≠ 0 := fun e => h0 ((kindC_low hw (v := 0) (by decide) (by decide)).mp e)
  rw [X5_read_28]
  refine o2_nl (by rw [show (1600 : Int32) = nI 1600 from rfl, ni_le (by omega) (by omega)]; omega) ?_
  unfold X5_isGood
  rw [if_pos hP.2.2.2.1, Option.bind_some]
  refine o2_nl one_ne ?_
  show Ok2 (if σ.1 3 2 = 0 then _ else _) _ _
  rw [ek]
  refine o2_nl hk0 (o2_bvl ?_)
  by_cases z100 : kindC b x = nI 100
  · refine o2_pl z100 ?_
    unfold X5_read_134
    by_cases zi : i = 0
    · subst zi
      obtain ⟨hN0, h47, h48⟩ := hi0 rfl
      subst hN0
      rw [rl_day hw hR z100 h47 h48]
      exact o2_pl rfl (fin (day_ok hb hu hH hP z100))
    · refine o2_nl (by rw [show (0 : Int32) = nI 0 from rfl, ni_inj (by omega) (by omega)]; exact zi) ?_
      have e := rl_X hw hR (fun _ => by rw [hi1 (by omega)]; decide) (fun e => absurd e (kne z100 (by decide) (by decide) (by decide))) (fun e => absurd e (kne z100 (by decide) (by decide) (by decide))) (fun e => absurd e (kne z100 (by decide) (by decide) (by decide))) (fun e => absurd e (kne z100 (by decide) (by decide) (by decide))) (fun e => absurd e (kne z100 (by decide) (by decide) (by decide)))
      have e1 : X5_readDay 0 σ = X5_fail 2 σ := by
        unfold X5_readDay
        rw [if_pos rfl]
        cases X5_fail 2 σ <;> rfl
      show Ok2 ((X5_readDay 0 σ).bind _) _ _
      rw [e, e1]
      exact fin (wrong e)
  refine o2_nl z100 ?_
  by_cases z101 : kindC b x = nI 101
  · refine o2_pl z101 ?_
    by_cases hN : N < 6
    · rw [rl_person hw hR z101 (by rw [j2.2.1, show (6 : Int32) = nI 6 from rfl, ni_le (by omega) (by omega)]; omega)]
      exact fin (person_ok hb hu hH hP z101 hN)
    · have e := rl_X hw hR (fun e => absurd e z100) (fun _ => by rw [j2.2.1, show (6 : Int32) = nI 6 from rfl, ni_le (by omega) (by omega)]; omega) (fun e => absurd e (kne z101 (by decide) (by decide) (by decide))) (fun e => absurd e (kne z101 (by decide) (by decide) (by decide))) (fun e => absurd e (kne z101 (by decide) (by decide) (by decide))) (fun e => absurd e (kne z101 (by decide) (by decide) (by decide)))
      have e1 : X5_readPerson σ = X5_fail 2 σ := by
        rw [readPerson_eq, gT_u hu j1, bv_eq, j2.1, if_neg (by rw [show (6 : Int32) = nI 6 from rfl, ni_lt (by have := j2.2.2; omega) (by omega)]; omega)]
        cases X5_fail 2 σ <;> rfl
      show Ok2 ((X5_readPerson σ).bind _) _ _
      rw [e, e1]
      exact fin (wrong e)
  refine o2_nl z101 ?_
  by_cases z109 : kindC b x = nI 109
  · refine o2_pl z109 ?_
    by_cases hN : db < 20
    · rw [rl_debt hw hR z109 (by rw [j4.2.1, show (20 : Int32) = nI 20 from rfl, ni_le (by omega) (by omega)]; omega)]
      exact fin (debt_ok hb hu hH hP z109 hN)
    · have e := rl_X hw hR (fun e => absurd e z100) (fun e => absurd e z101) (fun _ => by rw [j4.2.1, show (20 : Int32) = nI 20 from rfl, ni_le (by omega) (by have := j4.2.2; omega)]; omega) (fun e => absurd e (kne z109 (by decide) (by decide) (by decide))) (fun e => absurd e (kne z109 (by decide) (by decide) (by decide))) (fun e => absurd e (kne z109 (by decide) (by decide) (by decide)))
      have e1 : X5_readDebt σ = X5_fail 2 σ := by
        unfold X5_readDebt
        rw [gT_u hu j1, j4.1, if_neg (by rw [show (20 : Int32) = nI 20 from rfl, ni_lt (by have := j4.2.2; omega) (by omega)]; omega)]
        cases X5_fail 2 σ <;> rfl
      show Ok2 ((X5_readDebt σ).bind _) _ _
      rw [e, e1]
      exact fin (wrong e)
  refine o2_nl z109 ?_
  have formX : ∀ f : Nat, σ.1 f 5 ≠ 0 → X5_readFormula f σ = X5_fail 2 σ := fun f hf => by
    unfold X5_readFormula
    rw [if_neg hf]
    cases X5_fail 2 σ <;> rfl
  by_cases z110 : kindC b x = nI 110
  · refine o2_pl z110 ?_
    show Ok2 (gT (σ.1 2 3) _) _ _
    rw [gT_u hu j1]
    rcases (hH.2.2.2.2 0 (by decide)).flag with ⟨hF, _, h49⟩ | ⟨h5, h49⟩
    · rw [rl_f0 hw hR z110 h49]
      exact fin (formL_ok (w := 0) hb hu (by decide) hH hP z110 hF)
    · have e := rl_X hw hR (fun e => absurd e z100) (fun e => absurd e z101) (fun e => absurd e z109) (fun _ => h49) (fun e => absurd e (kne z110 (by decide) (by decide) (by decide))) (fun e => absurd e (kne z110 (by decide) (by decide) (by decide)))
      show Ok2 ((X5_readFormula (u + 9) σ).bind _) _ _
      rw [e, formX _ h5]
      exact fin (wrong e)
  refine o2_nl z110 ?_
  by_cases z111 : kindC b x = nI 111
  · refine o2_pl z111 ?_
    show Ok2 (gT (σ.1 2 3) _) _ _
    rw [gT_u hu j1]
    rcases (hH.2.2.2.2 1 (by decide)).flag with ⟨hF, _, h49⟩ | ⟨h5, h49⟩
    · rw [rl_f1 hw hR z111 h49]
      exact fin (formL_ok (w := 1) hb hu (by decide) hH hP z111 hF)
    · have e := rl_X hw hR (fun e => absurd e z100) (fun e => absurd e z101) (fun e => absurd e z109) (fun e => absurd e z110) (fun _ => h49) (fun e => absurd e (kne z111 (by decide) (by decide) (by decide)))
      show Ok2 ((X5_readFormula (u + 14) σ).bind _) _ _
      rw [e, formX _ h5]
      exact fin (wrong e)
  refine o2_nl z111 ?_
  by_cases z112 : kindC b x = nI 112
  · refine o2_pl z112 ?_
    show Ok2 (gT (σ.1 2 3) _) _ _
    rw [gT_u hu j1]
    rcases (hH.2.2.2.2 2 (by decide)).flag with ⟨hF, _, h49⟩ | ⟨h5, h49⟩
    · rw [rl_f2 hw hR z112 h49]
      exact fin (formL_ok (w := 2) hb hu (by decide) hH hP z112 hF)
    · have e := rl_X hw hR (fun e => absurd e z100) (fun e => absurd e z101) (fun e => absurd e z109) (fun e => absurd e z110) (fun e => absurd e z111) (fun _ => h49)
      show Ok2 ((X5_readFormula (u + 19) σ).bind _) _ _
      rw [e, formX _ h5]
      exact fin (wrong e)
  refine o2_nl z112 ?_
  have e := rl_X hw hR (fun e => absurd e z100) (fun e => absurd e z101) (fun e => absurd e z109) (fun e => absurd e z110) (fun e => absurd e z111) (fun e => absurd e z112)
  show Ok2 ((X5_fail 2 σ).bind _) _ _
  rw [e]
  exact fin (wrong e)
theorem lines_ok (hb : TB b k) (hu : u = 7 ∨ u = 124) {σ0 : Mem} : ∀ (r i n m : Nat) (x : Tk) (σ ρ : Mem), Bet b k u i x σ ρ → FCu u σ0 σ → i ≤ x.2.1 → 1600 ≤ r + x.2.1 → 2000 ≤ n + x.2.1 → 2000 ≤ m + x.2.1 →
    Ok2 (X5_read_28 n (nI i) σ) (X12_readAll_99 m ρ) (fun t ρ' => FCu u σ0 t.2 ∧ ((t.1 = 1 ∧ t.2.1 2 5 = 0 ∧ ρ'.1 1000 2 = 0 ∧ t.2.1 2 6 = -1 ∧ ρ'.1 1000 3 = -1 ∧ ∃ N D db all ns ne F, HT b k u N D db all ns ne F t.2 ρ') ∨ (t.1 = 0 ∧ PX t.2 ρ' ∧ B5 ρ'))) := by
  intro r
  have stop : ∀ (i n m : Nat) (x : Tk) (σ ρ : Mem), Bet b k u i x σ ρ → FCu u σ0 σ → i ≤ 1600 → 0 < n → 0 < m → x.1 = 0 → Ok2 (X5_read_28 n (nI i) σ) (X12_readAll_99 m ρ) (fun t ρ' => FCu u σ0 t.2 ∧ ((t.1 = 1 ∧ t.2.1 2 5 = 0 ∧ ρ'.1 1000 2 = 0 ∧ t.2.1 2 6 = -1 ∧ ρ'.1 1000 3 = -1 ∧ ∃ N D db all ns ne F, HT b k u N D db all ns ne F t.2 ρ') ∨ (t.1 = 0 ∧ PX t.2 ρ' ∧ B5 ρ'))) := fun i n m x σ ρ h hf hi hn hm hx => by
    obtain ⟨n, rfl⟩ : ∃ j, n = j + 1 := ⟨n - 1, by omega⟩
    obtain ⟨m, rfl⟩ : ∃ j, m = j + 1 := ⟨m - 1, by omega⟩
    obtain ⟨hP, N, D, db, all, ns, ne, F, hH, _⟩ := h
    have hk : kindC b x = 0 := (kindC_low hP.2.2.1 (v := 0) (by decide) (by decide)).mpr hx
    have hs : ρ.1 1000 6 = 0 := by
      rw [hP.2.1.2.2.1]
      exact (kindR_low hP.2.2.1 (v := 0) (by decide) (by decide) (by decide)).mpr hx
    have e213 : X5_read_213 σ = some (1, σ) := by
      unfold X5_read_213 X5_isGood
      rw [if_pos hP.2.2.2.1, Option.bind_some]
      show some ((1 : Int32) &&& 1, σ) = _
      rw [show (1 : Int32) &&& 1 = 1 by decide]
    have eg : X5_isGood σ = some (1, σ) := by
      unfold X5_isGood
      rw [if_pos hP.2.2.2.1]
    have e28 : X5_read_28 (n + 1) (nI i) σ = some (1, σ) := by
      rw [X5_read_28, eg, Option.bind_some]
      by_cases y : (1600 : Int32) ≤ nI i
      · rw [if_pos y]
        exact e213
      · rw [if_neg y]
        show (if (1 : Int32) = 0 then X5_read_213 σ else if σ.1 3 2 = 0 then X5_read_213 σ else _) = _
        rw [if_neg one_ne, if_pos (show σ.1 3 2 = 0 by rw [hP.1.2.2.2.1]; exact hk)]
        exact e213
    rw [e28, X12_readAll_99, if_pos hP.2.2.2.2, if_pos hs]
    exact o2_some ⟨hf, .inl ⟨rfl, hP.2.2.2.1, hP.2.2.2.2, hP.1.1.1.2, hP.2.1.1.1.2, N, D, db, all, ns, ne, F, hH⟩⟩
  have hk := hb.1
  induction r with
  | zero =>
    intro i n m x σ ρ h hf hi hr hn hm
    have h1 := h.1.2.2.1.1
    have h2 := h.1.2.2.1.2.1
    refine stop i n m x σ ρ h hf (by omega) (by omega) (by omega) ?_
    by_cases e : x.1 = 0
    · exact e
    · have := h.1.2.2.1.2.2.1 e
      omega
  | succ r ih =>
    intro i n m x σ ρ h hf hi hr hn hm
    have h1 := h.1.2.2.1.1
    have h2 := h.1.2.2.1.2.1
    by_cases e : x.1 = 0
    · exact stop i n m x σ ρ h hf (by omega) (by omega) (by omega) e
    · have hlt := h.1.2.2.1.2.2.1 e
      obtain ⟨n, rfl⟩ : ∃ j, n = j + 1 := ⟨n - 1, by omega⟩
      obtain ⟨m, rfl⟩ : ∃ j, m = j + 1 := ⟨m - 1, by omega⟩
      have hs : ¬ ρ.1 1000 6 = 0 := by
        rw [h.1.2.1.2.2.1]
        exact fun g => e ((kindR_low h.1.2.2.1 (v := 0) (by decide) (by decide) (by decide)).mp g)
      rw [X12_readAll_99, if_pos h.1.2.2.2.2, if_neg hs]
      refine line_ok hb hu (by omega) h e (fun σ1 ρ1 g q => ?_)
      rcases q with ⟨x', hB, hx'⟩ | ⟨hX, h5⟩
      · exact ih (i + 1) n m x' σ1 ρ1 hB (hf.trans g) (by omega) (by omega) (by omega) (by omega)
      · obtain ⟨n, rfl⟩ : ∃ j, n = j + 1 := ⟨n - 1, by omega⟩
        obtain ⟨m, rfl⟩ : ∃ j, m = j + 1 := ⟨m - 1, by omega⟩
        have eg : X5_isGood σ1 = some (0, σ1) := by
          unfold X5_isGood
          rw [if_neg hX.neC]
        have e213 : X5_read_213 σ1 = some (0, σ1) := by
          unfold X5_read_213
          rw [eg, Option.bind_some]
          show some ((0 : Int32) &&& 1, σ1) = _
          rw [show (0 : Int32) &&& 1 = 0 by decide]
        have e28 : X5_read_28 (n + 1) (nI (i + 1)) σ1 = some (0, σ1) := by
          rw [X5_read_28, eg, Option.bind_some]
          by_cases y : (1600 : Int32) ≤ nI (i + 1)
          · rw [if_pos y]
            exact e213
          · rw [if_neg y]
            show (if (0 : Int32) = 0 then X5_read_213 σ1 else _) = _
            rw [if_pos (show (0 : Int32) = 0 from rfl)]
            exact e213
        rw [e28, X12_readAll_99, if_neg hX.neM.1]
        exact o2_some ⟨hf.trans g, .inr ⟨rfl, hX, h5⟩⟩
end Lines
