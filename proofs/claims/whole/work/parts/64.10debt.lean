/-! offset, image, back, step, about -/
def setD (s : St) (D : Nat → Int32) : St := fun k j => if k = 5 then D j else s k j
theorem setD_ok {T : Tn} {s : St} {D : Nat → Int32} (h : okN T s) (hD : okD (tN T) D) : okN T (setD s D) := ⟨⟨h.1.1, hD, h.1.2.2.1, h.1.2.2.2⟩, h.2⟩
/-- debts are set anew -/
theorem debt_act {t : Nat} {T : Tn} {s : St} {σ ρ σ1 : Mem} {D : Nat → Int32} (h1 : I_town t T σ ρ) (h2 : I_now T s σ ρ) (h3 : I_hist T s σ ρ) (h4 : I_box T σ ρ) (h5 : I_step T σ ρ) (h6 : I_lies σ ρ) (h7 : I_tape σ ρ) (h8 : I_fault σ ρ) (h9 : I_misc σ ρ) (f1 : Fr [36] [] σ σ1) (hd : ∀ k, k < 36 → σ1.1 36 k = D k) (hD : okD (tN T) D) :
    ∃ σ2 ρ1, X3_add 31 σ1 = some σ2 ∧ X12_act ρ = some ρ1 ∧ ρ1.1 1028 = ρ.1 1028 ∧ Fr [38] [(37, 1), (37, 2)] σ1 σ2 ∧ Fr [1039] [(1000, 69), (1000, 70)] ρ ρ1 ∧ ∀ ρ2, Fr [1028] [] ρ1 ρ2 → (∀ k, k < 36 → ρ2.1 1028 (24 + k) = D k) → (∀ j, j < 24 ∨ 60 ≤ j → ρ2.1 1028 j = ρ1.1 1028 j) → InvR σ2 ρ2 := by
  have hn := h1.2.2.2.1.1
  have hok := setD_ok h2.1 hD
  have o1 := f1.off (A := [31, 32, 33, 34, 35]) (B := []) (by decide)
  have hcs : CS T (setD s D) σ1 31 := by
    refine ⟨fun j hj => ?_, fun k hk => ?_, ?_, ?_, ?_⟩
    · rw [o1.1 (31 + 1) (by decide), o1.1 (31 + 2) (by decide), o1.1 (31 + 3) (by decide), o1.1 (31 + 4) (by decide)]
      exact h2.2.1.1 j hj
    · exact hd k hk
    · rw [o1.1 31 (by decide)]
      exact h2.2.1.2.2.1
    · rw [o1.1 31 (by decide)]
      exact h2.2.1.2.2.2.1
    · rw [o1.1 31 (by decide)]
      exact h2.2.1.2.2.2.2
  have h3' : I_hist T s σ1 ρ := h3.keep f1 (L' := []) (K' := []) Fr.refl (by decide) (by decide)
  obtain ⟨σ2, ρ1, e1, e2, h3''⟩ := hist_add hn h3' hok hcs h2.2.2
  have fC : Fr [38] [(37, 1), (37, 2)] σ1 σ2 := fr_X3_add 31 _ Fr.refl _ e1
  have fM : Fr [1039] [(1000, 69), (1000, 70)] ρ ρ1 := fr_X12_act ρ Fr.refl _ e2
  have e28 : ρ1.1 1028 = ρ.1 1028 := (fM.off (A := [1028]) (B := []) (by decide)).1 _ (by decide)
  refine ⟨σ2, ρ1, e1, e2, e28, fC, fM, fun ρ2 f2 g1 g2 => ?_⟩
  have fC2 : Fr [36, 38] [(37, 1), (37, 2)] σ σ2 := (f1.mono (by decide) (by decide)).trans (fC.mono (by decide) (by decide))
  have fM2 : Fr [1028, 1039] [(1000, 69), (1000, 70)] ρ ρ2 := (fM.mono (by decide) (by decide)).trans (f2.mono (by decide) (by decide))
  refine InvR.acts h1 h4 h5 h6 h7 h8 h9 fC2 fM2 (by decide) (by decide) ⟨hok, ?_, ?_⟩ (h3''.keep (L := []) (K := []) Fr.refl f2 (by decide) (by decide))
  · have o := fC.off (A := [31, 32, 33, 34, 35, 36]) (B := []) (by decide)
    exact hcs.keep (o.1 _ (by decide)) (o.1 _ (by decide)) (o.1 _ (by decide)) (o.1 _ (by decide)) (o.1 _ (by decide)) (o.1 _ (by decide))
  · refine ⟨fun p hp => ?_, g1, ?_, ?_, ?_⟩
    · rw [g2 p (by omega), g2 (6 + p) (by omega), g2 (12 + p) (by omega), g2 (18 + p) (by omega), e28]
      exact h2.2.2.1 p hp
    · rw [g2 60 (by omega), e28]
      exact h2.2.2.2.2.1
    · rw [g2 61 (by omega), e28]
      exact h2.2.2.2.2.2.1
    · rw [g2 62 (by omega), e28]
      exact h2.2.2.2.2.2.2
theorem cellN {p q : Nat} : (24 : Int32) + 6 * nI p + nI q = nI (24 + (6 * p + q)) := by
  rw [Int32.add_assoc, ni_cell]
  exact ni_add 24 _
theorem s_offset (a0 a1 : Int32) : StpI Inv (X11_offset a0 a1) (X12_offset a0 a1) := by
  refine stp (fun σ => fr_X11_offset a0 a1 σ Fr.refl) (fun σ => fr_X12_offset a0 a1 σ Fr.refl) (by decide) (by decide) (fun σ ρ hI => ?_)
  have hI0 := hI
  obtain ⟨t, T, s, h1, h2, h3, h4, h5, h6, h7, h8, h9⟩ := hI
  have hn := h1.2.2.2.1.1
  cases hb : isTwo (tN T) a0 a1 with
  | false =>
    refine ⟨-1, σ, ρ, ?_, ?_, hI0⟩
    · unfold X11_offset
      rw [isPairC_ok h1, Option.bind_some, hb]
      rfl
    · unfold X12_offset
      rw [areTwo_ok h1, Option.bind_some, hb]
      rfl
  | true =>
    have hb1 : ¬ tr (isTwo (tN T) a0 a1) = 0 := by rw [hb]; exact one_ne
    obtain ⟨p, q, hp, hq, hpq, rfl, rfl⟩ := isTwo_t hn hb
    have hDs := okS_D h2.1.1
    obtain ⟨⟨x, hx, ex⟩, -⟩ := hDs p q (by omega) (by omega)
    obtain ⟨⟨y, hy, ey⟩, -⟩ := hDs q p (by omega) (by omega)
    have b1 : ib (nI (6 * p + q)) 36 = true := ib_t (by omega) (by omega)
    have b2 : ib (nI (6 * q + p)) 36 = true := ib_t (by omega) (by omega)
    have c1 := ni_cl (n := 6 * p + q) (by omega)
    have c2 := ni_cl (n := 6 * q + p) (by omega)
    have m1 : ib (nI (24 + (6 * p + q))) 64 = true := ib_t (by omega) (by omega)
    have m2 : ib (nI (24 + (6 * q + p))) 64 = true := ib_t (by omega) (by omega)
    have n1 := ni_cl (n := 24 + (6 * p + q)) (by omega)
    have n2 := ni_cl (n := 24 + (6 * q + p)) (by omega)
    have dC1 : σ.1 36 (6 * p + q) = nI x := (h2.2.1.2.1 _ (by omega)).trans ex
    have dC2 : σ.1 36 (6 * q + p) = nI y := (h2.2.1.2.1 _ (by omega)).trans ey
    have dM1 : ρ.1 1028 (24 + (6 * p + q)) = nI x := (h2.2.2.2.1 _ (by omega)).trans ex
    have dM2 : ρ.1 1028 (24 + (6 * q + p)) = nI y := (h2.2.2.2.1 _ (by omega)).trans ey
    have hne : ¬ 6 * p + q = 6 * q + p := by omega
    have hmin : imin (nI x) (nI y) = nI (min x y) := by
      unfold imin
      by_cases g : y < x
      · rw [if_pos ((ni_lt (by omega) (by omega)).mpr g), Nat.min_eq_right (by omega)]
      · rw [if_neg (by rw [ni_lt (by omega) (by omega)]; exact g), Nat.min_eq_left (by omega)]
    have hC0 : X11_offset (nI p) (nI q) σ = if nI (min x y) = 0 then some (-1, σ) else (X3_add 31 (sI (sI σ 36 (6 * p + q) (nI x - nI (min x y))) 36 (6 * q + p) (nI y - nI (min x y)))).bind fun σ9 => some (nI (min x y), σ9) := by
      unfold X11_offset
      rw [isPairC_ok h1, Option.bind_some, if_neg hb1]
      show (X11_cell (nI p) (nI q) σ).bind _ = _
      rw [cell_ok, Option.bind_some, bv_eq]
      show (X11_cell (nI q) (nI p) σ).bind _ = _
      rw [cell_ok, Option.bind_some, bv_eq]
      show (if ib (nI (6 * p + q)) 36 = true then if ib (nI (6 * q + p)) 36 = true then bv (imin (σ.1 36 (nI (6 * p + q)).toNatClampNeg) (σ.1 36 (nI (6 * q + p)).toNatClampNeg)) _ else none else none) = _
      rw [if_pos b1, if_pos b2, bv_eq, c1, c2, dC1, dC2, hmin]
      simp only [b1, b2, if_true, bv_eq]
      rw [sI_k (Ne.symm hne), dC2]
    have hM0 : X12_offset (nI p) (nI q) ρ = if nI (min x y) = 0 then some (-1, ρ) else (X12_act ρ).bind fun σ4 => some (nI (min x y), sI (sI σ4 1028 (24 + (6 * p + q)) (σ4.1 1028 (24 + (6 * p + q)) - nI (min x y))) 1028 (24 + (6 * q + p)) ((sI σ4 1028 (24 + (6 * p + q)) (σ4.1 1028 (24 + (6 * p + q)) - nI (min x y))).1 1028 (24 + (6 * q + p)) - nI (min x y))) := by
      unfold X12_offset
      rw [areTwo_ok h1, Option.bind_some, if_neg hb1, bv_eq, bv_eq, cellN, cellN]
      show (if _ then (if _ then (if ρ.1 1028 (nI (24 + (6 * q + p))).toNatClampNeg ≤ ρ.1 1028 (nI (24 + (6 * p + q))).toNatClampNeg then (if _ then X12_offset_64 _ _ (ρ.1 1028 (nI (24 + (6 * q + p))).toNatClampNeg) ρ else none) else (if _ then X12_offset_64 _ _ (ρ.1 1028 (nI (24 + (6 * p + q))).toNatClampNeg) ρ else none)) else none) else none) = _
      rw [if_pos m1, if_pos m2, if_pos m2, if_pos m1, n1, n2, dM1, dM2]
      have hv : (if nI y ≤ nI x then X12_offset_64 (nI (24 + (6 * p + q))) (nI (24 + (6 * q + p))) (nI y) ρ else X12_offset_64 (nI (24 + (6 * p + q))) (nI (24 + (6 * q + p))) (nI x) ρ) = X12_offset_64 (nI (24 + (6 * p + q))) (nI (24 + (6 * q + p))) (nI (min x y)) ρ := by
        by_cases g : y ≤ x
        · rw [if_pos ((ni_le (by omega) (by omega)).mpr g), Nat.min_eq_right g]
        · rw [if_neg (by rw [ni_le (by omega) (by omega)]; exact g), Nat.min_eq_left (by omega)]
      rw [hv]
      unfold X12_offset_64
      simp only [m1, m2, n1, n2, if_true, bv_eq]
    by_cases z : nI (min x y) = 0
    · refine ⟨-1, σ, ρ, ?_, ?_, hI0⟩
      · rw [hC0, if_pos z]
      · rw [hM0, if_pos z]
    · have hD : okD (tN T) (upd (upd (s 5) (6 * p + q) (nI x - nI (min x y))) (6 * q + p) (nI y - nI (min x y))) := by
        intro i j hi hj
        have hh := hDs i j hi hj
        unfold upd
        rw [ni_sub (Nat.min_le_left _ _), ni_sub (Nat.min_le_right _ _)]
        by_cases g1 : 6 * i + j = 6 * q + p
        · rw [if_pos g1]
          refine ⟨⟨_, by omega, rfl⟩, fun g => ?_⟩
          have : i = q ∧ j = p := by omega
          omega
        · rw [if_neg g1]
          by_cases g2 : 6 * i + j = 6 * p + q
          · rw [if_pos g2]
            refine ⟨⟨_, by omega, rfl⟩, fun g => ?_⟩
            have : i = p ∧ j = q := by omega
            omega
          · rw [if_neg g2]
            exact hh
      obtain ⟨σ2, ρ1, e1, e2, e28, -, -, hR⟩ := debt_act (σ1 := sI (sI σ 36 (6 * p + q) (nI x - nI (min x y))) 36 (6 * q + p) (nI y - nI (min x y))) h1 h2 h3 h4 h5 h6 h7 h8 h9 (frI (frI Fr.refl (.head _)) (.head _)) (fun k hk => by
        show _ = upd (upd (s 5) (6 * p + q) (nI x - nI (min x y))) (6 * q + p) (nI y - nI (min x y)) k
        unfold upd
        rw [sI_o, sI_o, show σ.1 36 k = s 5 k from h2.2.1.2.1 k hk]) hD
      rw [if_neg z, e2, Option.bind_some] at hM0
      rw [if_neg z, e1, Option.bind_some] at hC0
      refine ⟨nI (min x y), σ2, _, hC0, hM0, hR _ (frI (frI Fr.refl (.head _)) (.head _)) (fun k hk => ?_) (fun j hj => ?_)⟩
      · rw [sI_k (k := 24 + (6 * p + q)) (b := 24 + (6 * q + p)) (by omega), e28, dM1, dM2]
        show _ = upd (upd (s 5) (6 * p + q) (nI x - nI (min x y))) (6 * q + p) (nI y - nI (min x y)) k
        unfold upd
        rw [sI_o, sI_o, e28, h2.2.2.2.1 k hk]
        by_cases g1 : k = 6 * q + p
        · rw [if_pos (by omega), if_pos g1]
        · rw [if_neg (by omega), if_neg g1]
          by_cases g2 : k = 6 * p + q
          · rw [if_pos (by omega), if_pos g2]
          · rw [if_neg (by omega), if_neg g2]
      · rw [sI_k (by omega), sI_k (by omega)]
/-! image and back -/
theorem isBox_ok (x : Int32) (ρ : Mem) : X12_isBox x ρ = some (tr (decide (0 ≤ x) && decide (x < 3)), ρ) := by
  unfold X12_isBox
  by_cases z : x < 0
  · rw [if_pos z, decide_eq_false (Int32.not_le.mpr z)]
    rfl
  · rw [if_neg z, decide_eq_true (Int32.not_lt.mp z)]
    by_cases y : 3 ≤ x
    · rw [if_pos y, decide_eq_false (Int32.not_lt.mpr y)]
      rfl
    · rw [if_neg y, decide_eq_true (Int32.not_le.mp y)]
      rfl
theorem s_image (a0 : Int32) : StpI Inv (X11_image a0) (X12_image a0) := by
  refine stp (fun σ => fr_X11_image a0 σ Fr.refl) (fun σ => fr_X12_image a0 σ Fr.refl) (by decide) (by decide) (fun σ ρ hI => ?_)
  have hI0 := hI
  obtain ⟨t, T, s, h1, h2, h3, h4, h5, h6, h7, h8, h9⟩ := hI
  have hn := h1.2.2.2.1.1
  by_cases z : a0 < 0
  · refine ⟨-1, σ, ρ, ?_, ?_, hI0⟩
    · unfold X11_image
      rw [if_pos z]
    · unfold X12_image
      rw [isBox_ok, Option.bind_some, decide_eq_false (Int32.not_le.mpr z)]
      rfl
  · by_cases y : a0 < 3
    · have hin : tr (decide (0 ≤ a0) && decide (a0 < 3)) = 1 := by
        rw [decide_eq_true (Int32.not_lt.mp z), decide_eq_true y]
        rfl
      obtain ⟨b, hb, rfl⟩ := ni_of_lt (n := 3) z (Int32.not_le.mpr y) (by omega)
      have bb := ib_t (n := b) (k := 3) hb (by omega)
      have cb := ni_cl (n := b) (by omega)
      obtain ⟨σ1, e1, a1⟩ := store_ok (o := 31) (a := 121) (al := 189) (m := 63 * b) (σ := σ) (by omega) (by omega) (by omega)
      have f1 : Fr [121] [] σ σ1 := fr_X7_store 31 121 189 _ _ Fr.refl _ e1
      have eC : X11_image (nI b) σ = some (s 0 7, sI σ1 122 b 1) := by
        unfold X11_image
        rw [if_neg z, if_pos y, show nI b * 63 = nI (63 * b) by rw [show (63 : Int32) = nI 63 from rfl, ni_mul, Nat.mul_comm], e1, Option.bind_some, if_pos bb, bv_eq, cb, sI_n (by decide), f1.ne (by decide), show σ.1 31 7 = s 0 7 from h2.2.1.2.2.2.2]
      have hM : Ok (X12_image (nI b) ρ) (fun r => r.1 = s 0 7 ∧ (∀ k, k < 63 → r.2.1 1051 (64 * b + k) = ρ.1 1028 k) ∧ (∀ j, ¬ (64 * b ≤ j ∧ j < 64 * b + 63) → r.2.1 1051 j = ρ.1 1051 j) ∧ ∀ j, r.2.1 1050 j = if j = b then 1 else ρ.1 1050 j) := by
        unfold X12_image
        rw [isBox_ok]
        refine ok_bindE rfl (ok_neg (by show ¬ tr _ = 0; rw [hin]; exact one_ne) (ok_pos bb (ok_bv (ok_bv ?_))))
        rw [cb]
        refine ok_loop0 (F := fun n i ρ => X12_image_18 n (nI b) i ρ) (N := 63) (I := fun i ρ' => Fr [1050, 1051] [] ρ ρ' ∧ (∀ k, k < i → ρ'.1 1051 (64 * b + k) = ρ.1 1028 k) ∧ (∀ j, ¬ (64 * b ≤ j ∧ j < 64 * b + 63) → ρ'.1 1051 j = ρ.1 1051 j) ∧ ∀ j, ρ'.1 1050 j = if j = b then 1 else ρ.1 1050 j) 0 _ (by omega) (by omega) ⟨frI Fr.refl (.head _), fun k hk => by omega, fun j _ => sI_n (by decide) _, fun j => sI_o _ _ _ _ _⟩ ?_ ?_
        · rintro n i ρ' hi ⟨hf, hI, hJ, hK⟩ hk
          show Ok (X12_image_18 (n + 1) (nI b) (nI i) ρ') _
          rw [X12_image_18, show (64 : Int32) = nI 64 from rfl, ni_mul, ni_add]
          refine ok_neg (by rw [show (63 : Int32) = nI 63 from rfl, ni_le (by omega) (by omega)]; omega) (ok_pos (ib_t (by omega) (by omega)) (ok_pos (ib_t (by omega) (by omega)) (ok_bv (ok_bv ?_))))
          rw [ni_cl (by omega), ni_cl (by omega), ni_succ, hf.ne (a := 1028) (by decide)]
          refine hk _ ⟨frI hf (.tail _ (.head _)), fun k hk => ?_, fun j hj => ?_, fun j => ?_⟩
          · rw [sI_o]
            by_cases g : k = i
            · rw [if_pos (by omega), g]
            · rw [if_neg (by omega)]
              exact hI k (by omega)
          · rw [sI_k (by omega)]
            exact hJ j hj
          · rw [sI_n (by decide)]
            exact hK j
        · rintro n ρ' ⟨hf, hI, hJ, hK⟩
          show Ok (X12_image_18 (n + 1) (nI b) (nI 63) ρ') _
          rw [X12_image_18]
          refine ok_pos (Int32.le_refl _) (ok_some ⟨?_, hI, hJ, hK⟩)
          show ρ'.1 1028 62 = _
          rw [hf.ne (a := 1028) (by decide)]
          exact h2.2.2.2.2.2.2
      obtain ⟨⟨r, ρ'⟩, eM, er, m1, m2, m3⟩ := hM
      have er : r = s 0 7 := er
      subst er
      have fC := fr_X11_image (nI b) σ Fr.refl _ eC
      have fM := fr_X12_image (nI b) ρ Fr.refl _ eM
      have fC : Fr [121, 122] [] σ (sI σ1 122 b 1) := fC
      have fM : Fr [1050, 1051] [] ρ ρ' := fM
      refine ⟨_, _, _, eC, eM, ⟨t, T, s, h1.keep fC fM (by decide) (by decide), h2.keep fC fM (by decide) (by decide), h3.keep fC fM (by decide) (by decide), fun b' hb' => ?_, h5.keep fC fM (by decide) (by decide), h6.keep fC fM (by decide) (by decide), h7.keep fC fM (by decide) (by decide), h8.keep fC fM (by decide) (by decide), h9.keep fC fM (by decide) (by decide)⟩⟩
      show ((sI σ1 122 b 1).1 122 b' = 0 ∧ ρ'.1 1050 b' = 0) ∨ ((sI σ1 122 b 1).1 122 b' = 1 ∧ ρ'.1 1050 b' = 1 ∧ ∃ s, okN T s ∧ rowR (tN T) s (fun k => (sI σ1 122 b 1).1 121 (63 * b' + k)) ∧ rowR (tN T) s (fun k => ρ'.1 1051 (64 * b' + k)))
      have hm3 : ρ'.1 1050 b' = if b' = b then 1 else ρ.1 1050 b' := m3 b'
      rw [sI_o, hm3]
      by_cases g : b' = b
      · rw [if_pos g, if_pos g]
        refine .inr ⟨rfl, rfl, s, h2.1, (stRow_R hn h2.2.1).congr hn (fun k hk => ?_), h2.2.2.congr hn (fun k hk => ?_)⟩
        · rw [sI_n (by decide), a1, if_pos (by omega), g, show 63 * b + k - 63 * b = k by omega]
        · rw [g]
          exact m1 k hk
      · rw [if_neg g, if_neg g, f1.ne (a := 122) (by decide)]
        rcases h4 b' hb' with q | ⟨q1, q2, s2, q3, q4, q5⟩
        · exact .inl q
        · refine .inr ⟨q1, q2, s2, q3, q4.congr hn (fun k hk => ?_), q5.congr hn (fun k hk => ?_)⟩
          · rw [sI_n (by decide), a1, if_neg (by omega)]
          · exact m2 _ (by omega)
    · refine ⟨-1, σ, ρ, ?_, ?_, hI0⟩
      · unfold X11_image
        rw [if_neg z, if_neg y]
      · unfold X12_image
        rw [isBox_ok, Option.bind_some, decide_eq_false y, Bool.and_false]
        rfl
theorem s_back (a0 : Int32) : StpI Inv (X11_back a0) (X12_back a0) := by
  refine stp (fun σ => fr_X11_back a0 σ Fr.refl) (fun σ => fr_X12_back a0 σ Fr.refl) (by decide) (by decide) (fun σ ρ hI => ?_)
  have hI0 := hI
  obtain ⟨t, T, s, h1, h2, h3, h4, h5, h6, h7, h8, h9⟩ := hI
  have hn := h1.2.2.2.1.1
  by_cases z : a0 < 0
  · refine ⟨-1, σ, ρ, ?_, ?_, hI0⟩
    · unfold X11_back
      rw [if_pos z]
    · unfold X12_back
      rw [isBox_ok, Option.bind_some, decide_eq_false (Int32.not_le.mpr z)]
      rfl
  · by_cases y : 3 ≤ a0
    · refine ⟨-1, σ, ρ, ?_, ?_, hI0⟩
      · unfold X11_back
        rw [if_neg z, if_pos y]
      · unfold X12_back
        rw [isBox_ok, Option.bind_some, decide_eq_false (Int32.not_lt.mpr y), Bool.and_false]
        rfl
    · have hin : tr (decide (0 ≤ a0) && decide (a0 < 3)) = 1 := by
        rw [decide_eq_true (Int32.not_lt.mp z), decide_eq_true (Int32.not_le.mp y)]
        rfl
      obtain ⟨b, hb, rfl⟩ := ni_of_lt (n := 3) z y (by omega)
      have bb := ib_t (n := b) (k := 3) hb (by omega)
      have cb := ni_cl (n := b) (by omega)
      have hM0 : X12_back (nI b) ρ = if ρ.1 1050 b = 0 then some (-1, ρ) else X12_back_20 fu (nI b) 0 ρ := by
        unfold X12_back
        rw [isBox_ok, Option.bind_some, hin, if_neg one_ne, if_pos bb, cb]
        rfl
      rcases h4 b hb with q | ⟨q1, q2, s2, q3, q4, q5⟩
      · refine ⟨-1, σ, ρ, ?_, ?_, hI0⟩
        · unfold X11_back
          rw [if_neg z, if_neg y, if_pos bb, cb, if_pos q.1]
        · rw [hM0, if_pos q.2]
      · obtain ⟨σ1, e1, hcs⟩ := loadC_ok (T := T) (s := s2) (o := 31) (a := 121) (al := 189) (m := 63 * b) (σ := σ) hn (by omega) (by omega) (by omega) q4
        have f1 : Fr [32, 33, 34, 35, 36] [(31, 5), (31, 6), (31, 7)] σ σ1 := fr_X7_load 31 121 189 _ _ Fr.refl _ e1
        have hcs2 : CS T s2 (sI (sI σ1 37 1 0) 37 2 0) 31 := by
          refine hcs.keep ?_ ?_ ?_ ?_ ?_ ?_
          all_goals (funext j; rw [sI_n (by decide), sI_n (by decide)])
        obtain ⟨σ2, e2, a2⟩ := store_ok (o := 31) (a := 38) (al := 2583) (m := 0) (σ := sI (sI σ1 37 1 0) 37 2 0) (by omega) (by omega) (by omega)
        have f2 : Fr [38] [] (sI (sI σ1 37 1 0) 37 2 0) σ2 := fr_X7_store 31 38 2583 _ _ Fr.refl _ e2
        have ebeg : X3_begin 31 σ1 = some σ2 := by
          unfold X3_begin
          rw [bv_eq, bv_eq, show (0 : Int32) = nI 0 from rfl]
          rw [show (nI 0 : Int32) = 0 from rfl] at e2 ⊢
          rw [e2, Option.bind_some]
        have hcs3 : CS T s2 σ2 31 := by
          have o := f2.off (A := [31, 32, 33, 34, 35, 36]) (B := []) (by decide)
          exact hcs2.keep (o.1 _ (by decide)) (o.1 _ (by decide)) (o.1 _ (by decide)) (o.1 _ (by decide)) (o.1 _ (by decide)) (o.1 _ (by decide))
        have eC : X11_back (nI b) σ = some (s2 0 7, σ2) := by
          unfold X11_back
          rw [if_neg z, if_neg y, if_pos bb, cb, if_neg (by rw [q1]; decide), show nI b * 63 = nI (63 * b) by rw [show (63 : Int32) = nI 63 from rfl, ni_mul, Nat.mul_comm], e1, Option.bind_some, ebeg, Option.bind_some, show σ2.1 31 7 = s2 0 7 from hcs3.2.2.2.2]
        have hM : Ok (X12_back_20 fu (nI b) 0 ρ) (fun r => r.1 = s2 0 7 ∧ rowR (tN T) s2 (r.2.1 1028) ∧ r.2.1 1000 69 = 0 ∧ r.2.1 1000 70 = 0) := by
          refine ok_loop0 (F := fun n i ρ => X12_back_20 n (nI b) i ρ) (N := 63) (I := fun i ρ' => Fr [1028] [] ρ ρ' ∧ (∀ k, k < i → ρ'.1 1028 k = ρ.1 1051 (64 * b + k))) 0 ρ (by omega) (by omega) ⟨Fr.refl, fun k hk => by omega⟩ ?_ ?_
          · rintro n i ρ' hi ⟨hf, hI⟩ hk
            show Ok (X12_back_20 (n + 1) (nI b) (nI i) ρ') _
            rw [X12_back_20, show (64 : Int32) = nI 64 from rfl, ni_mul, ni_add]
            refine ok_neg (by rw [show (63 : Int32) = nI 63 from rfl, ni_le (by omega) (by omega)]; omega) (ok_pos (ib_t (by omega) (by omega)) (ok_pos (ib_t (by omega) (by omega)) (ok_bv (ok_bv ?_))))
            rw [ni_cl (by omega), ni_cl (by omega), ni_succ, hf.ne (a := 1051) (by decide)]
            refine hk _ ⟨frI hf (.head _), fun k hk => ?_⟩
            rw [sI_o]
            by_cases g : k = i
            · rw [if_pos g, g]
            · rw [if_neg g]
              exact hI k (by omega)
          · rintro n ρ' ⟨hf, hI⟩
            show Ok (X12_back_20 (n + 1) (nI b) (nI 63) ρ') _
            rw [X12_back_20]
            refine ok_pos (Int32.le_refl _) (ok_bv (ok_bv (ok_some ⟨?_, ?_, ?_, sI_e _ _ _ _⟩)))
            · show (sI (sI ρ' 1000 69 0) 1000 70 0).1 1028 62 = _
              rw [sI_n (by decide), sI_n (by decide), hI 62 (by omega)]
              exact q5.2.2.2.2
            · refine q5.congr hn (fun k hk => ?_)
              show (sI (sI ρ' 1000 69 0) 1000 70 0).1 1028 k = _
              rw [sI_n (by decide), sI_n (by decide), hI k hk]
            · show (sI (sI ρ' 1000 69 0) 1000 70 0).1 1000 69 = _
              rw [sI_k (by decide), sI_e]
        obtain ⟨⟨r, ρ'⟩, eM0, er, m1, m2, m3⟩ := hM
        have er : r = s2 0 7 := er
        subst er
        have eM : X12_back (nI b) ρ = some (s2 0 7, ρ') := by
          rw [hM0, if_neg (by rw [q2]; decide)]
          exact eM0
        refine ⟨_, _, _, eC, eM, InvR.acts (s' := s2) h1 h4 h5 h6 h7 h8 h9 (fr_X11_back _ σ Fr.refl _ eC) (fr_X12_back _ ρ Fr.refl _ eM) (by decide) (by decide) ⟨q3, hcs3, m1⟩ ⟨fun _ => s2, 0, 0, Nat.le_refl _, by omega, rfl, ?_, ?_, m2, m3, fun i hi => ⟨q3, ?_⟩, fun i hi => by omega, fun i _ hi => by omega⟩⟩
        · show σ2.1 37 1 = _
          rw [f2.ne (a := 37) (by decide), sI_k (by decide), sI_e]
          rfl
        · show σ2.1 37 2 = _
          rw [f2.ne (a := 37) (by decide), sI_e]
          rfl
        · refine (stRow_R hn hcs2).congr hn (fun k hk => ?_)
          show σ2.1 38 (63 * i + k) = _
          rw [a2, if_pos (by omega), show 63 * i + k - 0 = k by omega]
theorem s_step (a0 a1 a2 : Int32) : StpI Inv (X11_step a0 a1 a2) (X12_step a0 a1 a2) := by
  refine stp (fun σ => fr_X11_step a0 a1 a2 σ Fr.refl) (fun σ => fr_X12_step a0 a1 a2 σ Fr.refl) (by decide) (by decide) (fun σ ρ hI => ?_)
  have hI0 := hI
  obtain ⟨t, T, s, h1, h2, h3, h4, ⟨c, tm, hc, htm, e1, e2, e3, e4, h5⟩, h6, h7, h8, h9⟩ := hI
  have hT := h1.2.2.2.1
  have hn := hT.1
  have h24 := hT.2.2.1
  have hC0 : X11_step a0 a1 a2 σ = if tr (isP (tN T) a0) = 0 then some (-1, σ) else if a1 < 0 then some (-1, σ) else if nI (tD T) ≤ a1 then some (-1, σ) else if a2 < 0 then some (-1, σ) else if a2 ≤ 20 then (X8_tell a0 a1 a2 σ).bind fun r3 => some (r3.1, r3.2) else some (-1, σ) := by
    unfold X11_step
    rw [isPersonC_ok h1, Option.bind_some]
    show (if _ then _ else if _ then _ else gT (σ.1 0 12) _) = _
    rw [h1.2.1, gT_ok h1.1]
    show (if _ then _ else if _ then _ else if σ.1 t 11 ≤ a1 then _ else _) = _
    rw [h1.2.2.2.2.1.2.1]
  have hM0 : X12_step a0 a1 a2 ρ = if tr (isP (tN T) a0) = 0 then some (-1, ρ) else if tr (decide (0 ≤ a1) && decide (a1 ≤ nI (tD T) - 1)) = 0 then some (-1, ρ) else if tr (decide (0 ≤ a2) && decide (a2 ≤ 20)) = 0 then some (-1, ρ) else if nI c = 30 then some (-1, ρ) else some (nI c, sI (sI (sI (sI (sI (sI ρ 1045 c a0) 1046 c a1) 1047 c a2) 1048 c (nI tm)) 1049 c (-1)) 1000 86 (nI (c + 1))) := by
    unfold X12_step
    rw [isPersonM_ok h1, Option.bind_some]
    show (if _ then _ else (X12_isIn a1 0 (ρ.1 1000 46 - 1) ρ).bind _) = _
    rw [isIn_ok, Option.bind_some, h1.2.2.2.2.2.2.1.2.1]
    show (if _ then _ else if _ then _ else (X12_isIn a2 0 20 ρ).bind _) = _
    rw [isIn_ok, Option.bind_some]
    show (if _ then _ else if _ then _ else if _ then _ else if ρ.1 1000 86 = 30 then _ else _) = _
    rw [e2]
    by_cases g : nI c = 30
    · rw [if_pos g, if_pos g]
    · have hc30 : c < 30 := by
        rcases Nat.lt_or_ge c 30 with q | q
        · exact q
        · exact absurd (by rw [show c = 30 by omega]; rfl) g
      have bc := ib_t (n := c) (k := 30) hc30 (by omega)
      have cc := ni_cl (n := c) (by omega)
      rw [if_neg g, if_neg g]
      simp only [sI_n (show (1000 : Nat) ≠ 1045 by decide), sI_n (show (1000 : Nat) ≠ 1046 by decide), sI_n (show (1000 : Nat) ≠ 1047 by decide), sI_n (show (1000 : Nat) ≠ 1048 by decide), sI_n (show (1000 : Nat) ≠ 1049 by decide), e2, e4, bc, cc, bv_eq, if_true, ni_succ, sI_e, ni_pred]
  by_cases g1 : tr (isP (tN T) a0) = 0
  · exact ⟨-1, σ, ρ, by rw [hC0, if_pos g1], by rw [hM0, if_pos g1], hI0⟩
  · rw [if_neg g1] at hC0 hM0
    by_cases z : a1 < 0
    · refine ⟨-1, σ, ρ, by rw [hC0, if_pos z], ?_, hI0⟩
      rw [hM0, decide_eq_false (Int32.not_le.mpr z)]
      rfl
    · rw [if_neg z] at hC0
      by_cases y : nI (tD T) ≤ a1
      · refine ⟨-1, σ, ρ, by rw [hC0, if_pos y], ?_, hI0⟩
        rw [hM0, decide_eq_false (fun g => Int32.not_lt.mpr g ((pred_lt (by omega) a1).mpr y)), Bool.and_false]
        rfl
      · rw [if_neg y] at hC0
        rw [decide_eq_true (Int32.not_lt.mp z), decide_eq_true (Int32.not_lt.mp (fun g => y ((pred_lt (by omega) a1).mp g))), if_neg (show ¬ tr (true && true) = 0 from one_ne)] at hM0
        by_cases x : a2 < 0
        · refine ⟨-1, σ, ρ, by rw [hC0, if_pos x], ?_, hI0⟩
          rw [hM0, decide_eq_false (Int32.not_le.mpr x)]
          rfl
        · rw [if_neg x] at hC0
          by_cases w : a2 ≤ 20
          · rw [if_pos w] at hC0
            rw [decide_eq_true (Int32.not_lt.mp x), decide_eq_true w, if_neg (show ¬ tr (true && true) = 0 from one_ne)] at hM0
            by_cases v : c = 30
            · subst v
              refine ⟨-1, σ, ρ, ?_, ?_, hI0⟩
              · rw [hC0]
                unfold X8_tell
                rw [e1, if_neg (by decide)]
                rfl
              · rw [hM0, if_pos (show nI 30 = 30 from rfl)]
            · have hc30 : c < 30 := by omega
              have bc := ib_t (n := c) (k := 30) hc30 (by omega)
              have cc := ni_cl (n := c) (by omega)
              have hbP : isP (tN T) a0 = true := by rw [tr_ne] at g1; simpa using g1
              obtain ⟨p, hp, rfl⟩ := isP_t hn hbP
              obtain ⟨h, hh, rfl⟩ := ni_of_lt z y (by omega)
              have eC : X11_step (nI p) (nI h) a2 σ = some (nI c, sI (sI (sI (sI (sI (sI σ 115 c (nI p)) 116 c (nI h)) 117 c a2) 118 c (nI tm)) 119 c (-1)) 114 6 (nI (c + 1))) := by
                rw [hC0]
                unfold X8_tell
                rw [e1, if_pos (by rw [show (30 : Int32) = nI 30 from rfl, ni_lt (by omega) (by omega)]; exact hc30)]
                simp only [sI_n (show (114 : Nat) ≠ 115 by decide), sI_n (show (114 : Nat) ≠ 116 by decide), sI_n (show (114 : Nat) ≠ 117 by decide), sI_n (show (114 : Nat) ≠ 118 by decide), sI_n (show (114 : Nat) ≠ 119 by decide), e1, e3, bc, cc, bv_eq, if_true, ni_succ, sI_e, ni_pred, Option.bind_some]
              rw [if_neg (by rw [show (30 : Int32) = nI 30 from rfl, ni_inj (by omega) (by omega)]; exact v)] at hM0
              refine ⟨_, _, _, eC, hM0, InvR.step h1 h2 h3 h4 h6 h7 h8 h9 (fr_X11_step _ _ _ σ Fr.refl _ eC) (fr_X12_step _ _ _ ρ Fr.refl _ hM0) (by decide) (by decide) ⟨c + 1, tm, by omega, htm, sI_e _ _ _ _, sI_e _ _ _ _, ?_, ?_, fun i hi => ?_⟩⟩
              · show (sI (sI (sI (sI (sI (sI σ 115 c (nI p)) 116 c (nI h)) 117 c a2) 118 c (nI tm)) 119 c (-1)) 114 6 (nI (c + 1))).1 114 7 = nI tm
                rw [sI_k (by decide), sI_n (by decide), sI_n (by decide), sI_n (by decide), sI_n (by decide), sI_n (by decide)]
                exact e3
              · show (sI (sI (sI (sI (sI (sI ρ 1045 c (nI p)) 1046 c (nI h)) 1047 c a2) 1048 c (nI tm)) 1049 c (-1)) 1000 86 (nI (c + 1))).1 1000 87 = nI tm
                rw [sI_k (by decide), sI_n (by decide), sI_n (by decide), sI_n (by decide), sI_n (by decide), sI_n (by decide)]
                exact e4
              · simp only [sI_r, Nat.reduceEqDiff, false_and, if_false, true_and, ms]
                by_cases g : i = c
                · simp only [g, if_true]
                  exact ⟨⟨p, hp, rfl, rfl⟩, ⟨h, hh, rfl, rfl⟩, trivial, trivial, trivial, .inl trivial⟩
                · simp only [g, if_false]
                  exact h5 i (by omega)
          · refine ⟨-1, σ, ρ, by rw [hC0, if_neg w], ?_, hI0⟩
            rw [hM0, decide_eq_false w, Bool.and_false]
            rfl
/-! about -/
theorem pos_len : ∀ (pr : Pg) (i : Nat), (pos pr i).length = (pr.filter isPush).length
  | [], _ => rfl
  | c :: r, i => by
    unfold pos
    by_cases z : c.1 = 0
    · rw [if_pos z, List.filter_cons_of_pos (by unfold isPush; exact decide_eq_true z), List.length_cons, List.length_cons, pos_len r]
    · rw [if_neg z, List.filter_cons_of_neg (by unfold isPush; rw [decide_eq_false z]; exact Bool.false_ne_true), pos_len r]
theorem numbers_ok {T : Tn} {ρ : Mem} (hT : okT T) (h : MPg T ρ 0) : Ok (X12_numbers ρ) (fun r => r.1 = match tP T 0 with
    | none => 0
    | some pr => nI (pos pr 0).length) := by
  unfold X12_numbers
  refine ok_bv (ok_bv ?_)
  unfold MPg at h
  cases e : tP T 0 with
  | none =>
    rw [e] at h
    rw [show fu = 4999 + 1 from rfl, X12_numbers_4]
    exact ok_pos h (ok_pos (by decide) (ok_some rfl))
  | some pr =>
    rw [e] at h
    have hl := (okT_P hT e).2.2
    have hflag : ¬ ρ.1 1000 52 = 0 := by rw [show ρ.1 1000 52 = 1 from h.1]; decide
    refine ok_loop0 (F := fun n i (x : Int32) => X12_numbers_4 n x i ρ) (N := pr.length) (I := fun i x => x = nI ((pr.take i).filter isPush).length) 0 0 (by omega) (by omega) rfl ?_ ?_
    · intro n i x hi hx hk
      have hF := h.2.2 i hi
      rw [Nat.mul_zero, Nat.zero_add] at hF
      show Ok (X12_numbers_4 (n + 1) x (nI i) ρ) _
      rw [X12_numbers_4]
      refine ok_neg hflag ?_
      unfold X12_numbers_22
      rw [h.2.1]
      refine ok_neg (by rw [ni_le (by omega) (by omega)]; omega) (ok_pos (ib_t (by omega) (by omega)) ?_)
      rw [ni_cl (by omega), hF.1]
      have hstep : ((pr.take (i + 1)).filter isPush).length = ((pr.take i).filter isPush).length + (if isPush pr[i] then 1 else 0) := by
        rw [List.take_succ_eq_append_getElem hi, List.filter_append, List.length_append]
        cases hp : isPush pr[i] <;> simp [hp]
      refine ok_ite (fun z => ?_) (fun z => ?_)
      · unfold X12_numbers_40
        refine ok_bindE (truth_ok true ρ) (ok_bv (ok_bv ?_))
        rw [ni_succ]
        refine hk _ ?_
        show x + tr true = _
        rw [hx, hstep, show isPush pr[i] = true from decide_eq_true z]
        exact ni_succ _
      · unfold X12_numbers_40
        refine ok_bindE (truth_ok false ρ) (ok_bv (ok_bv ?_))
        rw [ni_succ]
        refine hk _ ?_
        show x + tr false = _
        rw [hx, hstep, show isPush pr[i] = false from decide_eq_false z]
        exact Int32.add_zero _
    · intro n x hx
      show Ok (X12_numbers_4 (n + 1) x (nI pr.length) ρ) _
      rw [X12_numbers_4]
      refine ok_neg hflag ?_
      unfold X12_numbers_22
      rw [h.2.1]
      refine ok_pos (Int32.le_refl _) (ok_some ?_)
      show x = nI (pos pr 0).length
      rw [hx, List.take_length, pos_len]
theorem debtsC_ok {s : St} {σ : Mem} (h : ∀ k, k < 36 → σ.1 (31 + 5) k = s 5 k) : Ok (X7_debtsLeft 31 σ) (fun r => r.1 = nI (cnt (fun k => decide (0 < s 5 k)) 36)) := by
  unfold X7_debtsLeft
  refine ok_bv (ok_bv ?_)
  refine ok_loop0 (F := fun n i (x : Int32) => X7_debtsLeft_4 31 n x i σ) (N := 36) (I := fun i x => x = nI (cnt (fun k => decide (0 < s 5 k)) i)) 0 0 (by omega) (by omega) rfl ?_ ?_
  · intro n i x hi hx hk
    show Ok (X7_debtsLeft_4 31 (n + 1) x (nI i) σ) _
    rw [X7_debtsLeft_4]
    refine ok_neg (by rw [show (36 : Int32) = nI 36 from rfl, ni_le (by omega) (by omega)]; omega) (ok_pos (ib_t (by omega) (by omega)) ?_)
    rw [ni_cl (by omega), h i hi]
    unfold X7_debtsLeft_25
    refine ok_ite (fun z => ok_bv ?_) (fun z => ok_bv (ok_bv ?_))
    · rw [ni_succ]
      refine hk _ ?_
      rw [hx, cnt_succ, decide_eq_false (Int32.not_lt.mpr z)]
      rfl
    · rw [ni_succ]
      refine hk _ ?_
      rw [hx, cnt_succ, decide_eq_true (Int32.not_le.mp z)]
      exact ni_succ _
  · intro n x hx
    show Ok (X7_debtsLeft_4 31 (n + 1) x (nI 36) σ) _
    rw [X7_debtsLeft_4]
    exact ok_pos (Int32.le_refl _) (ok_some hx)
theorem debtsM_ok {s : St} {ρ : Mem} (h : ∀ k, k < 36 → ρ.1 1028 (24 + k) = s 5 k) : Ok (X12_debts ρ) (fun r => r.1 = nI (cnt (fun k => decide (0 < s 5 k)) 36)) := by
  unfold X12_debts
  refine ok_bv (ok_bv ?_)
  refine ok_loop0 (F := fun n i (x : Int32) => X12_debts_4 n x i ρ) (N := 36) (I := fun i x => x = nI (cnt (fun k => decide (0 < s 5 k)) i)) 0 0 (by omega) (by omega) rfl ?_ ?_
  · intro n i x hi hx hk
    show Ok (X12_debts_4 (n + 1) x (nI i) ρ) _
    rw [X12_debts_4, show (24 : Int32) + nI i = nI (24 + i) from ni_add 24 i]
    refine ok_neg (by rw [show (36 : Int32) = nI 36 from rfl, ni_le (by omega) (by omega)]; omega) (ok_pos (ib_t (by omega) (by omega)) ?_)
    rw [ni_cl (by omega), h i hi]
    unfold X12_debts_28
    refine ok_ite (fun z => ok_bindE (truth_ok false ρ) (ok_bv (ok_bv ?_))) (fun z => ok_bindE (truth_ok true ρ) (ok_bv (ok_bv ?_)))
    · rw [ni_succ]
      refine hk _ ?_
      show x + tr false = _
      rw [hx, cnt_succ, decide_eq_false (Int32.not_lt.mpr z)]
      exact Int32.add_zero _
    · rw [ni_succ]
      refine hk _ ?_
      show x + tr true = _
      rw [hx, cnt_succ, decide_eq_true (Int32.not_le.mp z)]
      exact ni_succ _
  · intro n x hx
    show Ok (X12_debts_4 (n + 1) x (nI 36) ρ) _
    rw [X12_debts_4]
    exact ok_pos (Int32.le_refl _) (ok_some hx)
theorem s_about (a0 : Int32) : StpI Inv (X11_about a0) (X12_about a0) := by
  refine stpQ (fun σ => fr_X11_about a0 σ Fr.refl) (fun σ => fr_X12_about a0 σ Fr.refl) (by decide) (by decide) (fun σ ρ hI => ?_)
  obtain ⟨t, T, s, h1, h2, ⟨H, dn, kp, q1, q2, q3, q4, q5, q6, q7, q8, q9, q10⟩, h4, ⟨c, tm, hc, htm, e1, e2, e3, e4, h5⟩, ⟨m, hm, l1, l2, l3⟩, ⟨k, hk, t1, t2, t3⟩, h8, h9⟩ := hI
  show Eq2 _ _
  unfold X11_about X12_about
  rw [h1.2.1]
  simp only [gT_ok h1.1]
  refine eq2_ite (fun _ => eq2_some (h1.2.2.2.2.1.1.trans h1.2.2.2.2.2.2.1.1.symm)) (fun _ => ?_)
  refine eq2_ite (fun _ => eq2_some (h1.2.2.2.2.1.2.1.trans h1.2.2.2.2.2.2.1.2.1.symm)) (fun _ => ?_)
  refine eq2_ite (fun _ => eq2_some (h2.2.1.2.2.1.trans h2.2.2.2.2.1.symm)) (fun _ => ?_)
  refine eq2_ite (fun _ => eq2_some (h2.2.1.2.2.2.1.trans h2.2.2.2.2.2.1.symm)) (fun _ => ?_)
  refine eq2_ite (fun _ => eq2_some (h2.2.1.2.2.2.2.trans h2.2.2.2.2.2.2.symm)) (fun _ => ?_)
  refine eq2_ite (fun _ => eq2_some (q4.trans q6.symm)) (fun _ => ?_)
  refine eq2_ite (fun _ => eq2_some (by rw [q4, q5, ni_sub q1, q7])) (fun _ => ?_)
  refine eq2_ite (fun _ => eq2_some (e1.trans e2.symm)) (fun _ => ?_)
  refine eq2_ite (fun _ => eq2_some (e3.trans e4.symm)) (fun _ => ?_)
  refine eq2_ite (fun _ => eq2_some (t1.trans t2.symm)) (fun _ => ?_)
  refine eq2_ite (fun _ => eq2_some h1.2.2.2.2.2.2.2) (fun _ => ?_)
  refine eq2_ite (fun _ => ?_) (fun _ => ?_)
  · refine ⟨_, ok_some rfl, ok_bind (numbers_ok h1.2.2.2.1 (MN_MPg h1.2.2.2.2.2.2.1 (by omega))) (fun r hr => ok_some ?_)⟩
    show r.1 = σ.1 (t + 9) 7
    rw [hr]
    have hcn := h1.2.2.2.2.2.1
    unfold CN at hcn
    cases e : tP T 0 with
    | none =>
      rw [e] at hcn
      exact hcn.symm
    | some pr =>
      rw [e] at hcn
      exact hcn.2.1.symm
  · refine eq2_ite (fun _ => eq2_some (l1.trans l2.symm)) (fun _ => ?_)
    refine eq2_ite (fun _ => ?_) (fun _ => eq2_some rfl)
    exact ⟨_, ok_bind (debtsC_ok h2.2.1.2.1) (fun r hr => ok_some hr), ok_bind (debtsM_ok h2.2.2.2.1) (fun r hr => ok_some hr)⟩
