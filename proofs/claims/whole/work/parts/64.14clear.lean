/-! clear -/
/-- what is known of the best ring -/
def bestOk (n : Nat) (d : Nat → Nat → Nat) (a : Ac) : Prop := (a.1 = 0 ∧ a.2.1 = 0) ∨ (1 ≤ a.2.2.2.1 ∧ a.2.2.2.1 ≤ 6 ∧ a.2.1 = a.2.2.1 * a.2.2.2.1 ∧ 1 ≤ a.2.2.1 ∧ (∀ j, j < a.2.2.2.1 → a.2.2.2.2 j < n) ∧ (∀ i j, i < j → j < a.2.2.2.1 → a.2.2.2.2 i ≠ a.2.2.2.2 j) ∧ ∀ j, j < a.2.2.2.1 → a.2.2.1 ≤ d (a.2.2.2.2 j) (a.2.2.2.2 ((j + 1) % a.2.2.2.1)))
/-- a row as they are gone through -/
def pathOk (n : Nat) (d : Nat → Nat → Nat) (f : Nat → Nat) (m : Nat) : Prop := 1 ≤ m ∧ m ≤ 6 ∧ (∀ j, j < m → f j < n) ∧ (∀ i j, i < j → j < m → f i ≠ f j) ∧ ∀ j, j + 1 < m → 0 < d (f j) (f (j + 1))
theorem lstN_edge {d : Nat → Nat → Nat} {f : Nat → Nat} : ∀ {k j : Nat}, j < k → lstN d f k ≤ d (f j) (f (j + 1))
  | k + 1, j, h => by
    by_cases z : j = k
    · rw [z]
      exact Nat.min_le_right _ _
    · exact Nat.le_trans (Nat.min_le_left _ _) (lstN_edge (show j < k by omega))
theorem lstN_pos {d : Nat → Nat → Nat} {f : Nat → Nat} : ∀ {k : Nat}, (∀ j, j < k → 0 < d (f j) (f (j + 1))) → 1 ≤ lstN d f k
  | 0, _ => by show 1 ≤ 9999; omega
  | k + 1, h => by
    have h1 := lstN_pos (d := d) (f := f) (k := k) (fun j hj => h j (by omega))
    have h2 := h k (by omega)
    show 1 ≤ min (lstN d f k) (d (f k) (f (k + 1)))
    omega
theorem noteA_best {n : Nat} {d : Nat → Nat → Nat} {f : Nat → Nat} {m : Nat} {a : Ac} (hp : pathOk n d f m) (h : bestOk n d a) : bestOk n d (noteA d f m a) := by
  obtain ⟨p1, p2, p3, p4, p5⟩ := hp
  unfold noteA
  split
  · exact h
  · rename_i z
    have hl1 : 1 ≤ rlst d f m := by
      have := lstN_pos (d := d) (f := f) (k := m - 1) (fun j hj => p5 j (by omega))
      unfold rlst
      omega
    split
    · refine .inr ⟨p1, p2, rfl, hl1, p3, p4, fun j hj => ?_⟩
      have hj : j < m := hj
      show rlst d f m ≤ d (f j) (f ((j + 1) % m))
      by_cases w : j + 1 = m
      · rw [w, Nat.mod_self, show j = m - 1 by omega]
        exact Nat.min_le_right _ _
      · rw [Nat.mod_eq_of_lt (by omega)]
        exact Nat.le_trans (Nat.min_le_left _ _) (lstN_edge (by omega))
    · rename_i w
      rcases h with h | h
      · exfalso
        rw [h.2] at w
        exact w (Nat.mul_pos hl1 p1)
      · exact .inr h
theorem inR_false {f : Nat → Nat} {x : Nat} : ∀ {m : Nat}, inR f x m = false → ∀ j, j < m → f j ≠ x
  | m + 1, h, j, hj => by
    unfold inR at h
    rw [Bool.or_eq_false_iff] at h
    by_cases z : j = m
    · rw [z]
      simpa using h.2
    · exact inR_false h.1 j (by omega)
theorem pathOk_step {n : Nat} {d : Nat → Nat → Nat} {f : Nat → Nat} {m i : Nat} (hm : m < 6) (hp : pathOk n d f m) (hi : i < n) (hok : okX d f m i = true) : pathOk n d (updN f m i) (m + 1) := by
  obtain ⟨p1, p2, p3, p4, p5⟩ := hp
  unfold okX at hok
  simp only [Bool.and_eq_true, decide_eq_true_eq, Bool.not_eq_true'] at hok
  have hne := inR_false hok.2
  refine ⟨by omega, by omega, fun j hj => ?_, fun x y hxy hy => ?_, fun j hj => ?_⟩
  · unfold updN
    by_cases z : j = m
    · rw [if_pos z]
      exact hi
    · rw [if_neg z]
      exact p3 j (by omega)
  · unfold updN
    rw [if_neg (by omega)]
    by_cases z : y = m
    · rw [if_pos z]
      exact hne x (by omega)
    · rw [if_neg z]
      exact p4 x y hxy (by omega)
  · unfold updN
    rw [if_neg (by omega)]
    by_cases z : j + 1 = m
    · rw [if_pos z, show j = m - 1 by omega]
      exact hok.1.2
    · rw [if_neg z]
      exact p5 j (by omega)
theorem vis_best {n : Nat} {d : Nat → Nat → Nat} : ∀ (k : Nat) {f : Nat → Nat} {m : Nat} {a : Ac}, k + m = 6 → pathOk n d f m → bestOk n d a → bestOk n d (vis n d k f m a)
  | 0, f, m, a, _, hp, h => noteA_best hp h
  | k + 1, f, m, a, hk, hp, h => by
    show bestOk n d (kids d (fun i a => vis n d k (updN f m i) (m + 1) a) f m n 0 (noteA d f m a))
    have key : ∀ (r i : Nat) (b : Ac), i + r = n → bestOk n d b → bestOk n d (kids d (fun i a => vis n d k (updN f m i) (m + 1) a) f m r i b) := by
      intro r
      induction r with
      | zero => intro i b _ hb; exact hb
      | succ r ih =>
        intro i b hi hb
        show bestOk n d (kids d _ f m r (i + 1) (if okX d f m i = true then vis n d k (updN f m i) (m + 1) b else b))
        refine ih (i + 1) _ (by omega) ?_
        split
        · rename_i hok
          exact vis_best k (by omega) (pathOk_step (by omega) hp (by omega) hok) hb
        · exact hb
    exact key n 0 _ (by omega) (noteA_best hp h)
theorem ringsF_best {n : Nat} {d : Nat → Nat → Nat} : ∀ i, i ≤ n → bestOk n d (ringsF n d i)
  | 0, _ => .inl ⟨rfl, rfl⟩
  | i + 1, h => vis_best 5 (by omega) ⟨by omega, by omega, fun _ _ => (show i < n by omega), fun _ _ h1 h2 => by omega, fun _ h => by omega⟩ (ringsF_best i (by omega))
/-- the debts with the best ring taken off -/
def eE (b : Nat → Nat) (m j : Nat) : Nat := 6 * b j + b ((j + 1) % m)
def takF (D : Nat → Int32) (b : Nat → Nat) (l m : Nat) : Nat → (Nat → Int32)
  | 0 => D
  | j + 1 => upd (takF D b l m j) (eE b m j) (takF D b l m j (eE b m j) - nI l)
theorem takF_at {D : Nat → Int32} {b : Nat → Nat} {l m : Nat} (hinj : ∀ i j, i < j → j < m → eE b m i ≠ eE b m j) : ∀ j, j ≤ m → ∀ k, takF D b l m j k = if inR (eE b m) k j = true then D k - nI l else D k
  | 0, _, k => rfl
  | j + 1, h, k => by
    have ih := takF_at (D := D) (l := l) hinj j (by omega)
    have hnot : inR (eE b m) (eE b m j) j = false := by
      have : ∀ q, q ≤ j → inR (eE b m) (eE b m j) q = false := by
        intro q
        induction q with
        | zero => intro _; rfl
        | succ q ihq =>
          intro hq
          unfold inR
          rw [ihq (by omega), decide_eq_false (hinj q j (by omega) (by omega))]
          rfl
      exact this j (Nat.le_refl _)
    show upd (takF D b l m j) (eE b m j) (takF D b l m j (eE b m j) - nI l) k = _
    unfold upd
    by_cases z : k = eE b m j
    · rw [if_pos z, ih, hnot, if_neg Bool.false_ne_true, z]
      have : inR (eE b m) (eE b m j) (j + 1) = true := by
        unfold inR
        rw [decide_eq_true rfl, Bool.or_true]
      rw [this, if_pos rfl]
    · rw [if_neg z, ih]
      have : inR (eE b m) k (j + 1) = inR (eE b m) k j := by
        show (inR (eE b m) k j || decide (eE b m j = k)) = _
        rw [decide_eq_false (fun g => z g.symm), Bool.or_false]
      rw [this]
theorem inR_ex {f : Nat → Nat} {x : Nat} : ∀ {m : Nat}, inR f x m = true → ∃ j, j < m ∧ f j = x
  | m + 1, h => by
    unfold inR at h
    rw [Bool.or_eq_true] at h
    rcases h with h | h
    · obtain ⟨j, hj, e⟩ := inR_ex h
      exact ⟨j, by omega, e⟩
    · exact ⟨m, by omega, by simpa using h⟩
theorem mulm_div {l m : Nat} (hl : l ≤ 9999) (hm1 : 1 ≤ m) (hm : m ≤ 6) : nI (l * m) / nI m = nI l := by
  have h6 := mul6 hl hm
  apply Int32.toInt_inj.mp
  rw [Int32.toInt_div, toInt_nI (by omega), toInt_nI (by omega), toInt_nI (by omega)]
  have : ((l * m : Nat) : Int).tdiv (m : Int) = (l : Int) := by
    rw [Int.natCast_mul, Int.mul_tdiv_cancel _ (by omega)]
  rw [this]
  exact Int.bmod_eq_of_le (by omega) (by omega)
theorem s_clear : StpI Inv X11_clear X12_clear := by
  refine stp (fun σ => fr_X11_clear σ Fr.refl) (fun σ => fr_X12_clear σ Fr.refl) (by decide) (by decide) (fun σ ρ hI => ?_)
  have hI0 := hI
  obtain ⟨t, T, s, h1, h2, h3, h4, h5, h6, h7, h8, h9⟩ := hI
  have hT := h1.2.2.2.1
  have hn := hT.1
  have hD := okS_D h2.1.1
  obtain ⟨σ1, eF, cA⟩ := findC_ok hT hD h2.2.1.2.1
  have f1 : Fr [112, 113] [(111, 1), (111, 3), (111, 4), (111, 5)] σ σ1 := fr_X6_find 36 36 _ _ Fr.refl _ eF
  obtain ⟨ρ1, eL, mA⟩ := layRings_ok hT hD ⟨h1.2.2.2.2.2.2.1.1, h2.2.2.2.1⟩
  have g1 : Fr [1043, 1044] [(1000, 78), (1000, 79), (1000, 80)] ρ ρ1 := fr_X12_layRings _ Fr.refl _ eL
  have hbest := ringsF_best (n := tN T) (d := dN s) (tN T) (Nat.le_refl _)
  generalize ringsF (tN T) (dN s) (tN T) = A at *
  have hC0 : X11_clear σ = if nI A.1 = 0 then some (-1, σ1) else (X6_takeBestFrom 36 36 σ1).bind fun σ3 => (X3_add 31 σ3).bind fun σ4 => some (σ4.1 111 4, σ4) := by
    unfold X11_clear
    rw [h1.2.1, gT_ok h1.1, h1.2.2.2.2.1.1, eF, Option.bind_some, cA.2.1]
  have hM0 : X12_clear ρ = if nI A.1 = 0 then some (-1, ρ1) else (X12_act ρ1).bind fun σ2 => if σ2.1 1000 80 = 0 then none else X12_clear_29 fu (σ2.1 1000 79 / σ2.1 1000 80) 0 σ2 := by
    unfold X12_clear
    rw [eL, Option.bind_some, mA.2.1]
    rfl
  by_cases z : nI A.1 = 0
  · refine ⟨-1, σ1, ρ1, by rw [hC0, if_pos z], by rw [hM0, if_pos z], hI0.keep f1 g1 (by decide) (by decide)⟩
  · rw [if_neg z] at hC0 hM0
    obtain ⟨b1, b6, b2, b3, b4, b5, b7⟩ : 1 ≤ A.2.2.2.1 ∧ A.2.2.2.1 ≤ 6 ∧ A.2.1 = A.2.2.1 * A.2.2.2.1 ∧ 1 ≤ A.2.2.1 ∧ (∀ j, j < A.2.2.2.1 → A.2.2.2.2 j < tN T) ∧ (∀ i j, i < j → j < A.2.2.2.1 → A.2.2.2.2 i ≠ A.2.2.2.2 j) ∧ ∀ j, j < A.2.2.2.1 → A.2.2.1 ≤ dN s (A.2.2.2.2 j) (A.2.2.2.2 ((j + 1) % A.2.2.2.1)) := by
      rcases hbest with h | h
      · rw [h.1] at z
        exact absurd rfl z
      · exact h
    obtain ⟨cn, frs, l, m, b⟩ := A
    have b1 : 1 ≤ m := b1
    have b6 : m ≤ 6 := b6
    have b2 : frs = l * m := b2
    have b3 : 1 ≤ l := b3
    have b4 : ∀ j, j < m → b j < tN T := b4
    have b5 : ∀ i j, i < j → j < m → b i ≠ b j := b5
    have b7 : ∀ j, j < m → l ≤ dN s (b j) (b ((j + 1) % m)) := b7
    have hl9 : l ≤ 9999 := cA.1.2.1
    have hmod : ∀ j, (j + 1) % m < m := fun j => Nat.mod_lt _ (by omega)
    have hb6 : ∀ j, j < m → b j < 6 := fun j hj => by have := b4 j hj; omega
    have hinj : ∀ i j, i < j → j < m → eE b m i ≠ eE b m j := by
      intro i j hij hj e
      unfold eE at e
      have q1 := hb6 _ (hmod i)
      have q2 := hb6 _ (hmod j)
      exact b5 i j hij hj (by omega)
    have hD' : okD (tN T) (takF (s 5) b l m m) := by
      intro i j hi hj
      rw [takF_at hinj m (Nat.le_refl _)]
      have hh := hD i j hi hj
      by_cases w : inR (eE b m) (6 * i + j) m = true
      · obtain ⟨q, hq, eq⟩ := inR_ex w
        unfold eE at eq
        have q1 := hb6 _ hq
        have q2 := hb6 _ (hmod q)
        have e1 : b q = i := by omega
        have e2 : b ((q + 1) % m) = j := by omega
        have hle := b7 q hq
        rw [e1, e2] at hle
        have hd := dN_eq (T := T) hD hi hj
        rw [w, if_pos rfl, hd.1, ni_sub hle]
        refine ⟨⟨_, by omega, rfl⟩, fun v => ?_⟩
        have := hh.2 v
        rw [hd.1, show (0 : Int32) = nI 0 from rfl, ni_inj (by omega) (by omega)] at this
        omega
      · rw [if_neg w]
        exact hh
    -- the class takes the best ring off
    have hT1 : Ok (X6_takeBestFrom 36 36 σ1) (fun σ2 => ∀ k, k < 36 → σ2.1 36 k = takF (s 5) b l m m k) := by
      unfold X6_takeBestFrom
      refine ok_bv ?_
      refine ok_loop0 (F := fun n i σ => X6_takeBestFrom_2 36 36 n i σ) (N := m) (I := fun i σ2 => Fr [36] [] σ1 σ2 ∧ ∀ k, k < 36 → σ2.1 36 k = takF (s 5) b l m i k) 0 σ1 (by omega) (by omega) ⟨Fr.refl, fun k hk => by rw [(f1.off (A := [36]) (B := []) (by decide)).1 36 (by decide)]; exact h2.2.1.2.1 k hk⟩ ?_ ?_
      · rintro n i σ2 hi ⟨hf, hI⟩ hk
        have e3 : σ2.1 111 3 = nI m := by rw [hf.ne (by decide)]; exact cA.2.2.2.2.1
        have e1 : σ2.1 111 1 = nI l := by rw [hf.ne (by decide)]; exact cA.2.2.2.1
        have eb : ∀ j, j < m → σ2.1 113 j = nI (b j) := fun j hj => by rw [hf.ne (by decide)]; exact cA.2.2.2.2.2 j hj
        have h37 : Ok (X6_takeBestFrom_37 36 36 (X6_takeBestFrom_2 36 36 n) (nI i) (nI (b ((i + 1) % m))) σ2) (fun σ2 => ∀ k, k < 36 → σ2.1 36 k = takF (s 5) b l m m k) := by
          have q1 := hb6 _ hi
          have q2 := hb6 _ (hmod i)
          unfold X6_takeBestFrom_37
          refine ok_pos (ib_t (by omega) (by omega)) ?_
          rw [ni_cl (by omega), eb i hi]
          refine ok_bindE (cell_ok σ2) (ok_pos (ib_t (by omega) (by omega)) (ok_pos (ib_t (by omega) (by omega)) (ok_bv (ok_bv ?_))))
          show Ok (X6_takeBestFrom_2 36 36 n (nI i + 1) (sI σ2 36 (nI (6 * b i + b ((i + 1) % m))).toNatClampNeg (σ2.1 36 (nI (6 * b i + b ((i + 1) % m))).toNatClampNeg - σ2.1 111 1))) _
          rw [ni_cl (by omega), ni_succ, e1, hI _ (by omega)]
          refine hk _ ⟨frI hf (.head _), fun k hk => ?_⟩
          rw [sI_o, hI k hk]
          rfl
        show Ok (X6_takeBestFrom_2 36 36 (n + 1) (nI i) σ2) _
        rw [X6_takeBestFrom_2, e3, ni_succ]
        refine ok_neg (by rw [ni_le (by omega) (by omega)]; omega) ?_
        refine ok_ite (fun w => ?_) (fun w => ?_)
        · rw [ni_le (by omega) (by omega)] at w
          rw [eb 0 (by omega)]
          rw [show (i + 1) % m = 0 by rw [show i + 1 = m by omega, Nat.mod_self]] at h37
          exact h37
        · rw [ni_le (by omega) (by omega)] at w
          refine ok_pos (ib_t (by omega) (by omega)) ?_
          rw [ni_cl (by omega), eb (i + 1) (by omega)]
          rw [Nat.mod_eq_of_lt (show i + 1 < m by omega)] at h37
          exact h37
      · rintro n σ2 ⟨hf, hI⟩
        have e3 : σ2.1 111 3 = nI m := by rw [hf.ne (by decide)]; exact cA.2.2.2.2.1
        show Ok (X6_takeBestFrom_2 36 36 (n + 1) (nI m) σ2) _
        rw [X6_takeBestFrom_2, e3]
        exact ok_pos (Int32.le_refl _) (ok_some hI)
    obtain ⟨σ2, eT, hdeb⟩ := hT1
    have fT : Fr [36] [] σ1 σ2 := fr_X6_takeBestFrom 36 36 _ Fr.refl _ eT
    obtain ⟨σ3, ρ2, e1, e2, e28, fA, fB, hR⟩ := debt_act (h1.keep f1 g1 (by decide) (by decide)) (h2.keep f1 g1 (by decide) (by decide)) (h3.keep f1 g1 (by decide) (by decide)) (h4.keep f1 g1 (by decide) (by decide)) (h5.keep f1 g1 (by decide) (by decide)) (h6.keep f1 g1 (by decide) (by decide)) (h7.keep f1 g1 (by decide) (by decide)) (h8.keep f1 g1 (by decide) (by decide)) (h9.keep f1 g1 (by decide) (by decide)) fT hdeb hD'
    have oB := fB.off (A := [1044, 1028]) (B := [(1000, 79), (1000, 80)]) (by decide)
    have e79 : ρ2.1 1000 79 = nI (l * m) := by rw [oB.2 _ _ (by decide), show ρ1.1 1000 79 = nI frs from mA.2.2.1, b2]
    have e80 : ρ2.1 1000 80 = nI m := by rw [oB.2 _ _ (by decide)]; exact mA.2.2.2.1
    -- the reference takes it off
    have hT2 : Ok (X12_clear_29 fu (nI l) 0 ρ2) (fun r => r.1 = nI (l * m) ∧ Fr [1028] [] ρ2 r.2 ∧ (∀ k, k < 36 → r.2.1 1028 (24 + k) = takF (s 5) b l m m k) ∧ ∀ j, j < 24 ∨ 60 ≤ j → r.2.1 1028 j = ρ2.1 1028 j) := by
      refine ok_loop0 (F := fun n i ρ => X12_clear_29 n (nI l) i ρ) (N := m) (I := fun i ρ3 => Fr [1028] [] ρ2 ρ3 ∧ (∀ k, k < 36 → ρ3.1 1028 (24 + k) = takF (s 5) b l m i k) ∧ ∀ j, j < 24 ∨ 60 ≤ j → ρ3.1 1028 j = ρ2.1 1028 j) 0 ρ2 (by omega) (by omega) ⟨Fr.refl, fun k hk => ?_, fun _ _ => rfl⟩ ?_ ?_
      · rw [e28, (g1.off (A := [1028]) (B := []) (by decide)).1 1028 (by decide)]
        exact h2.2.2.2.1 k hk
      · rintro n i ρ3 hi ⟨hf, hI, hJ⟩ hk
        have q1 := hb6 _ hi
        have q2 := hb6 _ (hmod i)
        have hmi := hmod i
        have g80 : ρ3.1 1000 80 = nI m := by rw [hf.ne (by decide)]; exact e80
        have eb : ∀ j, j < m → ρ3.1 1044 j = nI (b j) := fun j hj => by rw [hf.ne (by decide), oB.1 1044 (by decide)]; exact mA.2.2.2.2 j hj
        show Ok (X12_clear_29 (n + 1) (nI l) (nI i) ρ3) _
        rw [X12_clear_29, g80, ni_succ, mod_m b6 hi]
        refine ok_neg (by rw [ni_le (by omega) (by omega)]; omega) (ok_pos (ib_t (by omega) (by omega)) (ok_neg (by rw [show (0 : Int32) = nI 0 from rfl, ni_inj (by omega) (by omega)]; omega) (ok_pos (ib_t (by omega) (by omega)) (ok_bv ?_))))
        rw [ni_cl (by omega), ni_cl (by omega), eb i hi, eb _ hmi, cellN]
        refine ok_pos (ib_t (by omega) (by omega)) (ok_pos (ib_t (by omega) (by omega)) (ok_bv (ok_bv ?_)))
        rw [ni_cl (by omega), hI _ (by omega)]
        refine hk _ ⟨frI hf (.head _), fun k hk => ?_, fun j hj => ?_⟩
        · rw [sI_o, hI k hk]
          show _ = upd (takF (s 5) b l m i) (eE b m i) (takF (s 5) b l m i (eE b m i) - nI l) k
          unfold upd eE
          by_cases w : k = 6 * b i + b ((i + 1) % m)
          · rw [if_pos (by omega), if_pos w]
          · rw [if_neg (by omega), if_neg w]
        · rw [sI_k (by omega)]
          exact hJ j hj
      · rintro n ρ3 ⟨hf, hI, hJ⟩
        have g80 : ρ3.1 1000 80 = nI m := by rw [hf.ne (by decide)]; exact e80
        show Ok (X12_clear_29 (n + 1) (nI l) (nI m) ρ3) _
        rw [X12_clear_29, g80]
        refine ok_pos (Int32.le_refl _) (ok_some ⟨?_, hf, hI, hJ⟩)
        show ρ3.1 1000 79 = _
        rw [hf.ne (by decide)]
        exact e79
    obtain ⟨⟨r, ρ3⟩, eC29, r1, r2, r3, r4⟩ := hT2
    have r1 : r = nI (l * m) := r1
    subst r1
    refine ⟨nI (l * m), σ3, ρ3, ?_, ?_, hR ρ3 r2 r3 r4⟩
    · rw [hC0, eT, Option.bind_some, e1, Option.bind_some, (fA.off (A := [111]) (B := []) (by decide)).1 111 (by decide), fT.ne (a := 111) (by decide), show σ1.1 111 4 = nI frs from cA.2.2.1, b2]
    · rw [hM0, e2, Option.bind_some, e79, e80, if_neg (by rw [show (0 : Int32) = nI 0 from rfl, ni_inj (by omega) (by omega)]; omega), mulm_div hl9 b1 b6]
      exact eC29
