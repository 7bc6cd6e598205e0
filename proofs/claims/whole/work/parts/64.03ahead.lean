/-! looking ahead: the copies, hours in a row -/
theorem loadA (ρ : Mem) : Ok (X12_load ρ) (fun ρ' => (∀ p, p < 6 → ρ'.1 1029 p = ρ.1 1028 p ∧ ρ'.1 1030 p = ρ.1 1028 (6 + p) ∧ ρ'.1 1031 p = ρ.1 1028 (12 + p) ∧ ρ'.1 1032 p = ρ.1 1028 (18 + p) ∧ ρ'.1 1034 p = ρ.1 1021 p) ∧ (∀ k, k < 36 → ρ'.1 1033 k = ρ.1 1028 (24 + k)) ∧ ρ'.1 1000 62 = ρ.1 1028 60 ∧ ρ'.1 1000 63 = ρ.1 1028 61) := by
  unfold X12_load
  refine ok_bv ?_
  refine ok_loop0 (F := fun n i ρ => X12_load_2 n i ρ) (N := 6) (I := fun i ρ' => Fr [1029, 1030, 1031, 1032, 1034] [] ρ ρ' ∧ ∀ p, p < i → ρ'.1 1029 p = ρ.1 1028 p ∧ ρ'.1 1030 p = ρ.1 1028 (6 + p) ∧ ρ'.1 1031 p = ρ.1 1028 (12 + p) ∧ ρ'.1 1032 p = ρ.1 1028 (18 + p) ∧ ρ'.1 1034 p = ρ.1 1021 p) 0 ρ (by omega) (by omega) ⟨Fr.refl, fun p hp => by omega⟩ ?_ ?_
  · rintro n i ρ' hi ⟨hf, hI⟩ hk
    have g := hf.off (A := [1028, 1021]) (B := []) (by decide)
    have e28 := g.1 1028 (by decide)
    have e21 := g.1 1021 (by decide)
    have bi := ib_t (n := i) (k := 6) (by omega) (by omega)
    have ci := ni_cl (n := i) (by omega)
    have ka : ∀ k, k + i < 64 → ib (nI k + nI i) 64 = true ∧ (nI k + nI i).toNatClampNeg = k + i := fun k hk => by rw [ni_add]; exact ⟨ib_t hk (by omega), ni_cl (by omega)⟩
    have k0 := ka 0 (by omega)
    have k6 := ka 6 (by omega)
    have k12 := ka 12 (by omega)
    have k18 := ka 18 (by omega)
    show Ok (X12_load_2 (n + 1) (nI i) ρ') _
    rw [X12_load_2]
    refine ok_neg (by rw [show (6 : Int32) = nI 6 from rfl, ni_le (by omega) (by omega)]; omega) ?_
    refine ok_pos k0.1 (ok_pos bi (ok_bv (ok_pos k6.1 (ok_pos bi (ok_bv (ok_pos k12.1 (ok_pos bi (ok_bv (ok_pos k18.1 (ok_pos bi (ok_bv (ok_pos bi (ok_pos bi (ok_bv (ok_bv ?_)))))))))))))))
    rw [ni_succ, show ((0 : Int32) + nI i).toNatClampNeg = 0 + i from k0.2, show ((6 : Int32) + nI i).toNatClampNeg = 6 + i from k6.2, show ((12 : Int32) + nI i).toNatClampNeg = 12 + i from k12.2, show ((18 : Int32) + nI i).toNatClampNeg = 18 + i from k18.2, ci]
    simp only [sI_n (show (1028 : Nat) ≠ 1029 by decide), sI_n (show (1028 : Nat) ≠ 1030 by decide), sI_n (show (1028 : Nat) ≠ 1031 by decide), sI_n (show (1021 : Nat) ≠ 1029 by decide), sI_n (show (1021 : Nat) ≠ 1030 by decide), sI_n (show (1021 : Nat) ≠ 1031 by decide), sI_n (show (1021 : Nat) ≠ 1032 by decide), e28, e21, Nat.zero_add]
    refine hk _ ⟨frI (frI (frI (frI (frI hf (by decide)) (by decide)) (by decide)) (by decide)) (by decide), fun p hp => ?_⟩
    simp only [sI_r]
    by_cases z : p = i
    · subst z
      simp
    · simp [z]
      have := hI p (by omega)
      exact this
  · rintro n ρ1 ⟨f1, hI⟩
    show Ok (X12_load_2 (n + 1) (nI 6) ρ1) _
    rw [X12_load_2]
    refine ok_pos (Int32.le_refl _) (ok_bv ?_)
    refine ok_loop0 (F := fun n i ρ => X12_load_87 n i ρ) (N := 36) (I := fun i ρ' => Fr [1033] [] ρ1 ρ' ∧ ∀ k, k < i → ρ'.1 1033 k = ρ.1 1028 (24 + k)) 0 ρ1 (by omega) (by omega) ⟨Fr.refl, fun p hp => by omega⟩ ?_ ?_
    · rintro n i ρ' hi ⟨hf, hJ⟩ hk
      have e28 : ρ'.1 1028 = ρ.1 1028 := by rw [hf.ne (by decide), f1.ne (by decide)]
      have bi := ib_t (n := i) (k := 36) (by omega) (by omega)
      have ci := ni_cl (n := i) (by omega)
      have b24 : ib ((24 : Int32) + nI i) 64 = true := by rw [show (24 : Int32) + nI i = nI (24 + i) from ni_add 24 i]; exact ib_t (by omega) (by omega)
      have c24 : ((24 : Int32) + nI i).toNatClampNeg = 24 + i := by rw [show (24 : Int32) + nI i = nI (24 + i) from ni_add 24 i]; exact ni_cl (by omega)
      show Ok (X12_load_87 (n + 1) (nI i) ρ') _
      rw [X12_load_87]
      refine ok_neg (by rw [show (36 : Int32) = nI 36 from rfl, ni_le (by omega) (by omega)]; omega) (ok_pos b24 (ok_pos bi (ok_bv (ok_bv ?_))))
      rw [ni_succ, c24, ci, e28]
      refine hk _ ⟨frI hf (.head _), fun k hk => ?_⟩
      rw [sI_o]
      by_cases z : k = i
      · rw [if_pos z, z]
      · rw [if_neg z]
        exact hJ k (by omega)
    · rintro n ρ2 ⟨f2, hJ⟩
      have e28 : ρ2.1 1028 = ρ.1 1028 := by rw [f2.ne (by decide), f1.ne (by decide)]
      show Ok (X12_load_87 (n + 1) (nI 36) ρ2) _
      rw [X12_load_87]
      refine ok_pos (Int32.le_refl _) (ok_bv (ok_bv (ok_some ⟨fun p hp => ?_, fun k hk => ?_, ?_, ?_⟩)))
      · simp only [sI_n (show (1029 : Nat) ≠ 1000 by decide), sI_n (show (1030 : Nat) ≠ 1000 by decide), sI_n (show (1031 : Nat) ≠ 1000 by decide), sI_n (show (1032 : Nat) ≠ 1000 by decide), sI_n (show (1034 : Nat) ≠ 1000 by decide)]
        rw [f2.ne (a := 1029) (by decide), f2.ne (a := 1030) (by decide), f2.ne (a := 1031) (by decide), f2.ne (a := 1032) (by decide), f2.ne (a := 1034) (by decide)]
        exact hI p hp
      · rw [sI_n (by decide), sI_n (by decide)]
        exact hJ k hk
      · rw [sI_k (by decide), sI_e, e28]
      · rw [sI_e, sI_n (by decide), e28]
theorem load_ok {T : Tn} {s : St} {ρ : Mem} (hT : okT T) (h : MN T ρ) (hs : rowR (tN T) s (ρ.1 1028)) : Ok (X12_load ρ) (fun ρ' => MT T ρ' ∧ MW T s ρ') := by
  have hn := hT.1
  refine ok_mono (ok_fr (loadA ρ) (fr_X12_load ρ Fr.refl)) ?_
  rintro ρ' ⟨⟨h1, h2, h3, h4⟩, f⟩
  have f : Fr L_X12_load K_X12_load ρ ρ' := f
  have g := f.off (A := [1006, 1007, 1008, 1020, 1021, 1022, 1023, 1024, 1025]) (B := MTb) (by decide)
  refine ⟨⟨(g.2 _ _ (by decide)).trans h.1, (g.2 _ _ (by decide)).trans h.2.1, fun p hp => ?_, ?_, ?_, ?_⟩, ⟨fun p hp => ?_, fun k hk => ?_, ?_, ?_⟩⟩
  · have hp6 := h1 p (by omega)
    have hm := h.2.2.1 p hp
    rw [g.1 1020 (by decide), g.1 1021 (by decide), g.1 1022 (by decide), g.1 1023 (by decide), g.1 1024 (by decide), g.1 1025 (by decide), hp6.2.2.2.2]
    refine ⟨hm.1, hm.2.1, ?_, hm.2.2.2⟩
    rw [Int32.add_comm, Int32.add_sub_cancel]
    exact hm.2.2.1
  · exact h.2.2.2.1.keep (g.1 _ (by decide)) (g.1 _ (by decide)) (g.1 _ (by decide)) (g.2 _ _ (by decide))
  · exact h.2.2.2.2.1.keep (g.1 _ (by decide)) (g.1 _ (by decide)) (g.1 _ (by decide)) (g.2 _ _ (by decide))
  · exact h.2.2.2.2.2.keep (g.1 _ (by decide)) (g.1 _ (by decide)) (g.1 _ (by decide)) (g.2 _ _ (by decide))
  · have hp6 := h1 p (by omega)
    have hr := hs.1 p hp
    rw [hp6.1, hp6.2.1, hp6.2.2.1, hp6.2.2.2.1]
    exact hr
  · rw [h2 k hk]
    exact hs.2.1 k hk
  · rw [h3]
    exact hs.2.2.1
  · rw [h4]
    exact hs.2.2.2.1
theorem hoursF_succ' (T : Tn) : ∀ (n : Nat) (s : St), hoursF T (n + 1) s = hoursF T n (hourF T s)
  | 0, _ => rfl
  | n + 1, s => by
    show hourF T (hoursF T (n + 1) s) = hourF T (hoursF T n (hourF T s))
    rw [hoursF_succ' T n s]
theorem hourF_pastI {T : Tn} {s : St} (h : okS T s) : (hourF T s 0 7).toInt = (s 0 7).toInt + 1 := by
  have h4 := h.2.2.2
  rw [hourF_past, toInt_add_of (by have : (1 : Int32).toInt = 1 := rfl; omega) (by have : (1 : Int32).toInt = 1 := rfl; omega)]
  rfl
theorem hoursF_pastI {T : Tn} {s : St} (h : okS T s) {n : Nat} (hn : n < 10000) : (hoursF T n s 0 7).toInt = (s 0 7).toInt + n := by
  have h4 := h.2.2.2
  have h5 : (nI n).toInt = n := toInt_nI (by omega)
  rw [hoursF_past, toInt_add_of (by omega) (by omega), h5]
theorem goHours_ok {T : Tn} {s : St} {ρ : Mem} {k : Nat} (hT : okT T) (hS : okS T s) (hk : (s 0 7).toInt + k ≤ 3000) (hM : MT T ρ) (h : MW T s ρ) : Ok (X12_goHours (nI k) ρ) (fun ρ' => MT T ρ' ∧ MW T (hoursF T k s) ρ') := by
  have h4 := hS.2.2.2
  unfold X12_goHours
  refine ok_bv ?_
  refine ok_loop0 (F := fun n i ρ => X12_goHours_2 n (nI k) i ρ) (N := k) (I := fun i ρ' => MT T ρ' ∧ MW T (hoursF T i s) ρ') 0 ρ (by omega) (by omega) ⟨hM, h⟩ ?_ ?_
  · rintro n i ρ' hi ⟨h1, h2⟩ hk'
    show Ok (X12_goHours_2 (n + 1) (nI k) (nI i) ρ') _
    rw [X12_goHours_2]
    refine ok_neg (by rw [ni_le (by omega) (by omega)]; omega) ?_
    refine ok_bind (goHour_ok hT (okS_hours hT hS i (by omega)) h1 h2) ?_
    rintro ρ2 ⟨a1, a2, -, -⟩
    refine ok_bv ?_
    rw [ni_succ]
    exact hk' ρ2 ⟨a1, a2⟩
  · rintro n ρ' hI
    show Ok (X12_goHours_2 (n + 1) (nI k) (nI k) ρ') _
    rw [X12_goHours_2]
    exact ok_pos (Int32.le_refl _) (ok_some hI)
/-! the class's copies -/
theorem copy_ok {T : Tn} {s : St} {σ : Mem} {a b : Nat} (hT : okT T) (hab : a + 5 < b ∨ b + 5 < a) (h : CS T s σ b) : Ok (X7_copy a b σ) (fun σ' => CS T s σ' a) := by
  have hn := hT.1
  unfold X7_copy
  refine ok_pos (by decide) (ok_bv (ok_pos (by decide) (ok_bv (ok_pos (by decide) (ok_bv (ok_pos (by decide) (ok_bv (ok_pos (by decide) (ok_bv (ok_bv (ok_bv (ok_bv (ok_some ?_)))))))))))))
  rw [show (0 : Int32).toNatClampNeg = 0 by decide, show (6 : Int32).toNatClampNeg = 6 by decide, show (36 : Int32).toNatClampNeg = 36 by decide]
  refine ⟨fun p hp => ⟨?_, ?_, ?_, ?_⟩, fun k hk => ?_, ?_, ?_, ?_⟩
  · rw [sI_n (by omega), sI_n (by omega), sI_n (by omega), sC_n (by omega), sC_n (by omega), sC_n (by omega), sC_n (by omega), sC_o, if_pos (by omega), Nat.zero_add, Nat.sub_zero]
    exact (h.1 p hp).1
  · rw [sI_n (by omega), sI_n (by omega), sI_n (by omega), sC_n (by omega), sC_n (by omega), sC_n (by omega), sC_o, if_pos (by omega), Nat.zero_add, Nat.sub_zero, sC_n (by omega)]
    exact (h.1 p hp).2.1
  · rw [sI_n (by omega), sI_n (by omega), sI_n (by omega), sC_n (by omega), sC_n (by omega), sC_o, if_pos (by omega), Nat.zero_add, Nat.sub_zero, sC_n (by omega), sC_n (by omega)]
    exact (h.1 p hp).2.2.1
  · rw [sI_n (by omega), sI_n (by omega), sI_n (by omega), sC_n (by omega), sC_o, if_pos (by omega), Nat.zero_add, Nat.sub_zero, sC_n (by omega), sC_n (by omega), sC_n (by omega)]
    exact (h.1 p hp).2.2.2
  · rw [sI_n (by omega), sI_n (by omega), sI_n (by omega), sC_o, if_pos (by omega), Nat.zero_add, Nat.sub_zero, sC_n (by omega), sC_n (by omega), sC_n (by omega), sC_n (by omega)]
    exact h.2.1 k hk
  · rw [sI_k (by decide), sI_k (by decide), sI_e, sC_n (by omega), sC_n (by omega), sC_n (by omega), sC_n (by omega), sC_n (by omega)]
    exact h.2.2.1
  · rw [sI_k (by decide), sI_e, sI_n (by omega), sC_n (by omega), sC_n (by omega), sC_n (by omega), sC_n (by omega), sC_n (by omega)]
    exact h.2.2.2.1
  · rw [sI_e, sI_n (by omega), sI_n (by omega), sC_n (by omega), sC_n (by omega), sC_n (by omega), sC_n (by omega), sC_n (by omega)]
    exact h.2.2.2.2
theorem CT.copy {T : Tn} {t a b : Nat} {σ σ' : Mem} (h : CT T t σ) (ht : t = 7 ∨ t = 124) (ha : 30 < a ∧ a < 106) (f : Fr (L_X7_copy a b) (K_X7_copy a b) σ σ') : CT T t σ' :=
  h.keep (fun c h1 h2 _ _ _ => by funext j; exact f.1 c j (by simp [L_X7_copy]; omega) (by simp [K_X7_copy]; omega))
theorem sep44 {t : Nat} (ht : t = 7 ∨ t = 124) : sep 44 t 48 := by unfold sep; omega
theorem look_ok {T : Tn} {s : St} {σ : Mem} {t u k : Nat} (hT : okT T) (hS : okS T s) (ht : t = 7 ∨ t = 124) (hu : u + 5 < 48) (hk : (s 0 7).toInt + k ≤ 3000) (h : CT T t σ) (hc : CS T s σ u) :
    Ok (X1_lookAhead t u (nI k) σ) (fun σ' => CT T t σ' ∧ CS T (hoursF T k s) σ' 48 ∧ ∀ j, k = j + 1 → ∀ p, p < tN T → σ'.1 47 p = paidF T (hoursF T j s) p) := by
  have h4 := hS.2.2.2
  unfold X1_lookAhead
  refine ok_bind (ok_fr (copy_ok (a := 48) (b := u) hT (by omega) hc) (fr_X7_copy _ _ _ Fr.refl)) ?_
  rintro σ1 ⟨h1, f1⟩
  have hT1 : CT T t σ1 := h.copy ht (by omega) f1
  refine ok_bv ?_
  refine ok_loop0 (F := fun n i σ => X1_lookAhead_11 t u n (nI k) i σ) (N := k) (I := fun i σ' => CT T t σ' ∧ CS T (hoursF T i s) σ' 48 ∧ ∀ j, i = j + 1 → ∀ p, p < tN T → σ'.1 47 p = paidF T (hoursF T j s) p) 0 σ1 (by omega) (by omega) ⟨hT1, h1, fun j hj => by omega⟩ ?_ ?_
  · rintro n i σ' hi ⟨a1, a2, a3⟩ hk'
    show Ok (X1_lookAhead_11 t u (n + 1) (nI k) (nI i) σ') _
    rw [X1_lookAhead_11]
    refine ok_neg (by rw [ni_le (by omega) (by omega)]; omega) ?_
    refine ok_bind (pass_ok hT (okS_hours hT hS i (by omega)) (sep44 ht) a1 a2) ?_
    rintro ⟨x, σ2⟩ ⟨b1, b2, -, -, b5⟩
    refine ok_bv ?_
    rw [ni_succ]
    refine hk' σ2 ⟨b1, b2, fun j hj p hp => ?_⟩
    have : j = i := by omega
    subst this
    exact b5 p hp
  · rintro n σ' hI
    show Ok (X1_lookAhead_11 t u (n + 1) (nI k) (nI k) σ') _
    rw [X1_lookAhead_11]
    exact ok_pos (Int32.le_refl _) (ok_some hI)
