/-! dusk and the whole hour of the reference -/
theorem moreF_ref (m : Int32) {v : Nat} (h1 : 1 ≤ v) (h2 : v ≤ 9999) :
    (if nI v + (if 0 ≤ m then (if m ≤ 9999 then m else 9999) else 0) ≤ 9999 then nI v + (if 0 ≤ m then (if m ≤ 9999 then m else 9999) else 0) else 9999) = moreF m (nI v) := by
  unfold moreF
  rw [show (9999 : Int32) = nI 9999 from rfl]
  by_cases x : m < 0
  · rw [if_neg (Int32.not_le.mpr x), if_pos x, Int32.add_zero, if_pos (by rw [ni_le (by omega) (by omega)]; omega)]
  · obtain ⟨u, hu, rfl⟩ := ni_of (Int32.not_lt.mp x)
    rw [if_pos (Int32.not_lt.mp x), if_neg x, ni_sub (by omega)]
    by_cases y : u ≤ 9999
    · have q : nI u ≤ nI 9999 := (ni_le (by omega) (by omega)).mpr y
      rw [if_pos q, ni_add]
      by_cases w : v + u ≤ 9999
      · have q1 : nI (v + u) ≤ nI 9999 := (ni_le (by omega) (by omega)).mpr w
        have q2 : ¬ nI (9999 - v) < nI u := by rw [ni_lt (by omega) (by omega)]; omega
        rw [if_pos q1, if_neg q2]
      · have q1 : ¬ nI (v + u) ≤ nI 9999 := by rw [ni_le (by omega) (by omega)]; omega
        have q2 : nI (9999 - v) < nI u := (ni_lt (by omega) (by omega)).mpr (by omega)
        rw [if_neg q1, if_pos q2]
    · have q : ¬ nI u ≤ nI 9999 := by rw [ni_le (by omega) (by omega)]; omega
      have q1 : ¬ nI (v + 9999) ≤ nI 9999 := by rw [ni_le (by omega) (by omega)]; omega
      have q2 : nI (9999 - v) < nI u := (ni_lt (by omega) (by omega)).mpr (by omega)
      rw [if_neg q, ni_add, if_neg q1, if_pos q2]
theorem okD_k {n : Nat} {d : Nat → Int32} (h : okD n d) {k : Nat} (hk : k < 36) : ∃ v, v ≤ 9999 ∧ d k = nI v := by
  have := (h (k / 6) (k % 6) (by omega) (by omega)).1
  rwa [show 6 * (k / 6) + k % 6 = k by omega] at this
theorem dusk122_ok {T : Tn} {ρ : Mem} {d : Nat → Int32} {date : Int32} (hT : okT T) (h : MT T ρ) (hd : ∀ k, k < 36 → ρ.1 1033 k = d k) (hdt : ρ.1 1000 62 = date) :
    Ok (X12_dusk_122 ρ) (fun ρ' => (∀ k, k < 36 → ρ'.1 1033 k = d k) ∧ (∀ p, p < tN T → ρ'.1 1029 p = tR T 1 p) ∧ ρ'.1 1000 63 = 0 ∧ ρ'.1 1000 62 = date + 1) := by
  have hn := hT.1
  unfold X12_dusk_122
  refine ok_bv ?_
  refine ok_loop0 (F := fun n i ρ => X12_dusk_124 n i ρ) (N := tN T) (I := fun i ρ' => Fr [1029] [] ρ ρ' ∧ (∀ p, p < i → ρ'.1 1029 p = tR T 1 p)) 0 ρ (by omega) (by omega) ⟨Fr.refl, fun p hp => by omega⟩ ?_ ?_
  · intro n i ρ' hi ⟨hf, hI⟩ hk
    have g := hf.off (A := [1020]) (B := [(1000, 45)]) (by decide)
    have bi := ib_t (n := i) (k := 6) (by omega) (by omega)
    have ci := ni_cl (n := i) (by omega)
    show Ok (X12_dusk_124 (n + 1) (nI i) ρ') _
    rw [X12_dusk_124, g.2 1000 45 (by decide), h.1]
    refine ok_neg (by rw [ni_le (by omega) (by omega)]; omega) (ok_pos bi (ok_pos bi (ok_bv (ok_bv ?_))))
    rw [ci, ni_succ, g.1 1020 (by decide), (h.2.2.1 i hi).1]
    refine hk _ ⟨frI hf (.head _), fun p hp => ?_⟩
    rw [sI_o]
    by_cases z : p = i
    · rw [if_pos z, z]
    · rw [if_neg z]
      exact hI p (by omega)
  · intro n ρ' ⟨hf, hI⟩
    have g := hf.off (A := [1033]) (B := [(1000, 45), (1000, 62)]) (by decide)
    show Ok (X12_dusk_124 (n + 1) (nI (tN T)) ρ') _
    rw [X12_dusk_124, g.2 1000 45 (by decide), h.1]
    refine ok_pos (Int32.le_refl _) (ok_bv (ok_bv (ok_some ⟨fun k hk => ?_, fun p hp => ?_, ?_, ?_⟩)))
    · rw [sI_n (by decide), sI_n (by decide), g.1 1033 (by decide)]
      exact hd k hk
    · rw [sI_n (by decide), sI_n (by decide)]
      exact hI p hp
    · rw [sI_k (by decide), sI_e]
    · rw [sI_e, sI_k (by decide), g.2 1000 62 (by decide), hdt]
theorem dusk_ok {T : Tn} {ρ : Mem} {d : Nat → Int32} {date : Int32} (hT : okT T) (h : MT T ρ) (hd : ∀ k, k < 36 → ρ.1 1033 k = d k) (hD : okD (tN T) d) (hdt : ρ.1 1000 62 = date) :
    Ok (X12_dusk ρ) (fun ρ' => (∀ k, k < 36 → ρ'.1 1033 k = intF T date (d k)) ∧ (∀ p, p < tN T → ρ'.1 1029 p = tR T 1 p) ∧ ρ'.1 1000 63 = 0 ∧ ρ'.1 1000 62 = date + 1) := by
  have hp := MT_P h (w := 1) (by omega)
  unfold MPg at hp
  unfold X12_dusk
  refine ok_bv ?_
  cases e : tP T 1 with
  | none =>
    rw [e] at hp
    rw [show fu = 4999 + 1 from rfl, X12_dusk_2]
    refine ok_neg (by decide) (ok_pos hp ?_)
    have hi : ∀ o, intF T date o = o := fun o => by unfold intF; rw [e]
    simp only [hi]
    exact dusk122_ok hT h hd hdt
  | some pr =>
    rw [e] at hp
    have hpr := okT_P hT e
    have hi : ∀ o, intF T date o = if o = 0 then 0 else moreF (ev pr (fun k => if k = 0 then o else if k = 1 then date else 0)) o := fun o => by unfold intF; rw [e]
    refine ok_loop0 (F := fun n i ρ => X12_dusk_2 n i ρ) (N := 36) (I := fun i ρ' => Fr [1010, 1011, 1033] [] ρ ρ' ∧ (∀ k, k < i → ρ'.1 1033 k = intF T date (d k)) ∧ (∀ k, i ≤ k → k < 36 → ρ'.1 1033 k = d k)) 0 ρ (by omega) (by omega) ⟨Fr.refl, fun p hp => by omega, fun k _ hk => hd k hk⟩ ?_ ?_
    · intro n i ρ' hil ⟨hf, hI, hJ⟩ hk
      have g := hf.off (A := [1006, 1007, 1008]) (B := [(1000, 53), (1000, 62)]) (by decide)
      have bi := ib_t (n := i) (k := 36) (by omega) (by omega)
      have ci := ni_cl (n := i) (by omega)
      obtain ⟨v, hv, ev'⟩ := okD_k hD hil
      show Ok (X12_dusk_2 (n + 1) (nI i) ρ') _
      rw [X12_dusk_2, g.2 1000 53 (by decide), show ρ.1 1000 53 = 1 from hp.1]
      refine ok_neg (by rw [show (36 : Int32) = nI 36 from rfl, ni_le (by omega) (by omega)]; omega) (ok_neg (by decide) (ok_pos bi ?_))
      rw [ci, hJ i (Nat.le_refl _) hil]
      refine ok_ite (fun z => ?_) (fun z => ?_)
      · refine ok_bv ?_
        rw [ni_succ]
        refine hk _ ⟨hf, fun k hk' => ?_, fun k h1 h2 => hJ k (by omega) h2⟩
        by_cases y : k = i
        · rw [y, hJ i (Nat.le_refl _) hil, hi, z]
          rfl
        · exact hI k (by omega)
      · refine ok_bind (ok_fr (noAsks_ok ρ') (fr_X12_noAsks ρ' Fr.refl)) (fun ρ1 ⟨h1, f1⟩ => ?_)
        have f1 : Fr L_X12_noAsks K_X12_noAsks ρ' ρ1 := f1
        have g1 := f1.off (A := [1006, 1007, 1008, 1033]) (B := [(1000, 62)]) (by decide)
        refine ok_pos bi (ok_bv (ok_bv ?_))
        rw [g1.1 1033 (by decide), hJ i (Nat.le_refl _) hil, sI_n (a := 1000) (by decide), g1.2 1000 62 (by decide), g.2 1000 62 (by decide), hdt]
        refine ok_bind (ok_fr (worked_ok (w := 1) (g := fun k => if k = 0 then d i else if k = 1 then date else 0) hpr.1 hpr.2.1 (by omega) (hp.2.keep ?_ ?_ ?_) (by omega) ?_) (fr_X12_worked _ _ Fr.refl)) ?_
        · funext b
          rw [sI_n (by decide), sI_n (by decide), g1.1 1006 (by decide), g.1 1006 (by decide)]
        · funext b
          rw [sI_n (by decide), sI_n (by decide), g1.1 1007 (by decide), g.1 1007 (by decide)]
        · funext b
          rw [sI_n (by decide), sI_n (by decide), g1.1 1008 (by decide), g.1 1008 (by decide)]
        · intro k hk7
          rw [sI_o, sI_o]
          by_cases z1 : k = 1
          · subst z1
            rfl
          · by_cases z2 : k = 0
            · subst z2
              rfl
            · rw [if_neg z1, if_neg z2, h1 k hk7, if_neg z2, if_neg z1]
        · rintro ⟨m, ρ2⟩ ⟨hm, f2⟩
          have hm : m = ev pr (fun k => if k = 0 then d i else if k = 1 then date else 0) := hm
          have f2 : Fr L_X12_worked K_X12_worked (sI (sI ρ1 1011 0 (d i)) 1011 1 date) ρ2 := f2
          have g2 := f2.off (A := [1033]) (B := []) (by decide)
          have e33 : ρ2.1 1033 = ρ'.1 1033 := by
            rw [g2.1 1033 (by decide)]
            funext b
            rw [sI_n (by decide), sI_n (by decide), g1.1 1033 (by decide)]
          have f3 : Fr [1010, 1011, 1033] [] ρ ρ2 := by
            refine (hf.trans (f1.mono (by decide) (by decide))).trans ?_
            exact (frI (frI Fr.refl (.tail _ (.head _))) (.tail _ (.head _))).trans (f2.mono (by decide) (by decide))
          have hv1 : 1 ≤ v := by
            rcases Nat.eq_zero_or_pos v with q | q
            · rw [q] at ev'
              exact absurd ev' z
            · exact q
          refine ok_bv ?_
          have hc : ∀ x, x = (if 0 ≤ m then (if m ≤ 9999 then m else 9999) else 0) → Ok (X12_dusk_81 (X12_dusk_116 (X12_dusk_2 n)) (nI i) x ρ2) (fun ρ' => (∀ k, k < 36 → ρ'.1 1033 k = intF T date (d k)) ∧ (∀ p, p < tN T → ρ'.1 1029 p = tR T 1 p) ∧ ρ'.1 1000 63 = 0 ∧ ρ'.1 1000 62 = date + 1) := by
            intro x hx
            have hb : ∀ y, y = intF T date (d i) → Ok (X12_dusk_115 (X12_dusk_116 (X12_dusk_2 n)) (nI i) y (nI i) ρ2) (fun ρ' => (∀ k, k < 36 → ρ'.1 1033 k = intF T date (d k)) ∧ (∀ p, p < tN T → ρ'.1 1029 p = tR T 1 p) ∧ ρ'.1 1000 63 = 0 ∧ ρ'.1 1000 62 = date + 1) := by
              intro y hy
              unfold X12_dusk_115
              refine ok_pos bi (ok_bv (ok_bv ?_))
              rw [ci, ni_succ]
              refine hk _ ⟨frI f3 (.tail _ (.tail _ (.head _))), fun k hk' => ?_, fun k h1 h2 => ?_⟩
              · rw [sI_o, e33]
                by_cases w : k = i
                · rw [if_pos w, hy, w]
                · rw [if_neg w]
                  exact hI k (by omega)
              · rw [sI_k (by omega), e33]
                exact hJ k (by omega) h2
            have hmr := moreF_ref m hv1 hv
            rw [← hx, ← ev'] at hmr
            have hint : intF T date (d i) = moreF m (d i) := by rw [hi, if_neg z, ← hm]
            rw [← hint] at hmr
            unfold X12_dusk_81
            refine ok_pos bi ?_
            rw [ci, e33, hJ i (Nat.le_refl _) hil]
            refine ok_ite (fun w => ok_pos bi (hb _ ?_)) (fun w => hb _ ?_)
            · rw [if_pos w] at hmr
              exact hmr
            · rw [if_neg w] at hmr
              exact hmr
          show Ok (if 0 ≤ m then (if m ≤ 9999 then _ else _) else _) _
          refine ok_ite (fun w1 => ok_ite (fun w2 => hc _ ?_) (fun w2 => hc _ ?_)) (fun w1 => hc _ ?_)
          · rw [if_pos w1, if_pos w2]
          · rw [if_pos w1, if_neg w2]
          · rw [if_neg w1]
    · intro n ρ' ⟨hf, hI, _⟩
      have g := hf.off (A := MTa) (B := (1000, 62) :: MTb) (by decide)
      show Ok (X12_dusk_2 (n + 1) (nI 36) ρ') _
      rw [X12_dusk_2]
      refine ok_pos (Int32.le_refl _) ?_
      exact dusk122_ok hT (h.keep g.1 (fun a b hb => g.2 a b (.tail _ hb))) hI ((g.2 1000 62 (.head _)).trans hdt)
/-- what the flags of an hour say -/
def MF (T : Tn) (s : St) (ρ : Mem) : Prop := ∀ p, p < tN T → ρ.1 1035 p = tr (mts T s p) ∧ ρ.1 1037 p = tr (wts T s p) ∧ ρ.1 1038 p = paidF T s p
theorem goHour_ok {T : Tn} {s : St} {ρ : Mem} (hT : okT T) (hS : okS T s) (hM : MT T ρ) (h : MW T s ρ) : Ok (X12_goHour ρ) (fun ρ' => MT T ρ' ∧ MW T (hourF T s) ρ' ∧ MF T s ρ' ∧ (∀ p, p < tN T → ρ'.1 1030 p = s 2 p)) := by
  have hn := hT.1
  have hR : MR T s ρ := ⟨hM, fun p hp => ⟨(h.1 p hp).2.1, (h.1 p hp).2.2.1⟩, h.2.2.1, h.2.2.2⟩
  suffices H : Ok (X12_goHour ρ) (fun ρ' => MW T (hourF T s) ρ' ∧ MF T s ρ') by
    refine ok_mono (ok_fr H (fr_X12_goHour ρ Fr.refl)) ?_
    rintro ρ' ⟨⟨h1, h2⟩, f⟩
    have f : Fr L_X12_goHour K_X12_goHour ρ ρ' := f
    have g := f.off (A := 1030 :: MTa) (B := MTb) (by decide)
    refine ⟨hM.keep (fun a ha => g.1 a (.tail _ ha)) g.2, h1, h2, fun p hp => ?_⟩
    rw [g.1 1030 (.head _)]
    exact (h.1 p hp).2.1
  unfold X12_goHour
  refine ok_bind (ok_fr (goOut_ok hT hS hR (fun p hp => (h.1 p hp).1)) (fr_X12_goOut ρ Fr.refl)) ?_
  rintro ρ1 ⟨hg, f1⟩
  have f1 : Fr L_X12_goOut K_X12_goOut ρ ρ1 := f1
  have h1 := hR.keep f1 (by decide)
  have g1 := f1.off (A := [1032, 1033]) (B := []) (by decide)
  refine ok_bv ?_
  refine ok_loop0 (F := fun n i ρ => X12_goHour_6 n i ρ) (N := tN T) (I := fun i ρ' => Fr [1037] [] ρ1 ρ' ∧ (∀ p, p < i → ρ'.1 1037 p = tr (wts T s p))) 0 ρ1 (by omega) (by omega) ⟨Fr.refl, fun p hp => by omega⟩ ?_ ?_
  · intro n i ρ' hi ⟨hf, hI⟩ hk
    have h2 := h1.keep hf (by decide)
    have g := hf.off (A := [1029, 1035, 1036]) (B := []) (by decide)
    have hg2 : MG T s ρ' := fun p hp => by
      rw [g.1 1029 (by decide), g.1 1035 (by decide), g.1 1036 (by decide)]
      exact hg p hp
    show Ok (X12_goHour_6 (n + 1) (nI i) ρ') _
    rw [X12_goHour_6, h2.1.1]
    refine ok_neg (by rw [ni_le (by omega) (by omega)]; omega) ?_
    rw [doesWait_ok hT hS h2 hg2 hi]
    refine ok_bindE rfl (ok_pos (ib_t (by omega) (by omega)) (ok_bv (ok_bv ?_)))
    rw [ni_cl (by omega), ni_succ]
    refine hk _ ⟨frI hf (.head _), fun p hp => ?_⟩
    show (sI ρ' 1037 i (tr (wts T s i) &&& 1)).1 1037 p = _
    rw [sI_o, tr_and]
    by_cases z : p = i
    · rw [if_pos z, z]
    · rw [if_neg z]
      exact hI p (by omega)
  · intro n ρ2 ⟨f2, hI⟩
    have h2 := h1.keep f2 (by decide)
    have g2 := f2.off (A := [1029, 1032, 1033, 1035]) (B := []) (by decide)
    show Ok (X12_goHour_6 (n + 1) (nI (tN T)) ρ2) _
    rw [X12_goHour_6, h2.1.1]
    refine ok_pos (Int32.le_refl _) (ok_bv ?_)
    have hc0 : MC (tN T) (paysF T s 0) ρ2 := by
      refine ⟨fun p hp => ?_, fun k hk => ?_⟩
      · rw [g2.1 1032 (by decide), g1.1 1032 (by decide)]
        exact (h.1 p hp).2.2.2
      · rw [g2.1 1033 (by decide), g1.1 1033 (by decide)]
        exact h.2.1 k hk
    have hg2 : ∀ p, p < tN T → ρ2.1 1035 p = tr (mts T s p) := fun p hp => by
      rw [g2.1 1035 (by decide)]
      exact (hg p hp).1
    refine ok_loop0 (F := fun n i ρ => X12_goHour_33 n i ρ) (N := tN T) (I := fun i ρ' => Fr L_X12_pay K_X12_pay ρ2 ρ' ∧ MC (tN T) (paysF T s i) ρ' ∧ (∀ p, p < i → ρ'.1 1038 p = paidF T s p)) 0 ρ2 (by omega) (by omega) ⟨Fr.refl, hc0, fun p hp => by omega⟩ ?_ ?_
    · intro n i ρ3 hi ⟨f3, hc3, hp3⟩ hk
      have h3 := h2.keep f3 (by decide)
      have g3 := f3.off (A := [1035, 1037]) (B := []) (by decide)
      show Ok (X12_goHour_33 (n + 1) (nI i) ρ3) _
      rw [X12_goHour_33, h3.1.1]
      refine ok_neg (by rw [ni_le (by omega) (by omega)]; omega) ?_
      refine ok_bind (ok_fr (pay_ok hT hS h3 (fun p hp => by rw [g3.1 1035 (by decide)]; exact hg2 p hp) (fun p hp => by rw [g3.1 1037 (by decide)]; exact hI p hp) hc3 (paysF_okD (okS_D hS) i) hi) (fr_X12_pay _ _ Fr.refl)) ?_
      rintro ρ4 ⟨⟨a1, a2, a3⟩, f4⟩
      have f4 : Fr L_X12_pay K_X12_pay ρ3 ρ4 := f4
      refine ok_bv ?_
      rw [ni_succ]
      refine hk _ ⟨f3.trans f4, a3, fun p hp => ?_⟩
      by_cases z : p = i
      · rw [z]
        exact a1
      · rw [a2 p z]
        exact hp3 p (by omega)
    · intro n ρ3 ⟨f3, hc3, hp3⟩
      have h3 := h2.keep f3 (by decide)
      have g3 := f3.off (A := [1029, 1035, 1037]) (B := []) (by decide)
      have hMF : MF T s ρ3 := fun p hp => by
        rw [g3.1 1035 (by decide), g3.1 1037 (by decide)]
        exact ⟨hg2 p hp, hI p hp, hp3 p hp⟩
      have hplc : ∀ p, p < tN T → ρ3.1 1029 p = plc T s p := fun p hp => by
        rw [g3.1 1029 (by decide), g2.1 1029 (by decide)]
        exact (hg p hp).2.1
      show Ok (X12_goHour_33 (n + 1) (nI (tN T)) ρ3) _
      rw [X12_goHour_33, h3.1.1]
      refine ok_pos (Int32.le_refl _) (ok_bv ?_)
      have f5 : Fr [] [(1000, 63)] ρ3 (sI ρ3 1000 63 (ρ3.1 1000 63 + 1)) := frIk Fr.refl (.inl (.head _))
      have g5 := f5.off (A := 1029 :: 1030 :: 1031 :: 1032 :: 1033 :: 1035 :: 1037 :: 1038 :: MTa.erase 0) (B := (1000, 62) :: MTb) (by decide)
      have h5 : MT T (sI ρ3 1000 63 (ρ3.1 1000 63 + 1)) := h3.1.keep (fun a ha => g5.1 a (by simp only [MTa] at ha ⊢; simp at ha ⊢; omega)) (fun a b hb => g5.2 a b (.tail _ hb))
      rw [sI_e, h5.2.1, h3.2.2.2]
      rw [h3.2.2.2] at f5 g5 h5
      unfold hourF turnF
      show Ok (if s 0 6 + 1 = nI (tD T) then _ else _) _
      have egh : goF T s 0 6 = s 0 6 := rfl
      rw [egh]
      refine ok_ite (fun z => ?_) (fun z => ?_)
      · rw [if_pos z]
        refine ok_bind (ok_fr (dusk_ok hT h5 (d := (paysF T s (tN T)).2) (date := s 0 5) (fun k hk => by rw [g5.1 1033 (by simp)]; exact hc3.2 k hk) (paysF_okD (okS_D hS) _) (by rw [g5.2 1000 62 (.head _)]; exact h3.2.2.1)) (fr_X12_dusk _ Fr.refl)) ?_
        rintro ρ6 ⟨⟨a1, a2, a3, a4⟩, f6⟩
        have f6 : Fr L_X12_dusk K_X12_dusk _ ρ6 := f6
        have g6 := f6.off (A := [1030, 1031, 1032, 1035, 1037, 1038]) (B := []) (by decide)
        refine ok_some ⟨⟨fun p hp => ⟨?_, ?_, ?_, ?_⟩, fun k hk => ?_, ?_, ?_⟩, fun p hp => ?_⟩
        · exact a2 p hp
        · rw [g6.1 1030 (by decide), g5.1 1030 (by simp)]
          exact (h3.2.1 p hp).1
        · rw [g6.1 1031 (by decide), g5.1 1031 (by simp)]
          exact (h3.2.1 p hp).2
        · rw [g6.1 1032 (by decide), g5.1 1032 (by simp)]
          exact hc3.1 p hp
        · exact a1 k hk
        · exact a4
        · exact a3
        · rw [g6.1 1035 (by decide), g6.1 1037 (by decide), g6.1 1038 (by decide), g5.1 1035 (by simp), g5.1 1037 (by simp), g5.1 1038 (by simp)]
          exact hMF p hp
      · rw [if_neg z]
        refine ok_some ⟨⟨fun p hp => ⟨?_, ?_, ?_, ?_⟩, fun k hk => ?_, ?_, ?_⟩, fun p hp => ?_⟩
        · rw [g5.1 1029 (by simp)]
          exact hplc p hp
        · rw [g5.1 1030 (by simp)]
          exact (h3.2.1 p hp).1
        · rw [g5.1 1031 (by simp)]
          exact (h3.2.1 p hp).2
        · rw [g5.1 1032 (by simp)]
          exact hc3.1 p hp
        · rw [g5.1 1033 (by simp)]
          exact hc3.2 k hk
        · rw [g5.2 1000 62 (.head _)]
          exact h3.2.2.1
        · rw [sI_e]
          rfl
        · rw [g5.1 1035 (by simp), g5.1 1037 (by simp), g5.1 1038 (by simp)]
          exact hMF p hp
