/-! plan: the reference's hours by an order -/
theorem aimS_aimS (g : St) (x : Nat) (a b : Int32) : aimS (aimS g x a) x b = aimS g x b := by
  funext r j
  unfold aimS
  by_cases z : r = 2 ∧ j = x
  · rw [if_pos z, if_pos z]
  · rw [if_neg z, if_neg z, if_neg z]
theorem aimS_id {g : St} {x : Nat} {a : Int32} (h : g 2 x = a) : aimS g x a = g := by
  funext r j
  unfold aimS
  by_cases z : r = 2 ∧ j = x
  · rw [if_pos z, z.1, z.2, h]
  · rw [if_neg z]
theorem ordT_aim (T : Tn) (x : Nat) (a : Int32) (o : List Nat) (g : St) (h : Nat) : ordT T x o (aimS g x a) h = ordT T x o g h := by
  cases o with
  | nil => rfl
  | cons c r =>
    unfold ordT
    rw [aimS_aimS]
theorem ordT_skip {T : Tn} {x c : Nat} {o : List Nat} {g : St} {h : Nat} (hh : h < 301) (hz : g 5 (6 * x + c) = 0) : ordT T x (c :: o) g h = ordT T x o g h := by
  obtain ⟨f, hf⟩ : ∃ f, 301 - h = f + 1 := ⟨300 - h, by omega⟩
  have e : payT T x c (301 - h) (aimS g x (nI c)) = (0, aimS g x (nI c)) := by
    rw [hf]
    unfold payT
    exact if_pos hz
  show ordT T x o _ _ = _
  rw [e]
  exact ordT_aim T x (nI c) o g h
theorem ordT_go {T : Tn} {x c : Nat} {o : List Nat} {g : St} {h : Nat} (hh : h < 301) (hz : ¬ g 5 (6 * x + c) = 0) : ordT T x (c :: o) g h = ordT T x (c :: o) (hourF T (aimS g x (nI c))) (h + 1) := by
  have e : payT T x c (301 - h) (aimS g x (nI c)) = ((payT T x c (301 - (h + 1)) (hourF T (aimS g x (nI c)))).1 + 1, (payT T x c (301 - (h + 1)) (hourF T (aimS g x (nI c)))).2) := by
    rw [show 301 - h = (301 - (h + 1)) + 1 by omega]
    show (if aimS g x (nI c) 5 (6 * x + c) = 0 then _ else _) = _
    exact if_neg hz
  have e2 : aimS (hourF T (aimS g x (nI c))) x (nI c) = hourF T (aimS g x (nI c)) := aimS_id (by rw [hourF_aim]; exact if_pos ⟨rfl, rfl⟩)
  show ordT T x o (payT T x c (301 - h) (aimS g x (nI c))).2 (h + (payT T x c (301 - h) (aimS g x (nI c))).1) = ordT T x o (payT T x c (301 - (h + 1)) (aimS (hourF T (aimS g x (nI c))) x (nI c))).2 (h + 1 + (payT T x c (301 - (h + 1)) (aimS (hourF T (aimS g x (nI c))) x (nI c))).1)
  rw [e, e2]
  show ordT T x o _ (h + (_ + 1)) = _
  congr 1
  omega
theorem hoursBy39_ok {T : Tn} {x L K : Nat} (hT : okT T) (hx : x < tN T) (hL : L ≤ 301) (hK : K ≤ 5) : ∀ (f n h i : Nat) (o : List Nat) (g : St) (ρ : Mem), f + h = 301 → f < n → i + o.length = K → (∀ j, j < o.length → ρ.1 1041 (i + j) = nI (o.getD j 0)) → (∀ c, c ∈ o → c < tN T ∧ c ≠ x) → PG T x g → (g 0 7).toInt + f ≤ 3000 → MT T ρ → MW T g ρ → ρ.1 1000 74 = nI K →
    Ok (X12_hoursBy_39 n (nI x) (nI L) (nI i) (nI h) ρ) (fun r => r.1 = nI (min L (ordT T x o g h))) := by
  have hn6 := hT.1
  intro f
  induction f with
  | zero =>
    intro n h i o g ρ h1 h2 h3 h4 h5 h6 h7 hM hW h74
    obtain ⟨n, rfl⟩ : ∃ q, n = q + 1 := ⟨n - 1, by omega⟩
    rw [X12_hoursBy_39]
    have := ordT_ge T x o g h
    refine ok_pos (by rw [ni_le (by omega) (by omega)]; omega) (ok_some ?_)
    show nI L = _
    rw [Nat.min_eq_left (by omega)]
  | succ f ih =>
    intro n h i o g ρ h1 h2 h3 h4 h5 h6 h7 hM hW h74
    obtain ⟨n, rfl⟩ : ∃ q, n = q + 1 := ⟨n - 1, by omega⟩
    rw [X12_hoursBy_39]
    refine ok_ite (fun z => ?_) (fun z => ?_)
    · have := ordT_ge T x o g h
      rw [ni_le (by omega) (by omega)] at z
      refine ok_some ?_
      show nI L = _
      rw [Nat.min_eq_left (by omega)]
    · rw [ni_le (by omega) (by omega)] at z
      have inner : ∀ (o : List Nat) (i m : Nat), o.length < m → i + o.length = K → (∀ j, j < o.length → ρ.1 1041 (i + j) = nI (o.getD j 0)) → (∀ c, c ∈ o → c < tN T ∧ c ≠ x) → Ok (X12_hoursBy_45 (X12_hoursBy_39 n) m (nI x) (nI L) (nI i) (nI h) ρ) (fun r => r.1 = nI (min L (ordT T x o g h))) := by
        intro o
        induction o with
        | nil =>
          intro i m q1 q2 q3 q4
          obtain ⟨m, rfl⟩ : ∃ q, m = q + 1 := ⟨m - 1, by omega⟩
          have hi : i = K := by simpa using q2
          subst hi
          rw [X12_hoursBy_45, h74]
          refine ok_pos (Int32.le_refl _) ?_
          unfold X12_hoursBy_78
          rw [h74]
          refine ok_pos rfl (ok_some ?_)
          show nI h = nI (min L h)
          rw [Nat.min_eq_right (by omega)]
        | cons c r ihr =>
          intro i m q1 q2 q3 q4
          obtain ⟨m, rfl⟩ : ∃ q, m = q + 1 := ⟨m - 1, by omega⟩
          rw [List.length_cons] at q1 q2
          have hc := q4 c (.head _)
          have e41 : ρ.1 1041 i = nI c := q3 0 (by rw [List.length_cons]; omega)
          rw [X12_hoursBy_45, h74]
          refine ok_neg (by rw [ni_le (by omega) (by omega)]; omega) (ok_pos (ib_t (by omega) (by omega)) ?_)
          rw [ni_cl (by omega), e41, ni_cell, ni_cl (by omega)]
          refine ok_pos (ib_t (by omega) (by omega)) ?_
          rw [hW.2.1 _ (by omega)]
          refine ok_ite (fun y => ?_) (fun y => ?_)
          · refine ok_bv ?_
            rw [ni_succ, ordT_skip (by omega) y]
            refine ihr (i + 1) m (by omega) (by omega) (fun j hj => ?_) (fun d hd => q4 d (.tail _ hd))
            have := q3 (j + 1) (by rw [List.length_cons]; omega)
            rw [List.getD_cons_succ] at this
            rw [show i + 1 + j = i + (j + 1) by omega]
            exact this
          · unfold X12_hoursBy_78
            rw [h74]
            refine ok_neg (by rw [ni_inj (by omega) (by omega)]; omega) (ok_pos (ib_t (by omega) (by omega)) (ok_pos (ib_t (by omega) (by omega)) (ok_bv ?_)))
            rw [ni_cl (by omega), ni_cl (by omega), e41]
            obtain ⟨p1, p2⟩ := PG_aim h6 hx hc.1 hc.2
            have hM2 : MT T (sI ρ 1030 x (nI c)) := hM.keep (fun a ha => by
              funext b
              exact sI_n (fun e => by rw [e] at ha; revert ha; decide) b) (fun a b hb => sI_n (fun e => by rw [e] at hb; simp [MTb] at hb) b)
            have hW2 : MW T (aimS g x (nI c)) (sI ρ 1030 x (nI c)) := by
              refine ⟨fun p hp => ⟨?_, ?_, ?_, ?_⟩, fun k hk => ?_, ?_, ?_⟩
              · rw [sI_n (by decide)]
                exact (hW.1 p hp).1
              · rw [sI_o, (hW.1 p hp).2.1]
                unfold aimS
                by_cases w : p = x
                · rw [if_pos w, if_pos ⟨rfl, w⟩]
                · rw [if_neg w, if_neg (fun v => w v.2)]
              · rw [sI_n (by decide)]
                exact (hW.1 p hp).2.2.1
              · rw [sI_n (by decide)]
                exact (hW.1 p hp).2.2.2
              · rw [sI_n (by decide)]
                exact hW.2.1 k hk
              · rw [sI_n (by decide)]
                exact hW.2.2.1
              · rw [sI_n (by decide)]
                exact hW.2.2.2
            have hp7 : (aimS g x (nI c) 0 7).toInt = (g 0 7).toInt := rfl
            refine ok_bind (ok_fr (goHour_ok hT p1.1 hM2 hW2) (fr_X12_goHour _ Fr.refl)) ?_
            rintro ρ2 ⟨⟨b1, b2, -⟩, f2⟩
            have f2 : Fr L_X12_goHour K_X12_goHour (sI ρ 1030 x (nI c)) ρ2 := f2
            have g2 := f2.off (A := [1041]) (B := [(1000, 74)]) (by decide)
            refine ok_bv ?_
            rw [ni_succ, ordT_go (by omega) y]
            obtain ⟨a1, a2, -⟩ := PG_hour hT p1 hx p2 hc.1 (by rw [hp7]; omega)
            have hpi := hourF_pastI p1.1
            refine ih n (h + 1) i (c :: r) _ ρ2 (by omega) (by omega) (by rw [List.length_cons]; omega) (fun j hj => ?_) q4 a1 (by rw [hpi, hp7]; omega) b1 b2 ?_
            · rw [g2.1 1041 (by decide), sI_n (by decide)]
              exact q3 j hj
            · rw [g2.2 1000 74 (by decide), sI_n (by decide)]
              exact h74
      exact inner o i fu (by unfold fu; omega) h3 h4 h5
theorem hoursBy_ok {T : Tn} {s : St} {x L K : Nat} {o : List Nat} {ρ : Mem} (hT : okT T) (hS : okN T s) (hx : x < tN T) (hL : L ≤ 301) (hK : K ≤ 5) (ho : o.length = K) (h41 : ∀ j, j < K → ρ.1 1041 j = nI (o.getD j 0)) (hc : ∀ c, c ∈ o → c < tN T ∧ c ≠ x) (hM : MN T ρ) (hR : rowR (tN T) s (ρ.1 1028)) (h74 : ρ.1 1000 74 = nI K) :
    Ok (X12_hoursBy (nI x) (nI L) ρ) (fun r => r.1 = nI (min L (ordT T x o (plS (tN T) x s) 0))) := by
  have hn6 := hT.1
  unfold X12_hoursBy
  refine ok_bind (ok_fr (load_ok hT hM hR) (fr_X12_load _ Fr.refl)) ?_
  rintro ρ1 ⟨⟨a1, a2⟩, f1⟩
  have f1 : Fr L_X12_load K_X12_load ρ ρ1 := f1
  have g1 := f1.off (A := [1041]) (B := [(1000, 74)]) (by decide)
  refine ok_bv ?_
  refine ok_loop0 (F := fun n i ρ => X12_hoursBy_6 n (nI x) (nI L) i ρ) (N := tN T) (I := fun j ρ' => Fr [1030] [] ρ1 ρ' ∧ ∀ p, p < j → ρ'.1 1030 p = -1) 0 ρ1 (by omega) (by omega) ⟨Fr.refl, fun p hp => by omega⟩ ?_ ?_
  · rintro n j ρ2 hj ⟨f2, h2⟩ hk
    show Ok (X12_hoursBy_6 (n + 1) (nI x) (nI L) (nI j) ρ2) _
    rw [X12_hoursBy_6, f2.ne (a := 1000) (by decide), a1.1]
    refine ok_neg (by rw [ni_le (by omega) (by omega)]; omega) (ok_pos (ib_t (by omega) (by omega)) (ok_bv (ok_bv ?_)))
    rw [ni_succ, ni_cl (by omega)]
    refine hk _ ⟨frI f2 (.head _), fun p hp => ?_⟩
    rw [sI_o]
    by_cases z : p = j
    · rw [if_pos z]
    · rw [if_neg z]
      exact h2 p (by omega)
  · rintro n ρ2 ⟨f2, h2⟩
    show Ok (X12_hoursBy_6 (n + 1) (nI x) (nI L) (nI (tN T)) ρ2) _
    rw [X12_hoursBy_6, f2.ne (a := 1000) (by decide), a1.1]
    refine ok_pos (Int32.le_refl _) (ok_pos (ib_t (by omega) (by omega)) (ok_bv (ok_bv (ok_bv ?_))))
    rw [ni_cl (by omega)]
    have f3 : Fr [1030, 1031] [] ρ1 (sI ρ2 1031 x (nI x)) := frI (f2.mono (by simp) (by simp)) (by simp)
    have hM3 : MT T (sI ρ2 1031 x (nI x)) := a1.keep (fun a ha => f3.ne (fun e => by revert e ha; simp [MTa]; omega)) (fun a b hb => by
      have := f3.1 a b (fun e => by revert e hb; simp [MTb]; omega) (by simp)
      exact this)
    have hp7 : (plS (tN T) x s 0 7) = s 0 7 := plS_o _ _ _ _ _ (by decide) (by decide)
    refine hoursBy39_ok (K := K) hT hx hL hK 301 fu 0 0 o (plS (tN T) x s) (sI ρ2 1031 x (nI x)) (by omega) (by unfold fu; omega) (by omega) (fun j hj => ?_) hc (PG_plS hS.1 hx) (by rw [hp7]; have := hS.2; omega) hM3 ⟨fun p hp => ⟨?_, ?_, ?_, ?_⟩, fun k hk => ?_, ?_, ?_⟩ ?_
    · rw [f3.ne (by decide), g1.1 1041 (by decide), Nat.zero_add]
      exact h41 j (by omega)
    · rw [plS_o _ _ _ _ _ (by decide) (by decide), f3.ne (by decide)]
      exact (a2.1 p hp).1
    · rw [plS_2 _ _ _ _ hp, sI_n (by decide)]
      exact h2 p hp
    · rw [plS_3, sI_o, f2.ne (by decide), (a2.1 p hp).2.2.1]
    · rw [plS_o _ _ _ _ _ (by decide) (by decide), f3.ne (by decide)]
      exact (a2.1 p hp).2.2.2
    · rw [plS_5, f3.ne (by decide)]
      exact a2.2.1 k hk
    · rw [plS_o _ _ _ _ _ (by decide) (by decide), f3.ne (by decide)]
      exact a2.2.2.1
    · rw [plS_o _ _ _ _ _ (by decide) (by decide), f3.ne (by decide)]
      exact a2.2.2.2
    · rw [f3.ne (by decide), g1.2 1000 74 (by decide)]
      exact h74
