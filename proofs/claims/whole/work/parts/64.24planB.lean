/-! plan: the class's best -/
def bestF (T : Tn) (x : Nat) (s : St) : Pa := (perms (crs x s (tN T) 0).length (crs x s (tN T) 0)).foldl (stepO T x (plS (tN T) x s) 0 []) (301, [])
theorem plS_5 (n x : Nat) (s : St) : plS n x s 5 = s 5 := by
  funext k
  unfold plS
  rw [if_neg (fun w => absurd w.1 (by decide)), if_neg (fun w => absurd w.1 (by decide))]
theorem plS_crs (n x : Nat) (s : St) (r j : Nat) : crs x (plS n x s) r j = crs x s r j := crs_congr r j (fun c _ _ => by rw [plS_5])
theorem plS_o (n x : Nat) (s : St) (r j : Nat) (h2 : r ≠ 2) (h3 : r ≠ 3) : plS n x s r j = s r j := by
  unfold plS
  rw [if_neg (fun w => h2 w.1), if_neg (fun w => h3 w.1)]
theorem plS_3 (n x : Nat) (s : St) (j : Nat) : plS n x s 3 j = if j = x then nI x else s 3 j := by
  unfold plS
  rw [if_neg (fun w => absurd w.1 (by decide))]
  by_cases z : j = x
  · rw [if_pos ⟨rfl, z⟩, if_pos z]
  · rw [if_neg (fun w => z w.2), if_neg z]
theorem plS_2 (n x : Nat) (s : St) (j : Nat) (h : j < n) : plS n x s 2 j = -1 := if_pos ⟨rfl, h⟩
theorem PG_plS {T : Tn} {x : Nat} {s : St} (hS : okS T s) (hx : x < tN T) : PG T x (plS (tN T) x s) := by
  refine ⟨⟨fun p hp => ⟨.inl (plS_2 _ _ _ _ hp), ?_, ?_⟩, ?_, ?_, ?_⟩, fun p hp _ => plS_2 _ _ _ _ hp, ?_⟩
  · rw [plS_3]
    by_cases z : p = x
    · rw [if_pos z]
      exact ⟨x, hx, rfl⟩
    · rw [if_neg z]
      exact (hS.1 p hp).2.1
  · rw [plS_o _ _ _ 4 _ (by decide) (by decide), plS_o _ _ _ 0 _ (by decide) (by decide)]
    exact (hS.1 p hp).2.2
  · rw [plS_5]
    exact hS.2.1
  · rw [plS_o _ _ _ 0 _ (by decide) (by decide)]
    exact hS.2.2.1
  · rw [plS_o _ _ _ 0 _ (by decide) (by decide)]
    exact hS.2.2.2
  · rw [plS_3, if_pos rfl]
theorem best_ok {T : Tn} {s : St} {t x : Nat} {σ : Mem} (hT : okT T) (hS : okN T s) (ht : t = 7 ∨ t = 124) (hx : x < tN T) (h : CT T t σ) (hs : CS T s σ 31) (h66 : ∀ i, i < 7 → σ.1 66 i = nI (69 + 6 * i)) :
    Ok (X4_hoursOfBest t 31 (nI x) σ) (fun r => accP (crs x s (tN T) 0).length (bestF T x s) r.2 ∧ r.2.1 61 6 = nI (crs x s (tN T) 0).length ∧ r.1 = if (bestF T x s).1 ≤ 300 then nI (bestF T x s).1 else -1) := by
  have hn6 := hT.1
  have hK5 : (crs x s (tN T) 0).length ≤ 5 := by
    have := crs_self hx hn6 (okS_D hS.1)
    omega
  unfold X4_hoursOfBest
  refine ok_bv (ok_bv (ok_bv ?_))
  have f0 : Fr [] [(61, 3), (61, 4), (61, 6)] σ (sI (sI (sI σ 61 3 (nI x)) 61 4 301) 61 6 0) := frIk (frIk (frIk Fr.refl (by simp)) (by simp)) (by simp)
  have v3 : (sI (sI (sI σ 61 3 (nI x)) 61 4 301) 61 6 0).1 61 3 = nI x := by rw [sI_k (by decide), sI_k (by decide), sI_e]
  have v4 : (sI (sI (sI σ 61 3 (nI x)) 61 4 301) 61 6 0).1 61 4 = 301 := by rw [sI_k (by decide), sI_e]
  have v6 : (sI (sI (sI σ 61 3 (nI x)) 61 4 301) 61 6 0).1 61 6 = 0 := sI_e _ _ _ _
  generalize sI (sI (sI σ 61 3 (nI x)) 61 4 301) 61 6 0 = σ0 at *
  have ne0 : ∀ a, a ≠ 61 → σ0.1 a = σ.1 a := fun a ha => by
    funext b
    exact f0.1 a b (by simp) (by simp; omega)
  rw [show (0 : Int32).toNatClampNeg = 0 by decide, ne0 66 (by decide), h66 0 (by omega)]
  show Ok (gS (nI (69 + 6 * 0)) (nI 0) _) _
  rw [gS_ok (by omega)]
  show Ok ((X7_copy 69 31 σ0).bind _) _
  have hs0 : CS T s σ0 31 := hs.keep (ne0 _ (by decide)) (ne0 _ (by decide)) (ne0 _ (by decide)) (ne0 _ (by decide)) (ne0 _ (by decide)) (ne0 _ (by decide))
  refine ok_bind (ok_fr (copy_ok (a := 69) (b := 31) hT (by omega) hs0) (fr_X7_copy _ _ _ Fr.refl)) ?_
  rintro σ1 ⟨a1, f1⟩
  have f1 : Fr [70, 71, 72, 73, 74] [(69, 5), (69, 6), (69, 7)] σ0 σ1 := f1
  have ne1 : ∀ a, ¬ (69 ≤ a ∧ a ≤ 74) → σ1.1 a = σ0.1 a := fun a ha => by
    funext b
    exact f1.1 a b (by simp; omega) (by simp; omega)
  have hT1 : CT T t σ1 := h.keep (fun a g1 g2 g3 g4 g5 => (ne1 a (by omega)).trans (ne0 a (by omega)))
  refine ok_bv ?_
  show Ok (X4_hoursOfBest_34 t 31 69 fu 0 σ1) _
  refine ok_loop0 (F := fun n i σ => X4_hoursOfBest_34 t 31 69 n i σ) (N := tN T) (I := fun j σ' => Fr [71] [(61, 6)] σ1 σ' ∧ (∀ p, p < tN T → σ'.1 71 p = if p < j then -1 else s 2 p) ∧ σ'.1 61 6 = nI (crs x s j 0).length) 0 σ1 (by omega) (by omega) ⟨Fr.refl, fun p hp => ?_, ?_⟩ ?_ ?_
  · rw [if_neg (by omega)]
    exact (a1.1 p hp).2.1
  · rw [ne1 61 (by decide)]
    exact v6
  · rintro n j σ2 hj ⟨f2, h71, h6⟩ hk
    have ne2 : ∀ a, a ≠ 71 → a ≠ 61 → σ2.1 a = σ1.1 a := fun a g1 g2 => by
      funext b
      exact f2.1 a b (by simp; omega) (by simp; omega)
    have e613 : σ2.1 61 3 = nI x := by
      rw [f2.1 61 3 (by simp) (by simp), ne1 61 (by decide)]
      exact v3
    have et : σ2.1 t = σ1.1 t := ne2 t (by omega) (by omega)
    show Ok (X4_hoursOfBest_34 t 31 69 (n + 1) (nI j) σ2) _
    rw [X4_hoursOfBest_34, et, hT1.1]
    refine ok_neg (by rw [ni_le (by omega) (by omega)]; omega) (ok_pos (ib_t (by omega) (by omega)) (ok_bv ?_))
    rw [ni_cl (by omega), sI_n (by decide), e613]
    refine ok_bindE (cell_ok _) (ok_pos (ib_t (by omega) (by omega)) ?_)
    rw [ni_cl (by omega)]
    show Ok (if (sI σ2 71 j (-1)).1 74 (6 * x + j) ≤ 0 then X4_hoursOfBest_80 t 31 69 (X4_hoursOfBest_34 t 31 69 n) (nI j) (sI σ2 71 j (-1)) else bv (sI (sI σ2 71 j (-1)) 61 6 ((sI σ2 71 j (-1)).1 61 6 + 1)) fun σ11 => X4_hoursOfBest_80 t 31 69 (X4_hoursOfBest_34 t 31 69 n) (nI j) σ11) _
    have e74 : (sI σ2 71 j (-1)).1 74 (6 * x + j) = s 5 (6 * x + j) := by
      rw [sI_n (by decide), ne2 74 (by decide) (by decide)]
      exact a1.2.1 _ (by omega)
    have h71' : ∀ p, p < tN T → (sI σ2 71 j (-1)).1 71 p = if p < j + 1 then -1 else s 2 p := fun p hp => by
      rw [sI_o, h71 p hp]
      by_cases z : p = j
      · rw [if_pos z, if_pos (by omega)]
      · rw [if_neg z]
        by_cases y : p < j
        · rw [if_pos y, if_pos (by omega)]
        · rw [if_neg y, if_neg (by omega)]
    have e6' : (sI σ2 71 j (-1)).1 61 6 = nI (crs x s j 0).length := by rw [sI_n (by decide)]; exact h6
    have ej : (crs x s (j + 1) 0).length = (crs x s j 0).length + (if s 5 (6 * x + j) = 0 then 0 else 1) := by
      rw [crs_app, Nat.zero_add, crs_s, List.length_append]
      split <;> rfl
    have hle := okD_le (okS_D hS.1) (i := x) (j := j) (by omega) (by omega)
    rw [e74, e6']
    refine ok_ite (fun z => ?_) (fun z => ?_)
    · rw [if_pos (hle.mp z)] at ej
      unfold X4_hoursOfBest_80
      refine ok_bv ?_
      rw [ni_succ]
      exact hk _ ⟨frI f2 (by simp), h71', by rw [ej]; exact e6'⟩
    · rw [if_neg (fun w => z (hle.mpr w))] at ej
      refine ok_bv ?_
      unfold X4_hoursOfBest_80
      refine ok_bv ?_
      rw [ni_succ, ni_succ]
      refine hk _ ⟨frIk (frI f2 (by simp)) (by simp), fun p hp => ?_, ?_⟩
      · rw [sI_n (by decide)]
        exact h71' p hp
      · rw [sI_e, ej]
  · rintro n σ2 ⟨f2, h71, h6⟩
    have ne2 : ∀ a, a ≠ 71 → a ≠ 61 → σ2.1 a = σ1.1 a := fun a g1 g2 => by
      funext b
      exact f2.1 a b (by simp; omega) (by simp; omega)
    have e613 : σ2.1 61 3 = nI x := by
      rw [f2.1 61 3 (by simp) (by simp), ne1 61 (by decide)]
      exact v3
    have e614 : σ2.1 61 4 = nI 301 := by
      rw [f2.1 61 4 (by simp) (by simp), ne1 61 (by decide)]
      exact v4
    have et : σ2.1 t = σ1.1 t := ne2 t (by omega) (by omega)
    show Ok (X4_hoursOfBest_34 t 31 69 (n + 1) (nI (tN T)) σ2) _
    rw [X4_hoursOfBest_34, et, hT1.1, e613]
    refine ok_pos (Int32.le_refl _) (ok_pos (ib_t (by omega) (by omega)) (ok_bv ?_))
    rw [ni_cl (by omega)]
    show Ok ((C_tryOrders 8 t (nI 0) (nI 0) (sI σ2 72 x (nI x))).bind _) _
    have hcs : CS T (plS (tN T) x s) (sI σ2 72 x (nI x)) (69 + 6 * 0) := by
      refine ⟨fun p hp => ⟨?_, ?_, ?_, ?_⟩, fun k hk => ?_, ?_, ?_, ?_⟩
      · rw [plS_o _ _ _ _ _ (by decide) (by decide), sI_n (by decide), ne2 _ (by decide) (by decide)]
        exact (a1.1 p hp).1
      · rw [plS_2 _ _ _ _ hp, sI_n (by decide)]
        show σ2.1 71 p = _
        rw [h71 p hp, if_pos hp]
      · rw [plS_3]
        show (sI σ2 72 x (nI x)).1 72 p = _
        rw [sI_o, ne2 72 (by decide) (by decide)]
        by_cases z : p = x
        · rw [if_pos z, if_pos z]
        · rw [if_neg z, if_neg z]
          exact (a1.1 p hp).2.2.1
      · rw [plS_o _ _ _ _ _ (by decide) (by decide), sI_n (by decide), ne2 _ (by decide) (by decide)]
        exact (a1.1 p hp).2.2.2
      · rw [plS_5, sI_n (by decide), ne2 _ (by decide) (by decide)]
        exact a1.2.1 k hk
      · rw [plS_o _ _ _ _ _ (by decide) (by decide), sI_n (by decide), ne2 _ (by decide) (by decide)]
        exact a1.2.2.1
      · rw [plS_o _ _ _ _ _ (by decide) (by decide), sI_n (by decide), ne2 _ (by decide) (by decide)]
        exact a1.2.2.2.1
      · rw [plS_o _ _ _ _ _ (by decide) (by decide), sI_n (by decide), ne2 _ (by decide) (by decide)]
        exact a1.2.2.2.2
    have hpc : PC T t x (crs x s (tN T) 0).length (sI σ2 72 x (nI x)) := by
      refine ⟨hT1.keep (fun a g1 g2 g3 g4 g5 => by funext b; rw [sI_n (by omega), ne2 a (by omega) (by omega)]), by rw [sI_n (by decide)]; exact e613, by rw [sI_n (by decide)]; exact h6, fun i hi => ?_⟩
      rw [sI_n (by decide), ne2 66 (by decide) (by decide), ne1 66 (by decide), ne0 66 (by decide)]
      exact h66 i hi
    have hp7 : (plS (tN T) x s 0 7) = s 0 7 := plS_o _ _ _ _ _ (by decide) (by decide)
    have := try_ok (K := (crs x s (tN T) 0).length) hT ht hx hK5 (crs x s (tN T) 0).length 8 0 0 (plS (tN T) x s) [] (301, []) (sI σ2 72 x (nI x)) (by omega) (by omega) rfl (by simp) (by rw [plS_crs]) (PG_plS hS.1 hx) (by rw [hp7]; have := hS.2; simp; omega) hpc hcs (fun j hj => by omega) ⟨by rw [sI_n (by decide)]; exact e614, by simp, fun w => by simp at w⟩
    refine ok_bind this ?_
    rintro σ3 ⟨k3, h3⟩
    rw [plS_crs] at h3
    have h3 : accP (crs x s (tN T) 0).length (bestF T x s) σ3 := h3
    have e6 := (hpc.keep ht k3).2.2.1
    rw [h3.1]
    have h301 := h3.2.1
    refine ok_ite (fun z => ?_) (fun z => ?_)
    · rw [show (300 : Int32) = nI 300 from rfl, ni_le (by omega) (by omega)] at z
      exact ok_some ⟨h3, e6, (if_pos z).symm⟩
    · rw [show (300 : Int32) = nI 300 from rfl, ni_le (by omega) (by omega)] at z
      exact ok_some ⟨h3, e6, (if_neg z).symm⟩
