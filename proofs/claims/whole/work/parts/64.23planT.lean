/-! plan: the class tries all orders -/
def accP (K : Nat) (a : Pa) (σ : Mem) : Prop := σ.1 61 4 = nI a.1 ∧ a.1 ≤ 301 ∧ (a.1 < 301 → a.2.length = K ∧ ∀ j, j < K → σ.1 68 j = nI (a.2.getD j 0))
theorem accP.keep {K : Nat} {a : Pa} {σ σ' : Mem} (h : accP K a σ) (e4 : σ'.1 61 4 = σ.1 61 4) (e : σ'.1 68 = σ.1 68) : accP K a σ' := by
  unfold accP
  rw [e4, e]
  exact h
theorem crs_len_le (x : Nat) (g : St) : ∀ r j, (crs x g r j).length ≤ r
  | 0, _ => Nat.le_refl _
  | r + 1, j => by
    rw [crs_s]
    have := crs_len_le x g r (j + 1)
    split
    · omega
    · rw [List.length_cons]
      omega
theorem crs_self {T : Tn} {x : Nat} {g : St} (hx : x < tN T) (hn : tN T ≤ 6) (hD : okD (tN T) (g 5)) : (crs x g (tN T) 0).length ≤ tN T - 1 := by
  have hz := (hD x x (by omega) (by omega)).2 (.inr (.inr rfl))
  rw [show tN T = x + (1 + (tN T - x - 1)) by omega, crs_app, List.length_append, Nat.zero_add, Nat.add_comm 1, crs_s, if_pos hz]
  have := crs_len_le x g x 0
  have := crs_len_le x g (tN T - x - 1) (x + 1)
  omega
theorem try_ok {T : Tn} {t x K : Nat} (hT : okT T) (ht : t = 7 ∨ t = 124) (hx : x < tN T) (hK : K ≤ 5) : ∀ (k e i h : Nat) (g : St) (pre : List Nat) (a : Pa) (σ : Mem), k < e → i + k = K → pre.length = i → h < a.1 → (crs x g (tN T) 0).length = k → PG T x g → (g 0 7).toInt + (301 - h : Nat) ≤ 3000 →
    PC T t x K σ → CS T g σ (69 + 6 * i) → (∀ j, j < i → σ.1 67 j = nI (pre.getD j 0)) → accP K a σ →
    Ok (C_tryOrders e t (nI i) (nI h) σ) (fun σ' => Kp t i σ σ' ∧ accP K ((perms k (crs x g (tN T) 0)).foldl (stepO T x g h pre) a) σ') := by
  have hn6 := hT.1
  intro k
  induction k with
  | zero =>
    intro e i h g pre a σ h1 h2 h3 h4 h5 h6 h7 hP hs h67 ha
    obtain ⟨e, rfl⟩ : ∃ q, e = q + 1 := ⟨e - 1, by omega⟩
    show Ok (X4_tryOrders (C_tryOrders e) t (nI i) (nI h) σ) _
    unfold X4_tryOrders
    rw [hP.2.2.1]
    refine ok_pos (by rw [ni_le (by omega) (by omega)]; omega) ?_
    unfold X4_tryOrders_14
    refine ok_bv (ok_pos (by decide) (ok_bv (ok_some ⟨?_, ?_⟩)))
    · intro b c g1 g2 g3 g4 g5 g6 g7 g8
      rw [sC_n g2, sI_r, if_neg g7]
    · have e0 : (perms 0 (crs x g (tN T) 0)).foldl (stepO T x g h pre) a = (h, pre ++ []) := by
        show stepO T x g h pre a [] = _
        unfold stepO
        exact if_pos h4
      rw [e0, List.append_nil]
      have := ha.2.1
      refine ⟨?_, by show h ≤ 301; omega, fun _ => ⟨by show pre.length = K; omega, fun j hj => ?_⟩⟩
      · rw [sC_n (by decide), sI_e]
      · rw [sC_o, show (0 : Int32).toNatClampNeg = 0 by decide, show (6 : Int32).toNatClampNeg = 6 by decide, if_pos (by omega), Nat.zero_add, Nat.sub_zero, sI_n (by decide)]
        exact h67 j (by omega)
  | succ k ih =>
    intro e i h g pre a σ h1 h2 h3 h4 h5 h6 h7 hP hs h67 ha
    obtain ⟨e, rfl⟩ : ∃ q, e = q + 1 := ⟨e - 1, by omega⟩
    have ha301 := ha.2.1
    show Ok (X4_tryOrders (C_tryOrders e) t (nI i) (nI h) σ) _
    unfold X4_tryOrders
    rw [hP.2.2.1]
    refine ok_neg (by rw [ni_le (by omega) (by omega)]; omega) (ok_pos (by rw [show (6 : Int32) = nI 6 from rfl, ni_lt (by omega) (by omega)]; omega) (ok_bv ?_))
    show Ok _ (fun σ' => Kp t i σ σ' ∧ accP K ((kidsP (perms k) [] (crs x g (tN T) 0)).foldl (stepO T x g h pre) a) σ')
    generalize hF : (kidsP (perms k) [] (crs x g (tN T) 0)).foldl (stepO T x g h pre) a = F
    refine ok_loop0 (F := fun n j (y : Pa × Mem) => X4_tryOrders_38 (C_tryOrders e) t n (nI i) (nI h) j y.2) (N := tN T) (I := fun j y => Kp t i σ y.2 ∧ accP K y.1 y.2 ∧ (kidsP (perms k) (crs x g j 0) (crs x g (tN T - j) j)).foldl (stepO T x g h pre) y.1 = F) 0 (a, σ) (by omega) (by omega) ⟨Kp.refl, ha, hF⟩ ?_ ?_
    · rintro n j ⟨b, σ1⟩ hj ⟨k1, hb, hE⟩ hk
      simp only [] at k1 hb hE
      have hP1 := hP.keep ht k1
      have hs1 := hs.kp (Nat.le_refl i) (by omega) ht k1
      have h671 : ∀ j, j < i → σ1.1 67 j = nI (pre.getD j 0) := fun j hj => (k1 _ _ (by omega) (by omega) (by omega) (by omega) (by omega) (by omega) (by omega) (by omega)).trans (h67 j hj)
      have hb301 := hb.2.1
      show Ok (X4_tryOrders_38 (C_tryOrders e) t (n + 1) (nI i) (nI h) (nI j) σ1) _
      rw [X4_tryOrders_38, hP1.1.1]
      refine ok_neg (by rw [ni_le (by omega) (by omega)]; omega) ?_
      rw [ni_cl (by omega), hP1.2.2.2 i (by omega), gS_ok (by omega), hP1.2.1]
      refine ok_bindE (cell_ok σ1) (ok_pos (ib_t (by omega) (by omega)) ?_)
      rw [ni_cl (by omega)]
      show Ok (if σ1.1 (69 + 6 * i + 5) (6 * x + j) ≤ 0 then _ else _) _
      rw [hs1.2.1 _ (by omega)]
      have go : ∀ b' σ', Kp t i σ σ' → accP K b' σ' → (kidsP (perms k) (crs x g (j + 1) 0) (crs x g (tN T - (j + 1)) (j + 1))).foldl (stepO T x g h pre) b' = F → Ok (X4_tryOrders_107 (C_tryOrders e) t (X4_tryOrders_38 (C_tryOrders e) t n) (nI i) (nI h) (nI j) σ') (fun σ' => Kp t i σ σ' ∧ accP K F σ') := by
        intro b' σ' q1 q2 q3
        unfold X4_tryOrders_107
        refine ok_bv ?_
        rw [ni_succ]
        exact hk (b', σ') ⟨q1, q2, q3⟩
      have er : tN T - j = (tN T - (j + 1)) + 1 := by omega
      rw [er, crs_s] at hE
      have ej : crs x g (j + 1) 0 = crs x g j 0 ++ (if g 5 (6 * x + j) = 0 then [] else [j]) := by
        rw [crs_app, Nat.zero_add, crs_s]
        split <;> rfl
      have hle := okD_le (okS_D h6.1) (i := x) (j := j) (by omega) (by omega)
      refine ok_ite (fun z => ?_) (fun z => ?_)
      · have z0 := hle.mp z
        rw [if_pos z0] at hE ej
        refine go b σ1 k1 hb ?_
        rw [ej, List.append_nil]
        exact hE
      · have z0 : ¬ g 5 (6 * x + j) = 0 := fun w => z (hle.mpr w)
        rw [if_neg z0] at hE ej
        have hjx : j ≠ x := fun w => z0 (by rw [w]; exact (okS_D h6.1 x x (by omega) (by omega)).2 (.inr (.inr rfl)))
        refine ok_pos (ib_t (by omega) (by omega)) (ok_bv ?_)
        show Ok ((X4_payOff t (nI i) (nI j) (nI h) (sI σ1 67 i (nI j))).bind _) _
        have k2 : Kp t i σ1 (sI σ1 67 i (nI j)) := fun a b g1 g2 g3 g4 g5 g6 g7 g8 => by
          rw [sI_r, if_neg (by omega)]
        have h672 : ∀ q, q < i + 1 → (sI σ1 67 i (nI j)).1 67 q = nI ((pre ++ [j]).getD q 0) := fun q hq => by
          rw [sI_o]
          by_cases w : q = i
          · rw [if_pos w, w, ← h3]
            simp
          · rw [if_neg w, h671 q (by omega)]
            simp only [List.getD]
            rw [List.getElem?_append_left (by omega)]
        have hb2 : accP K b (sI σ1 67 i (nI j)) := hb.keep (sI_n (by decide) _) (by funext q; exact sI_n (by decide) _)
        refine ok_bind (payOff_ok (K := K) (L := b.1) hT ht hx hj hjx (by omega) hb301 (by omega) h6 h7 (hP1.keep ht k2) hb2.1 (hs1.kp (Nat.le_refl i) (by omega) ht k2)) ?_
        rintro ⟨v, σ3⟩ ⟨c1, c2, c3, c4, c5⟩
        have k3 : Kp t i σ σ3 := (k1.trans k2).trans c1
        have hb3 : accP K b σ3 := hb2.keep (c2.trans hb2.1.symm) c4
        refine ok_bv ?_
        show Ok (if σ3.1 61 4 ≤ v then _ else _) _
        rw [c2]
        unfold kidsP at hE
        rw [List.foldl_append] at hE
        have hpl := payT_le T x j (301 - h) (aimS g x (nI j))
        rcases c5 with ⟨u1, u2⟩ | ⟨u1, u2, u3⟩
        · have u2 : v = nI b.1 := u2
          rw [u2]
          refine ok_pos (Int32.le_refl _) (go b σ3 k3 hb3 ?_)
          rw [block_no u1] at hE
          rw [ej]
          exact hE
        · have u2 : v = _ := u2
          obtain ⟨p1, p2⟩ := PG_aim h6 hx hj hjx
          have hpa : (aimS g x (nI j) 0 7).toInt = (g 0 7).toInt := rfl
          obtain ⟨w1, w2, w3⟩ := PG_payT hT hx hj (301 - h) (aimS g x (nI j)) p1 p2 (by rw [hpa]; exact h7)
          have wz := payT_z T x j (301 - h) (aimS g x (nI j)) (by omega)
          rw [block_go] at hE
          rw [u2]
          generalize payT T x j (301 - h) (aimS g x (nI j)) = R at *
          have hcr : crs x R.2 (tN T) 0 = crs x g j 0 ++ crs x g (tN T - (j + 1)) (j + 1) := crs_cut (g := g) (by omega) wz (fun d q1 q2 => w3 d q1 q2)
          have hlen : (crs x R.2 (tN T) 0).length = k := by
            rw [hcr]
            have q := h5
            rw [show tN T = j + ((tN T - (j + 1)) + 1) by omega, crs_app, Nat.zero_add, crs_s, if_neg z0, List.length_append, List.length_cons] at q
            rw [List.length_append]
            omega
          refine ok_neg (by rw [ni_le (by omega) (by omega)]; omega) ?_
          rw [ni_succ]
          refine ok_bind (ih e (i + 1) (h + R.1) R.2 (pre ++ [j]) b σ3 (by omega) (by omega) (by rw [List.length_append, h3]; rfl) u1 hlen w1 (by rw [w2, hpa]; omega) (hP.keep ht k3) u3 (fun q hq => by rw [c3]; exact h672 q hq) hb3) ?_
          rintro σ4 ⟨d1, d2⟩
          refine go _ σ4 (k3.trans d1.up) d2 ?_
          rw [hcr, ej]
          exact hE
    · rintro n ⟨b, σ1⟩ ⟨k1, hb, hE⟩
      simp only [] at k1 hb hE
      show Ok (X4_tryOrders_38 (C_tryOrders e) t (n + 1) (nI i) (nI h) (nI (tN T)) σ1) _
      rw [X4_tryOrders_38, (hP.keep ht k1).1.1]
      rw [Nat.sub_self] at hE
      refine ok_pos (Int32.le_refl _) (ok_some ⟨k1, ?_⟩)
      have hE : b = F := hE
      rw [← hE]
      exact hb
