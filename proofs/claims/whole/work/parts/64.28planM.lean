/-! plan: the reference -/
def accR (K : Nat) (a : Pa) (ρ : Mem) : Prop := a.1 ≤ 301 ∧ (¬ a.1 < 301 → ρ.1 1000 75 = 0) ∧ (a.1 < 301 → ρ.1 1000 75 = nI K ∧ ∀ j, j < K → ρ.1 1042 j = nI (a.2.getD j 0))
def Lp : List Nat := [1010, 1011, 1029, 1030, 1031, 1032, 1033, 1034, 1035, 1036, 1037, 1038, 1041, 1042]
def Kq : List (Nat × Nat) := [(1000, 62), (1000, 63), (1000, 75)]
theorem crs_mem (x : Nat) (g : St) : ∀ (r j c : Nat), c ∈ crs x g r j → j ≤ c ∧ c < j + r ∧ ¬ g 5 (6 * x + c) = 0
  | 0, _, _, h => by cases h
  | r + 1, j, c, h => by
    rw [crs_s] at h
    split at h
    · have := crs_mem x g r (j + 1) c h
      exact ⟨by omega, by omega, this.2.2⟩
    · rename_i z
      rcases List.mem_cons.mp h with q | q
      · subst q
        exact ⟨Nat.le_refl _, by omega, z⟩
      · have := crs_mem x g r (j + 1) c q
        exact ⟨by omega, by omega, this.2.2⟩
theorem plan102_ok {T : Tn} {s : St} {x : Nat} {ρ0 : Mem} (hT : okT T) (hS : okN T s) (hx : x < tN T) (hM : MN T ρ0) (hR : rowR (tN T) s (ρ0.1 1028)) (h1 : 1 ≤ (crs x s (tN T) 0).length) (h40 : ∀ j, j < (crs x s (tN T) 0).length → ρ0.1 1040 j = nI ((crs x s (tN T) 0).getD j 0)) (h74 : ρ0.1 1000 74 = nI (crs x s (tN T) 0).length) (h75 : ρ0.1 1000 75 = 0) :
    Ok (X12_plan_102 fu (nI x) (nI (fct (crs x s (tN T) 0).length)) (nI 301) 0 ρ0) (fun r => accR (crs x s (tN T) 0).length (bestF T x s) r.2 ∧ r.1 = if (bestF T x s).1 ≤ 300 then nI (bestF T x s).1 else -1) := by
  have hn6 := hT.1
  have hK5 : (crs x s (tN T) 0).length ≤ 5 := by
    have := crs_self hx hn6 (okS_D hS.1)
    omega
  have hmem : ∀ c, c ∈ crs x s (tN T) 0 → c < tN T ∧ c ≠ x := fun c hc => by
    have := crs_mem x s (tN T) 0 c hc
    refine ⟨by omega, fun e => this.2.2 ?_⟩
    rw [e]
    exact (okS_D hS.1 x x (by omega) (by omega)).2 (.inr (.inr rfl))
  have hB : bestF T x s = (perms (crs x s (tN T) 0).length (crs x s (tN T) 0)).foldl (stepO T x (plS (tN T) x s) 0 []) (301, []) := rfl
  generalize hK : (crs x s (tN T) 0).length = K at *
  generalize crs x s (tN T) 0 = cs at *
  generalize bestF T x s = B at *
  obtain ⟨hpl, hpg⟩ := perms_get K cs hK
  have hf720 : fct K ≤ 720 := fct_le ⟨K, by omega⟩
  have nK : ¬ nI K = 0 := fun e => by
    rw [ni_z (by omega)] at e
    omega
  refine ok_loop0 (F := fun n N (y : Pa × Mem) => X12_plan_102 n (nI x) (nI (fct K)) (nI y.1.1) N y.2) (N := fct K) (I := fun N y => ((perms K cs).drop N).foldl (stepO T x (plS (tN T) x s) 0 []) y.1 = B ∧ accR K y.1 y.2 ∧ Fr Lp Kq ρ0 y.2) 0 ((301, []), ρ0) (by omega) (by omega) ⟨by rw [hB]; rfl, ⟨by simp, fun _ => h75, fun w => by simp at w⟩, Fr.refl⟩ ?_ ?_
  · rintro n N ⟨a, ρ1⟩ hN ⟨hE, ha, hf⟩ hk
    simp only [] at hE ha hf
    have ha301 := ha.1
    have g1 := hf.off (A := [1006, 1007, 1008, 1020, 1021, 1022, 1023, 1024, 1025, 1028, 1040]) (B := [(1000, 45), (1000, 46), (1000, 52), (1000, 53), (1000, 54), (1000, 74)]) (by decide)
    have e74 : ρ1.1 1000 74 = nI K := (g1.2 _ _ (by decide)).trans h74
    have hdr : (perms K cs).drop N = decO K cs N :: (perms K cs).drop (N + 1) := by
      have hlt : N < (perms K cs).length := by omega
      have := hpg N hN
      rw [List.getElem?_eq_getElem hlt] at this
      rw [List.drop_eq_getElem_cons hlt, Option.some.inj this]
    rw [hdr, List.foldl_cons] at hE
    show Ok (X12_plan_102 (n + 1) (nI x) (nI (fct K)) (nI a.1) (nI N) ρ1) _
    rw [X12_plan_102]
    refine ok_neg (by rw [ni_le (by omega) (by omega)]; omega) ?_
    refine ok_bind (layOrder_ok (K := K) (cs := cs) hK5 h1 hK (fun j hj => by rw [g1.1 1040 (by decide)]; exact h40 j hj) e74 hN) ?_
    rintro ρ2 ⟨f2, h41⟩
    have f2' : Fr Lp Kq ρ0 ρ2 := hf.trans (f2.mono (by decide) (by decide))
    have g2 := f2'.off (A := [1006, 1007, 1008, 1020, 1021, 1022, 1023, 1024, 1025, 1028, 1040]) (B := [(1000, 45), (1000, 46), (1000, 52), (1000, 53), (1000, 54), (1000, 74)]) (by decide)
    refine ok_bind (ok_fr (hoursBy_ok (o := decO K cs N) (K := K) (L := a.1) (s := s) hT hS hx ha301 hK5 (decO_len K cs N) h41 (fun c hc => hmem c (decO_mem K cs N hK hN c hc)) (hM.keep f2' (by decide)) (by rw [g2.1 1028 (by decide)]; exact hR) ((g2.2 _ _ (by decide)).trans h74)) (fr_X12_hoursBy _ _ _ Fr.refl)) ?_
    rintro ⟨v, ρ3⟩ ⟨hv, f3⟩
    have hv : v = _ := hv
    have f3 : Fr L_X12_hoursBy K_X12_hoursBy ρ2 ρ3 := f3
    have f3' : Fr Lp Kq ρ0 ρ3 := f2'.trans (f3.mono (by decide) (by decide))
    have g3 := f3.off (A := [1041, 1042]) (B := [(1000, 75)]) (by decide)
    have g2' := f2.off (A := [1042]) (B := [(1000, 75)]) (by decide)
    have e75 : ρ3.1 1000 75 = ρ1.1 1000 75 := (g3.2 _ _ (by decide)).trans (g2'.2 _ _ (by decide))
    have e42 : ρ3.1 1042 = ρ1.1 1042 := (g3.1 _ (by decide)).trans (g2'.1 _ (by decide))
    have h41' : ∀ j, j < K → ρ3.1 1041 j = nI ((decO K cs N).getD j 0) := fun j hj => by
      rw [g3.1 1041 (by decide)]
      exact h41 j hj
    refine ok_bv ?_
    show Ok (if v < nI a.1 then _ else _) _
    rw [hv]
    have ho301 := ordT_le T x (decO K cs N) (plS (tN T) x s) 0 (by omega)
    have hst : stepO T x (plS (tN T) x s) 0 [] a (decO K cs N) = if ordT T x (decO K cs N) (plS (tN T) x s) 0 < a.1 then (ordT T x (decO K cs N) (plS (tN T) x s) 0, decO K cs N) else a := rfl
    generalize ordT T x (decO K cs N) (plS (tN T) x s) 0 = w at *
    rw [hst] at hE
    refine ok_ite (fun z => ?_) (fun z => ?_)
    · rw [ni_lt (by omega) (by omega)] at z
      have z' : w < a.1 := by omega
      rw [if_pos z'] at hE
      rw [Nat.min_eq_right (by omega)]
      refine ok_bv ?_
      refine ok_loop0 (F := fun n j ρ => X12_plan_137 (X12_plan_174 (X12_plan_102 _)) n (nI x) (nI (fct K)) (nI w) (nI N) j ρ) (N := K) (I := fun j ρ' => Fr [1042] [] ρ3 ρ' ∧ ∀ q, q < j → ρ'.1 1042 q = nI ((decO K cs N).getD q 0)) 0 ρ3 (by omega) (by omega) ⟨Fr.refl, fun q hq => by omega⟩ ?_ ?_
      · rintro n' j ρ4 hj ⟨f4, h42⟩ hk'
        have e74' : ρ4.1 1000 74 = nI K := by
          rw [f4.ne (a := 1000) (by decide), (f3'.off (A := []) (B := [(1000, 74)]) (by decide)).2 1000 74 (by decide)]
          exact h74
        show Ok (X12_plan_137 (X12_plan_174 (X12_plan_102 _)) (n' + 1) (nI x) (nI (fct K)) (nI w) (nI N) (nI j) ρ4) _
        rw [X12_plan_137, e74']
        refine ok_neg (by rw [ni_le (by omega) (by omega)]; omega) (ok_pos (ib_t (by omega) (by omega)) (ok_pos (ib_t (by omega) (by omega)) (ok_bv (ok_bv ?_))))
        rw [ni_cl (by omega), ni_succ, f4.ne (a := 1041) (by decide), h41' j hj]
        refine hk' _ ⟨frI f4 (.head _), fun q hq => ?_⟩
        rw [sI_o]
        by_cases y : q = j
        · rw [if_pos y, y]
        · rw [if_neg y]
          exact h42 q (by omega)
      · rintro n' ρ4 ⟨f4, h42⟩
        have e74' : ρ4.1 1000 74 = nI K := by
          rw [f4.ne (a := 1000) (by decide), (f3'.off (A := []) (B := [(1000, 74)]) (by decide)).2 1000 74 (by decide)]
          exact h74
        show Ok (X12_plan_137 (X12_plan_174 (X12_plan_102 _)) (n' + 1) (nI x) (nI (fct K)) (nI w) (nI N) (nI K) ρ4) _
        rw [X12_plan_137, e74']
        refine ok_pos (Int32.le_refl _) (ok_bv ?_)
        unfold X12_plan_174
        refine ok_bv ?_
        rw [ni_succ]
        refine hk ((w, decO K cs N), sI ρ4 1000 75 (nI K)) ⟨hE, ⟨by omega, fun q => absurd (show w < 301 by omega) q, fun _ => ⟨sI_e _ _ _ _, fun j hj => ?_⟩⟩, frIk (f3'.trans (f4.mono (by decide) (by decide))) (by decide)⟩
        rw [sI_n (by decide)]
        exact h42 j hj
    · rw [ni_lt (by omega) (by omega)] at z
      have z' : ¬ w < a.1 := by omega
      rw [if_neg z'] at hE
      unfold X12_plan_174
      refine ok_bv ?_
      rw [ni_succ]
      refine hk (a, ρ3) ⟨hE, ?_, f3'⟩
      unfold accR
      rw [e75, e42]
      exact ha
  · rintro n ⟨a, ρ1⟩ ⟨hE, ha, hf⟩
    simp only [] at hE ha hf
    have ha301 := ha.1
    rw [List.drop_eq_nil_of_le (by omega)] at hE
    have hE : a = B := hE
    show Ok (X12_plan_102 (n + 1) (nI x) (nI (fct K)) (nI a.1) (nI (fct K)) ρ1) _
    rw [X12_plan_102]
    refine ok_pos (Int32.le_refl _) ?_
    rw [← hE]
    by_cases z : a.1 < 301
    · rw [(ha.2.2 z).1]
      exact ok_neg nK (ok_some ⟨ha, (if_pos (by omega)).symm⟩)
    · rw [ha.2.1 z]
      exact ok_pos rfl (ok_some ⟨ha, (if_neg (by omega)).symm⟩)
