/-! feed, end, step, untell, later -/
theorem and255 (y : Int32) : y &&& 255 = nI (y.toBitVec.toNat % 256) := by
  apply Int32.toBitVec_inj.mp
  apply BitVec.eq_of_toNat_eq
  rw [Int32.toBitVec_and, BitVec.toNat_and, show (255 : Int32).toBitVec.toNat = 2 ^ 8 - 1 by decide, Nat.and_two_pow_sub_one_eq_mod]
  show _ = (BitVec.ofNat 32 (y.toBitVec.toNat % 256)).toNat
  rw [BitVec.toNat_ofNat]
  omega
theorem b255_fin : ∀ i : Fin 8, (255#8).getLsbD i.val = true := by decide
theorem byte_eq {c : Nat} (hc : c = 24 ∨ c = 16 ∨ c = 8 ∨ c = 0) (x : Int32) : ((x.toUInt32 >>> ((nI c).toUInt32 &&& Int32.toUInt32 31)).toInt32).toInt8 = ((x >>> (nI c &&& 31)) &&& 255).toInt8 := by
  apply Int8.toBitVec_inj.mp
  apply BitVec.eq_of_getLsbD_eq
  intro i hi
  have h255 : (255#8).getLsbD i = true := b255_fin ⟨i, hi⟩
  have h32 : ¬ 32 ≤ i := by omega
  rcases hc with rfl | rfl | rfl | rfl
  · simp [Int32.toBitVec_and, Int32.toBitVec_shiftRight, UInt32.toBitVec_shiftRight, nI]
    rw [h255, Bool.and_true, BitVec.getLsbD_signExtend, BitVec.getLsbD_signExtend, if_pos (by omega), if_pos (by omega), BitVec.getLsbD_ushiftRight, BitVec.getLsbD_sshiftRight, if_pos (by omega), decide_eq_false h32]
    rfl
  · simp [Int32.toBitVec_and, Int32.toBitVec_shiftRight, UInt32.toBitVec_shiftRight, nI]
    rw [h255, Bool.and_true, BitVec.getLsbD_signExtend, BitVec.getLsbD_signExtend, if_pos (by omega), if_pos (by omega), BitVec.getLsbD_ushiftRight, BitVec.getLsbD_sshiftRight, if_pos (by omega), decide_eq_false h32]
    rfl
  · simp [Int32.toBitVec_and, Int32.toBitVec_shiftRight, UInt32.toBitVec_shiftRight, nI]
    rw [h255, Bool.and_true, BitVec.getLsbD_signExtend, BitVec.getLsbD_signExtend, if_pos (by omega), if_pos (by omega), BitVec.getLsbD_ushiftRight, BitVec.getLsbD_sshiftRight, if_pos (by omega), decide_eq_false h32]
    rfl
  · simp [Int32.toBitVec_and, Int32.toBitVec_shiftRight, UInt32.toBitVec_shiftRight, nI]
    intro _
    exact h255
def TapeR (k : Nat) (σ ρ : Mem) : Prop := σ.1 0 13 = nI k ∧ ρ.1 1000 1 = nI k ∧ ∀ i, i < k → byR (σ.1 1 i) (ρ.1 1001 i)
theorem put1 {c : Nat} (hc : c = 24 ∨ c = 16 ∨ c = 8 ∨ c = 0) (x : Int32) {k : Nat} {σ ρ : Mem} (hk : k < 1600) (h : TapeR k σ ρ) (n : Nat) : ∃ σ' ρ', X11_putOnTape_3 (n + 1) x (nI c) σ = X11_putOnTape_3 n x (nI c + (-8)) σ' ∧ X12_four_3 (n + 1) x (nI c) ρ = X12_four_3 n x (nI c + (-8)) ρ' ∧ TapeR (k + 1) σ' ρ' := by
  have hn : ¬ nI c < 0 := Int32.not_lt.mpr (ni_nn (by omega))
  refine ⟨sI (sI σ 1 k (((x.toUInt32 >>> ((nI c).toUInt32 &&& Int32.toUInt32 31)).toInt32).toInt8.toInt32)) 0 13 (nI (k + 1)), sI (sI ρ 1001 k ((x >>> (nI c &&& 31)) &&& 255)) 1000 1 (nI (k + 1)), ?_, ?_, ?_⟩
  · rw [X11_putOnTape_3, if_neg hn, h.1, if_neg (by rw [show (1600 : Int32) = nI 1600 from rfl, ni_le (by omega) (by omega)]; omega), if_pos (ib_t hk (by omega)), bv_eq, bv_eq, bv_eq, ni_cl (by omega), sI_n (by decide), h.1, ni_succ, Int8.toInt8_toInt32]
  · rw [X12_four_3, if_neg hn, h.2.1, if_pos (ib_t hk (by omega)), bv_eq, bv_eq, bv_eq, ni_cl (by omega), sI_n (by decide), h.2.1, ni_succ]
  · refine ⟨sI_e _ _ _ _, sI_e _ _ _ _, fun i hi => ?_⟩
    rw [sI_n (a := 1) (o := 0) (by decide), sI_n (a := 1001) (o := 1000) (by decide), sI_o, sI_o]
    by_cases z : i = k
    · rw [if_pos z, if_pos z]
      refine ⟨(x >>> (nI c &&& 31)).toBitVec.toNat % 256, by omega, and255 _, ?_⟩
      rw [byte_eq hc, and255]
    · rw [if_neg z, if_neg z]
      exact h.2.2 i (by omega)
theorem put4 (x : Int32) {k : Nat} {σ ρ : Mem} (hk : k + 4 ≤ 1600) (h : TapeR k σ ρ) : ∃ σ' ρ', X11_putOnTape x σ = some σ' ∧ X12_four x ρ = some ρ' ∧ TapeR (k + 4) σ' ρ' := by
  unfold X11_putOnTape X12_four
  rw [bv_eq, bv_eq, show fu = 4995 + 1 + 1 + 1 + 1 + 1 from rfl]
  obtain ⟨σ1, ρ1, a1, b1, h1⟩ := put1 (c := 24) (.inl rfl) x (by omega) h (4995 + 1 + 1 + 1 + 1)
  rw [show nI 24 + (-8) = nI 16 by decide] at a1 b1
  obtain ⟨σ2, ρ2, a2, b2, h2⟩ := put1 (c := 16) (.inr (.inl rfl)) x (by omega) h1 (4995 + 1 + 1 + 1)
  rw [show nI 16 + (-8) = nI 8 by decide] at a2 b2
  obtain ⟨σ3, ρ3, a3, b3, h3⟩ := put1 (c := 8) (.inr (.inr (.inl rfl))) x (by omega) h2 (4995 + 1 + 1)
  rw [show nI 8 + (-8) = nI 0 by decide] at a3 b3
  obtain ⟨σ4, ρ4, a4, b4, h4⟩ := put1 (c := 0) (.inr (.inr (.inr rfl))) x (by omega) h3 (4995 + 1)
  rw [show nI 0 + (-8) = -8 by decide] at a4 b4
  refine ⟨σ4, ρ4, ?_, ?_, h4⟩
  · rw [show (24 : Int32) = nI 24 from rfl, a1, a2, a3, a4, X11_putOnTape_3, if_pos (by decide)]
  · rw [show (24 : Int32) = nI 24 from rfl, b1, b2, b3, b4, X12_four_3, if_pos (by decide)]
/-- all of the invariant but the tape -/
theorem InvR.tape {σ σ' ρ ρ' : Mem} {L L' : List Nat} {K K' : List (Nat × Nat)} (h : InvR σ ρ) (f : Fr L K σ σ') (g : Fr L' K' ρ ρ') (c : offL L K (esA.erase 1) (esB.erase (0, 13)) = true) (c' : offL L' K' (esC.erase 1001) (esD.erase (1000, 1)) = true) (ht : I_tape σ' ρ') : InvR σ' ρ' := by
  obtain ⟨t, T, s, h1, h2, h3, h4, h5, h6, h7, h8, h9⟩ := h
  have k : ∀ (A : List Nat) (B : List (Nat × Nat)), (∀ a, a ∈ A → a ∈ esA.erase 1) → (∀ b, b ∈ B → b ∈ esB.erase (0, 13)) → offL L K A B = true := fun A B x y => offL_sub c x y
  have k' : ∀ (A : List Nat) (B : List (Nat × Nat)), (∀ a, a ∈ A → a ∈ esC.erase 1001) → (∀ b, b ∈ B → b ∈ esD.erase (1000, 1)) → offL L' K' A B = true := fun A B x y => offL_sub c' x y
  exact ⟨t, T, s, h1.keep f g (k _ _ (by decide) (by decide)) (k' _ _ (by decide) (by decide)), h2.keep f g (k _ _ (by decide) (by decide)) (k' _ _ (by decide) (by decide)), h3.keep f g (k _ _ (by decide) (by decide)) (k' _ _ (by decide) (by decide)), h4.keep f g (k _ _ (by decide) (by decide)) (k' _ _ (by decide) (by decide)), h5.keep f g (k _ _ (by decide) (by decide)) (k' _ _ (by decide) (by decide)), h6.keep f g (k _ _ (by decide) (by decide)) (k' _ _ (by decide) (by decide)), ht, h8.keep f g (k _ _ (by decide) (by decide)) (k' _ _ (by decide) (by decide)), h9.keep f g (k _ _ (by decide) (by decide)) (k' _ _ (by decide) (by decide))⟩
theorem s_feed (a0 a1 a2 a3 a4 : Int32) : StpI Inv (X11_feed a0 a1 a2 a3 a4) (X12_feed a0 a1 a2 a3 a4) := by
  refine stp (fun σ => fr_X11_feed a0 a1 a2 a3 a4 σ Fr.refl) (fun σ => fr_X12_feed a0 a1 a2 a3 a4 σ Fr.refl) (by decide) (by decide) (fun σ ρ hI => ?_)
  have hI0 := hI
  obtain ⟨t, T, s, -, -, -, -, -, -, ⟨k, hk, e1, e2, hb⟩, -, -⟩ := hI
  by_cases z : k + 20 ≤ 1600
  · obtain ⟨σ1, ρ1, a1', b1, h1⟩ := put4 a0 (by omega) (show TapeR k σ ρ from ⟨e1, e2, hb⟩)
    obtain ⟨σ2, ρ2, a2', b2, h2⟩ := put4 a1 (by omega) h1
    obtain ⟨σ3, ρ3, a3', b3, h3⟩ := put4 a2 (by omega) h2
    obtain ⟨σ4, ρ4, a4', b4, h4⟩ := put4 a3 (by omega) h3
    obtain ⟨σ5, ρ5, a5', b5, h5⟩ := put4 a4 (by omega) h4
    have eC : X11_feed a0 a1 a2 a3 a4 σ = some (nI (k + 20), σ5) := by
      unfold X11_feed
      rw [e1, show nI k + 20 = nI (k + 20) from ni_add k 20, if_pos (by rw [show (1600 : Int32) = nI 1600 from rfl, ni_le (by omega) (by omega)]; omega), a1', Option.bind_some, a2', Option.bind_some, a3', Option.bind_some, a4', Option.bind_some, a5', Option.bind_some, h5.1]
    have eM : X12_feed a0 a1 a2 a3 a4 ρ = some (nI (k + 20), ρ5) := by
      unfold X12_feed
      rw [e2, show nI k + 20 = nI (k + 20) from ni_add k 20, if_pos (by rw [show (1600 : Int32) = nI 1600 from rfl, ni_le (by omega) (by omega)]; omega), b1, Option.bind_some, b2, Option.bind_some, b3, Option.bind_some, b4, Option.bind_some, b5, Option.bind_some, h5.2.1]
    exact ⟨_, σ5, ρ5, eC, eM, hI0.tape (fr_X11_feed _ _ _ _ _ σ Fr.refl _ eC) (fr_X12_feed _ _ _ _ _ ρ Fr.refl _ eM) (by decide) (by decide) ⟨k + 20, z, h5⟩⟩
  · have hz : ¬ nI k + 20 ≤ 1600 := by rw [show nI k + 20 = nI (k + 20) from ni_add k 20, show (1600 : Int32) = nI 1600 from rfl, ni_le (by omega) (by omega)]; omega
    refine ⟨-1, σ, ρ, ?_, ?_, hI0⟩
    · unfold X11_feed
      rw [e1, if_neg hz]
    · unfold X12_feed
      rw [e2, if_neg hz]
theorem s_end (a0 : Int32) : StpI Inv (X11_end a0) (X12_end a0) := by
  refine stp (fun σ => fr_X11_end a0 σ Fr.refl) (fun σ => fr_X12_end a0 σ Fr.refl) (by decide) (by decide) (fun σ ρ hI => ?_)
  have hI0 := hI
  obtain ⟨t, T, s, -, -, -, -, -, -, ⟨k, hk, e1, e2, hb⟩, -, -⟩ := hI
  by_cases z : a0 < 0
  · refine ⟨-1, σ, ρ, ?_, ?_, hI0⟩
    · unfold X11_end
      rw [if_pos z]
    · unfold X12_end
      rw [if_pos z]
  · by_cases y : a0 ≤ nI k
    · obtain ⟨j, -, hj, rfl⟩ := rng (a := 0) (b := k) (by omega) (by omega) z y
      have eC : X11_end (nI j) σ = some (nI j, sI σ 0 13 (nI j)) := by
        unfold X11_end
        rw [if_neg z, e1, if_pos y]
        rfl
      have eM : X12_end (nI j) ρ = some (nI j, sI ρ 1000 1 (nI j)) := by
        unfold X12_end
        rw [if_neg z, e2, if_pos y]
        rfl
      refine ⟨_, _, _, eC, eM, hI0.tape (fr_X11_end _ σ Fr.refl _ eC) (fr_X12_end _ ρ Fr.refl _ eM) (by decide) (by decide) ⟨j, by omega, sI_e _ _ _ _, sI_e _ _ _ _, fun i hi => ?_⟩⟩
      show byR ((sI σ 0 13 (nI j)).1 1 i) ((sI ρ 1000 1 (nI j)).1 1001 i)
      rw [sI_n (by decide), sI_n (by decide)]
      exact hb i (by omega)
    · refine ⟨-1, σ, ρ, ?_, ?_, hI0⟩
      · unfold X11_end
        rw [if_neg z, e1, if_neg y]
      · unfold X12_end
        rw [if_neg z, e2, if_neg y]
/-- all of the invariant but the steps -/
theorem InvR.step {σ σ' ρ ρ' : Mem} {L L' : List Nat} {K K' : List (Nat × Nat)} {t : Nat} {T : Tn} {s : St} (h1 : I_town t T σ ρ) (h2 : I_now T s σ ρ) (h3 : I_hist T s σ ρ) (h4 : I_box T σ ρ) (h6 : I_lies σ ρ) (h7 : I_tape σ ρ) (h8 : I_fault σ ρ) (h9 : I_misc σ ρ) (f : Fr L K σ σ') (g : Fr L' K' ρ ρ') (c : offL L K (esA.filter (fun a => a < 115 || 119 < a)) (esB.filter (fun b => !(b.1 == 114))) = true) (c' : offL L' K' (esC.filter (fun a => a < 1045 || 1049 < a)) (esD.filter (fun b => !(b.2 == 86) && !(b.2 == 87))) = true) (ht : I_step T σ' ρ') : InvR σ' ρ' := by
  have k : ∀ (A : List Nat) (B : List (Nat × Nat)), (∀ a, a ∈ A → a ∈ esA.filter (fun a => a < 115 || 119 < a)) → (∀ b, b ∈ B → b ∈ esB.filter (fun b => !(b.1 == 114))) → offL L K A B = true := fun A B x y => offL_sub c x y
  have k' : ∀ (A : List Nat) (B : List (Nat × Nat)), (∀ a, a ∈ A → a ∈ esC.filter (fun a => a < 1045 || 1049 < a)) → (∀ b, b ∈ B → b ∈ esD.filter (fun b => !(b.2 == 86) && !(b.2 == 87))) → offL L' K' A B = true := fun A B x y => offL_sub c' x y
  exact ⟨t, T, s, h1.keep f g (k _ _ (by decide) (by decide)) (k' _ _ (by decide) (by decide)), h2.keep f g (k _ _ (by decide) (by decide)) (k' _ _ (by decide) (by decide)), h3.keep f g (k _ _ (by decide) (by decide)) (k' _ _ (by decide) (by decide)), h4.keep f g (k _ _ (by decide) (by decide)) (k' _ _ (by decide) (by decide)), ht, h6.keep f g (k _ _ (by decide) (by decide)) (k' _ _ (by decide) (by decide)), h7.keep f g (k _ _ (by decide) (by decide)) (k' _ _ (by decide) (by decide)), h8.keep f g (k _ _ (by decide) (by decide)) (k' _ _ (by decide) (by decide)), h9.keep f g (k _ _ (by decide) (by decide)) (k' _ _ (by decide) (by decide))⟩
theorem s_later (a0 : Int32) : StpI Inv (X11_later a0) (X12_later a0) := by
  refine stp (fun σ => fr_X11_later a0 σ Fr.refl) (fun σ => fr_X12_later a0 σ Fr.refl) (by decide) (by decide) (fun σ ρ hI => ?_)
  have hI0 := hI
  obtain ⟨t, T, s, h1, h2, h3, h4, ⟨c, tm, hc, htm, e1, e2, e3, e4, h5⟩, h6, h7, h8, h9⟩ := hI
  by_cases z : a0 < 0
  · refine ⟨-1, σ, ρ, ?_, ?_, hI0⟩
    · unfold X11_later X8_goOn
      rw [if_pos z]
      rfl
    · unfold X12_later
      rw [if_pos z]
  · by_cases y : 1000 < a0
    · refine ⟨-1, σ, ρ, ?_, ?_, hI0⟩
      · unfold X11_later X8_goOn
        rw [if_neg z, if_pos y]
        rfl
      · unfold X12_later
        rw [if_neg z, if_pos y]
    · obtain ⟨j, -, hj, rfl⟩ := rng (a := 0) (b := 1000) (by omega) (by omega) z (Int32.not_lt.mp y)
      by_cases x : tm + j ≤ 100000
      · have hx : nI tm + nI j ≤ 100000 := by rw [ni_add, show (100000 : Int32) = nI 100000 from rfl, ni_le (by omega) (by omega)]; exact x
        have eC : X11_later (nI j) σ = some (nI (tm + j), sI σ 114 7 (nI (tm + j))) := by
          unfold X11_later X8_goOn
          rw [if_neg z, if_neg y, e3, if_pos hx, bv_eq, ni_add, sI_e]
          rfl
        have eM : X12_later (nI j) ρ = some (nI (tm + j), sI ρ 1000 87 (nI (tm + j))) := by
          unfold X12_later
          rw [if_neg z, if_neg y, e4, if_pos hx, bv_eq, ni_add, sI_e]
        refine ⟨_, _, _, eC, eM, InvR.step h1 h2 h3 h4 h6 h7 h8 h9 (fr_X11_later _ σ Fr.refl _ eC) (fr_X12_later _ ρ Fr.refl _ eM) (by decide) (by decide) ⟨c, tm + j, hc, x, ?_, ?_, sI_e _ _ _ _, sI_e _ _ _ _, fun i hi => ?_⟩⟩
        · show (sI σ 114 7 _).1 114 6 = _
          rw [sI_k (by decide)]
          exact e1
        · show (sI ρ 1000 87 _).1 1000 86 = _
          rw [sI_k (by decide)]
          exact e2
        · have := h5 i hi
          show (∃ p, p < tN T ∧ (sI σ 114 7 _).1 115 i = nI p ∧ (sI ρ 1000 87 _).1 1045 i = nI p) ∧ (∃ h, h < tD T ∧ (sI σ 114 7 _).1 116 i = nI h ∧ (sI ρ 1000 87 _).1 1046 i = nI h) ∧ (sI σ 114 7 _).1 117 i = (sI ρ 1000 87 _).1 1047 i ∧ (sI σ 114 7 _).1 118 i = (sI ρ 1000 87 _).1 1048 i ∧ (sI σ 114 7 _).1 119 i = (sI ρ 1000 87 _).1 1049 i ∧ ((sI σ 114 7 _).1 119 i = -1 ∨ 0 ≤ (sI σ 114 7 _).1 119 i)
          simp only [sI_r, Nat.reduceEqDiff, false_and, if_false]
          exact this
      · have hx : ¬ nI tm + nI j ≤ 100000 := by rw [ni_add, show (100000 : Int32) = nI 100000 from rfl, ni_le (by omega) (by omega)]; exact x
        refine ⟨-1, σ, ρ, ?_, ?_, hI0⟩
        · unfold X11_later X8_goOn
          rw [if_neg z, if_neg y, e3, if_neg hx]
          rfl
        · unfold X12_later
          rw [if_neg z, if_neg y, e4, if_neg hx]
theorem s_untell (a0 : Int32) : StpI Inv (X11_untell a0) (X12_untell a0) := by
  refine stp (fun σ => fr_X11_untell a0 σ Fr.refl) (fun σ => fr_X12_untell a0 σ Fr.refl) (by decide) (by decide) (fun σ ρ hI => ?_)
  have hI0 := hI
  have z0 : (0 : Int32) &&& 1 = 0 := by decide
  have z1 : (1 : Int32) &&& 1 = 1 := by decide
  obtain ⟨t, T, s, h1, h2, h3, h4, ⟨c, tm, hc, htm, e1, e2, e3, e4, h5⟩, h6, h7, h8, h9⟩ := hI
  by_cases z : a0 < 0
  · refine ⟨0, σ, ρ, ?_, ?_, hI0⟩
    · unfold X11_untell X8_takeBack
      rw [if_pos z, Option.bind_some, z0]
    · unfold X12_untell
      rw [isIn_ok, Option.bind_some, decide_eq_false (Int32.not_le.mpr z)]
      rfl
  · by_cases y : nI c ≤ a0
    · refine ⟨0, σ, ρ, ?_, ?_, hI0⟩
      · unfold X11_untell X8_takeBack
        rw [if_neg z, e1, if_pos y, Option.bind_some, z0]
      · unfold X12_untell
        rw [isIn_ok, Option.bind_some, e2, decide_eq_false (fun g => Int32.not_lt.mpr g ((pred_lt (by omega) a0).mpr y)), Bool.and_false]
        rfl
    · have hin : tr (decide (0 ≤ a0) && decide (a0 ≤ nI c - 1)) = 1 := by
        rw [decide_eq_true (Int32.not_lt.mp z), decide_eq_true (Int32.not_lt.mp (fun g => y ((pred_lt (by omega) a0).mp g)))]
        rfl
      obtain ⟨k, hk, rfl⟩ := ni_of_lt z y (by omega)
      have bk := ib_t (n := k) (k := 30) (by omega) (by omega)
      have ck := ni_cl (n := k) (by omega)
      have h5k := h5 k hk
      by_cases x : σ.1 119 k = -1
      · have eC : X11_untell (nI k) σ = some (1, sI σ 119 k (nI tm)) := by
          unfold X11_untell X8_takeBack
          rw [if_neg z, e1, if_neg y, if_pos bk, ck, if_pos x, if_pos bk, bv_eq, e3, Option.bind_some, z1]
        have eM : X12_untell (nI k) ρ = some (1, sI ρ 1049 k (nI tm)) := by
          unfold X12_untell
          rw [isIn_ok, Option.bind_some, e2, hin, if_neg one_ne, if_pos bk, ck]
          show (if ρ.1 1049 k < 0 then _ else _) = _
          rw [← h5k.2.2.2.2.1, x, if_pos (by decide), if_pos bk, bv_eq]
          show some (1, sI ρ 1049 k (ρ.1 1000 87)) = _
          rw [e4]
        refine ⟨_, _, _, eC, eM, InvR.step h1 h2 h3 h4 h6 h7 h8 h9 (fr_X11_untell _ σ Fr.refl _ eC) (fr_X12_untell _ ρ Fr.refl _ eM) (by decide) (by decide) ⟨c, tm, hc, htm, ?_, ?_, ?_, ?_, fun i hi => ?_⟩⟩
        · exact e1
        · exact e2
        · exact e3
        · exact e4
        · have := h5 i hi
          show (∃ p, p < tN T ∧ (sI σ 119 k _).1 115 i = nI p ∧ (sI ρ 1049 k _).1 1045 i = nI p) ∧ (∃ h, h < tD T ∧ (sI σ 119 k _).1 116 i = nI h ∧ (sI ρ 1049 k _).1 1046 i = nI h) ∧ (sI σ 119 k _).1 117 i = (sI ρ 1049 k _).1 1047 i ∧ (sI σ 119 k _).1 118 i = (sI ρ 1049 k _).1 1048 i ∧ (sI σ 119 k _).1 119 i = (sI ρ 1049 k _).1 1049 i ∧ ((sI σ 119 k _).1 119 i = -1 ∨ 0 ≤ (sI σ 119 k _).1 119 i)
          simp only [sI_r, Nat.reduceEqDiff, false_and, if_false, true_and]
          by_cases w : i = k
          · simp only [w, if_true]
            rw [w] at this
            exact ⟨this.1, this.2.1, this.2.2.1, this.2.2.2.1, trivial, .inr (ni_nn (by omega))⟩
          · simp only [w, if_false]
            exact this
      · have hx0 : 0 ≤ σ.1 119 k := h5k.2.2.2.2.2.resolve_left x
        refine ⟨0, σ, ρ, ?_, ?_, hI0⟩
        · unfold X11_untell X8_takeBack
          rw [if_neg z, e1, if_neg y, if_pos bk, ck, if_neg x, Option.bind_some, z0]
        · unfold X12_untell
          rw [isIn_ok, Option.bind_some, e2, hin, if_neg one_ne, if_pos bk, ck]
          show (if ρ.1 1049 k < 0 then _ else _) = _
          rw [← h5k.2.2.2.2.1, if_neg (Int32.not_lt.mpr hx0)]
