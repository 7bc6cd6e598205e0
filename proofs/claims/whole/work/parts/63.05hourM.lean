/-! an hour of the reference -/
def offL (L : List Nat) (K : List (Nat × Nat)) (A : List Nat) (B : List (Nat × Nat)) : Bool :=
  A.all (fun a => !L.contains a && K.all (fun k => !(k.1 == a))) && B.all (fun b => !L.contains b.1 && !K.contains b)
theorem Fr.off {L : List Nat} {K : List (Nat × Nat)} {A : List Nat} {B : List (Nat × Nat)} {σ σ' : Mem} (h : Fr L K σ σ') (ho : offL L K A B = true) :
    (∀ a, a ∈ A → σ'.1 a = σ.1 a) ∧ (∀ a b, (a, b) ∈ B → σ'.1 a b = σ.1 a b) := by
  unfold offL at ho
  rw [Bool.and_eq_true, List.all_eq_true, List.all_eq_true] at ho
  refine ⟨fun a ha => ?_, fun a b hb => ?_⟩
  · have h1 := ho.1 a ha
    rw [Bool.and_eq_true, List.all_eq_true] at h1
    funext b
    refine h.1 a b (fun z => ?_) (fun z => ?_)
    · rw [List.contains_iff_mem.mpr z] at h1
      exact absurd h1.1 (by decide)
    · have := h1.2 (a, b) z
      simp at this
  · have h1 := ho.2 (a, b) hb
    rw [Bool.and_eq_true] at h1
    refine h.1 a b (fun z => ?_) (fun z => ?_)
    · rw [List.contains_iff_mem.mpr z] at h1
      exact absurd h1.1 (by decide)
    · rw [List.contains_iff_mem.mpr z] at h1
      exact absurd h1.2 (by decide)
def MPg (T : Tn) (ρ : Mem) (w : Nat) : Prop := match tP T w with
  | none => ρ.1 1000 (52 + w) = 0
  | some pr => ρ.1 1000 (52 + w) = 1 ∧ FM pr ρ w
/-- the reference's town, as an hour reads it -/
def MT (T : Tn) (ρ : Mem) : Prop := ρ.1 1000 45 = nI (tN T) ∧ ρ.1 1000 46 = nI (tD T) ∧
  (∀ p, p < tN T → ρ.1 1020 p = tR T 1 p ∧ ρ.1 1034 p = tR T 2 p ∧ ρ.1 1034 p + ρ.1 1022 p - ρ.1 1021 p = tR T 3 p ∧ ρ.1 1023 p = tR T 4 p ∧ ρ.1 1024 p = tR T 5 p ∧ ρ.1 1025 p = tR T 6 p) ∧
  MPg T ρ 0 ∧ MPg T ρ 1 ∧ MPg T ρ 2
/-- the reference's working rows hold s -/
def MW (T : Tn) (s : St) (ρ : Mem) : Prop := (∀ p, p < tN T → ρ.1 1029 p = s 1 p ∧ ρ.1 1030 p = s 2 p ∧ ρ.1 1031 p = s 3 p ∧ ρ.1 1032 p = s 4 p) ∧ (∀ k, k < 36 → ρ.1 1033 k = s 5 k) ∧ ρ.1 1000 62 = s 0 5 ∧ ρ.1 1000 63 = s 0 6
def MTa : List Nat := [1006, 1007, 1008, 1020, 1021, 1022, 1023, 1024, 1025, 1034]
def MTb : List (Nat × Nat) := [(1000, 45), (1000, 46), (1000, 52), (1000, 53), (1000, 54)]
theorem FM.keep {pr : Pg} {ρ ρ' : Mem} {w : Nat} (h : FM pr ρ w) (e6 : ρ'.1 1006 = ρ.1 1006) (e7 : ρ'.1 1007 = ρ.1 1007) (e8 : ρ'.1 1008 = ρ.1 1008) : FM pr ρ' w := by
  unfold FM
  rw [e6, e7, e8]
  exact h
theorem MPg.keep {T : Tn} {ρ ρ' : Mem} {w : Nat} (h : MPg T ρ w) (e6 : ρ'.1 1006 = ρ.1 1006) (e7 : ρ'.1 1007 = ρ.1 1007) (e8 : ρ'.1 1008 = ρ.1 1008) (e : ρ'.1 1000 (52 + w) = ρ.1 1000 (52 + w)) : MPg T ρ' w := by
  unfold MPg at h ⊢
  split
  · rename_i z
    rw [z] at h
    rw [e]
    exact h
  · rename_i z
    rw [z] at h
    rw [e]
    exact ⟨h.1, h.2.keep e6 e7 e8⟩
theorem MT.keep {T : Tn} {ρ ρ' : Mem} (h : MT T ρ) (ha : ∀ a, a ∈ MTa → ρ'.1 a = ρ.1 a) (hb : ∀ a b, (a, b) ∈ MTb → ρ'.1 a b = ρ.1 a b) : MT T ρ' := by
  have e6 := ha 1006 (by decide)
  have e7 := ha 1007 (by decide)
  have e8 := ha 1008 (by decide)
  refine ⟨(hb _ _ (by decide)).trans h.1, (hb _ _ (by decide)).trans h.2.1, fun p hp => ?_, h.2.2.2.1.keep e6 e7 e8 (hb _ _ (by decide)), h.2.2.2.2.1.keep e6 e7 e8 (hb _ _ (by decide)), h.2.2.2.2.2.keep e6 e7 e8 (hb _ _ (by decide))⟩
  rw [ha 1020 (by decide), ha 1034 (by decide), ha 1022 (by decide), ha 1021 (by decide), ha 1023 (by decide), ha 1024 (by decide), ha 1025 (by decide)]
  exact h.2.2.1 p hp
theorem tr_and (b : Bool) : tr b &&& 1 = tr b := by cases b <;> decide
theorem tr_ne (b : Bool) : tr b = 0 ↔ b = false := by cases b <;> decide
theorem okT_n {T : Tn} (h : okT T) : tN T ≤ 6 := h.1
/-- what an hour's walk of the reference reads: the town and the aims, whoms, date and hour -/
def MR (T : Tn) (s : St) (ρ : Mem) : Prop := MT T ρ ∧ (∀ p, p < tN T → ρ.1 1030 p = s 2 p ∧ ρ.1 1031 p = s 3 p) ∧ ρ.1 1000 62 = s 0 5 ∧ ρ.1 1000 63 = s 0 6
theorem MR.keep {T : Tn} {s : St} {ρ ρ' : Mem} {L : List Nat} {K : List (Nat × Nat)} (h : MR T s ρ) (f : Fr L K ρ ρ') (ho : offL L K (1030 :: 1031 :: MTa) ((1000, 62) :: (1000, 63) :: MTb) = true) : MR T s ρ' := by
  have g := f.off ho
  refine ⟨h.1.keep (fun a ha => g.1 a (.tail _ (.tail _ ha))) (fun a b hb => g.2 a b (.tail _ (.tail _ hb))), fun p hp => ?_, (g.2 _ _ (.head _)).trans h.2.2.1, (g.2 _ _ (.tail _ (.head _))).trans h.2.2.2⟩
  rw [g.1 1030 (.head _), g.1 1031 (.tail _ (.head _))]
  exact h.2.1 p hp
theorem doesRest_ok {T : Tn} {s : St} {ρ : Mem} (hT : okT T) (h : MR T s ρ) {p : Nat} (hp : p < tN T) : X12_doesRest (nI p) ρ = some (tr (rsts T (s 0 6) p), ρ) := by
  have := hT.1
  have b := ib_t (n := p) (k := 6) (by omega) (by omega)
  have c := ni_cl (n := p) (by omega)
  unfold X12_doesRest rsts
  rw [if_pos b, c, h.1.2.1, (h.1.2.2.1 p hp).2.2.2.2.1, h.2.2.2]
  by_cases z : s 0 6 < nI (tD T) - tR T 5 p
  · rw [if_pos z, decide_eq_false (Int32.not_le.mpr z)]
    rfl
  · rw [if_neg z, decide_eq_true (Int32.not_lt.mp z)]
    rfl
theorem okS_aim {T : Tn} {s : St} (h : okS T s) {p : Nat} (hp : p < tN T) : s 2 p = -1 ∨ ∃ q, q < tN T ∧ q ≠ p ∧ s 2 p = nI q := (h.1 p hp).1
theorem goOut1_ok {T : Tn} {s : St} {ρ : Mem} (hT : okT T) (hS : okS T s) (h : MR T s ρ) (hp : ∀ p, p < tN T → ρ.1 1029 p = s 1 p) {Q : Mem → Prop}
    (hq : ∀ ρ', Fr [1035] [] ρ ρ' → (∀ p, p < tN T → ρ'.1 1035 p = tr (mts T s p)) → Ok (X12_goOut_81 fu 0 ρ') Q) : Ok (X12_goOut ρ) Q := by
  have hn := hT.1
  unfold X12_goOut
  refine ok_bv ?_
  refine ok_loop0 (F := fun n i ρ => X12_goOut_2 n i ρ) (N := tN T) (I := fun i ρ' => Fr [1035] [] ρ ρ' ∧ ∀ p, p < i → ρ'.1 1035 p = tr (mts T s p)) 0 ρ (by omega) (by omega) ⟨Fr.refl, fun p hp => by omega⟩ ?_ ?_
  · intro n i ρ' hi ⟨hf, hI⟩ hk
    have hR := h.keep hf (by decide)
    have e29 : ρ'.1 1029 = ρ.1 1029 := (hf.off (A := [1029]) (B := []) (by decide)).1 _ (by decide)
    have bi := ib_t (n := i) (k := 6) (by omega) (by omega)
    have ci := ni_cl (n := i) (by omega)
    have hw : ∀ b : Bool, mts T s i = b → Ok (X12_goOut_72 (X12_goOut_2 n) (nI i) (tr b) (nI i) ρ') Q := by
      intro b hb
      unfold X12_goOut_72
      refine ok_pos bi (ok_bv (ok_bv ?_))
      rw [ci, tr_and, ni_succ]
      refine hk _ ⟨frI hf (.head _), fun p hp => ?_⟩
      rw [sI_o]
      by_cases z : p = i
      · rw [if_pos z, z, hb]
      · rw [if_neg z]
        exact hI p (by omega)
    show Ok (X12_goOut_2 (n + 1) (nI i) ρ') Q
    rw [X12_goOut_2, hR.1.1]
    refine ok_neg (by rw [ni_le (by omega) (by omega)]; omega) (ok_pos bi (ok_bv ?_))
    rw [ci, (hR.2.1 i hi).1]
    rcases okS_aim hS hi with e | ⟨q, hq, hqi, e⟩
    · have hm : mts T s i = false := by unfold mts; rw [e]; rfl
      rw [e]
      exact ok_pos neg1_lt (hw false hm)
    · have bq := ib_t (n := q) (k := 6) (by omega) (by omega)
      have cq := ni_cl (n := q) (by omega)
      have hm : mts T s i = (decide (s 2 q = nI i) && decide (s 1 q = s 1 i) && !rsts T (s 0 6) i && !rsts T (s 0 6) q) := by
        unfold mts
        rw [e, show ix (nI q) = q from cq, decide_eq_true (ni_ne_neg (by omega)), Bool.true_and]
      rw [e]
      refine ok_neg (Int32.not_lt.mpr (ni_nn (by omega))) (ok_pos bq ?_)
      rw [cq, (hR.2.1 q hq).1]
      refine ok_ite (fun z1 => ?_) (fun z1 => ?_)
      · refine ok_pos bi (ok_pos bq ?_)
        rw [e29, hp i hi, hp q hq]
        refine ok_ite (fun z2 => ?_) (fun z2 => ?_)
        · refine ok_bindE (doesRest_ok hT hR hi) ?_
          refine ok_ite (fun z3 => ?_) (fun z3 => ?_)
          · refine ok_bindE (doesRest_ok hT hR hq) ?_
            rw [tr_ne] at z3
            refine ok_ite (fun z4 => ?_) (fun z4 => ?_)
            · rw [tr_ne] at z4
              exact hw true (by rw [hm, z3, z4, decide_eq_true z1, decide_eq_true z2.symm]; rfl)
            · rw [tr_ne] at z4
              exact hw false (by rw [hm, Bool.eq_true_of_not_eq_false z4, Bool.not_true, Bool.and_false])
          · rw [tr_ne] at z3
            exact hw false (by rw [hm, Bool.eq_true_of_not_eq_false z3, Bool.not_true, Bool.and_false, Bool.false_and])
        · exact hw false (by rw [hm, decide_eq_false (fun z => z2 z.symm), Bool.and_false, Bool.false_and, Bool.false_and])
      · exact hw false (by rw [hm, decide_eq_false z1, Bool.false_and, Bool.false_and, Bool.false_and])
  · intro n ρ' ⟨hf, hI⟩
    have hR := h.keep hf (by decide)
    show Ok (X12_goOut_2 (n + 1) (nI (tN T)) ρ') Q
    rw [X12_goOut_2, hR.1.1]
    exact ok_pos (Int32.le_refl _) (ok_bv (hq ρ' hf hI))
theorem goal_ok {T : Tn} {s : St} {ρ : Mem} (hT : okT T) (hS : okS T s) (h : MR T s ρ) {p : Nat} (hp : p < tN T) : X12_goal (nI p) ρ = some (goalF T s p, ρ) := by
  have hn := hT.1
  have bi := ib_t (n := p) (k := 6) (by omega) (by omega)
  have ci := ni_cl (n := p) (by omega)
  have hr := doesRest_ok hT h hp
  unfold X12_goal X12_goal_17 goalF
  rw [if_pos bi, ci, (h.2.1 p hp).1, (h.1.2.2.1 p hp).1, if_pos bi]
  rcases okS_aim hS hp with e | ⟨q, hq, hqi, e⟩
  · rw [e, if_pos neg1_lt, if_pos (.inl rfl)]
  · have bq := ib_t (n := q) (k := 6) (by omega) (by omega)
    have cq := ni_cl (n := q) (by omega)
    rw [e, if_neg (Int32.not_lt.mpr (ni_nn (by omega))), hr]
    show (if tr (rsts T (s 0 6) p) = 0 then _ else _) = _
    by_cases z : rsts T (s 0 6) p = true
    · rw [if_neg (by rw [tr_ne]; simp [z]), if_pos (.inr z)]
    · have z' : rsts T (s 0 6) p = false := by simpa using z
      rw [if_pos (by rw [tr_ne]; exact z'), if_neg (by rintro (y | y); exact ni_ne_neg (by omega) y; exact z y)]
      rw [if_pos bi, ci, (h.2.1 p hp).1, e, if_pos bq, cq, (h.1.2.2.1 q hq).1]
      rw [show ix (nI q) = q from cq]
theorem nearer_ok (a b : Int32) (ρ : Mem) : X12_nearer a b ρ = some (nearF a b, ρ) := by
  unfold X12_nearer nearF
  by_cases z : b ≤ a
  · rw [if_pos z, if_neg (Int32.not_lt.mpr z)]
    by_cases y : a ≤ b
    · rw [if_pos y, if_neg (Int32.not_lt.mpr y)]
    · rw [if_neg y, if_pos (Int32.not_le.mp y)]
  · rw [if_neg z, if_pos (Int32.not_le.mp z)]
