/-! an hour of the reference -/
def offL (L : List Nat) (K : List (Nat × Nat)) (A : List Nat) (B : List (Nat × Nat)) : Bool :=
  A.all (fun a => !L.contains a && K.all (fun k => !(k.1 == a))) && B.all (fun b => !L.contains b.1 && !K.contains b)
theorem Fr.off {L : List Nat} {K : List (Nat × Nat)} {A : List Nat} {B : List (Nat × Nat)} {σ σ' : Mem} (h : Fr L K σ σ') (ho : offL L K A B = true) :
    (∀ a, a ∈ A → σ'.1 a = σ.1 a) ∧ (∀ a b, (a, b) ∈ B → σ'.1 a b = σ.1 a b) := by
  unfold offL at ho
  rw [Bool.and_eq_true, List.all_eq_true, List.all_eq_true] at ho
  refine ⟨fun a ha => ?_, fun a b hb => ?_⟩
  · have h1 := ho.1 a ha
    rw [Bool.and_eq_true, List.all_eq_true] at h1
    funext b
    refine h.1 a b (fun z => ?_) (fun z => ?_)
    · rw [List.contains_iff_mem.mpr z] at h1
      exact absurd h1.1 (by decide)
    · have := h1.2 (a, b) z
      simp at this
  · have h1 := ho.2 (a, b) hb
    rw [Bool.and_eq_true] at h1
    refine h.1 a b (fun z => ?_) (fun z => ?_)
    · rw [List.contains_iff_mem.mpr z] at h1
      exact absurd h1.1 (by decide)
    · rw [List.contains_iff_mem.mpr z] at h1
      exact absurd h1.2 (by decide)
def MPg (T : Tn) (ρ : Mem) (w : Nat) : Prop := match tP T w with
  | none => ρ.1 1000 (52 + w) = 0
  | some pr => ρ.1 1000 (52 + w) = 1 ∧ FM pr ρ w
/-- the reference's town, as an hour reads it -/
def MT (T : Tn) (ρ : Mem) : Prop := ρ.1 1000 45 = nI (tN T) ∧ ρ.1 1000 46 = nI (tD T) ∧
  (∀ p, p < tN T → ρ.1 1020 p = tR T 1 p ∧ ρ.1 1034 p = tR T 2 p ∧ ρ.1 1034 p + ρ.1 1022 p - ρ.1 1021 p = tR T 3 p ∧ ρ.1 1023 p = tR T 4 p ∧ ρ.1 1024 p = tR T 5 p ∧ ρ.1 1025 p = tR T 6 p) ∧
  MPg T ρ 0 ∧ MPg T ρ 1 ∧ MPg T ρ 2
/-- the reference's working rows hold s -/
def MW (T : Tn) (s : St) (ρ : Mem) : Prop := (∀ p, p < tN T → ρ.1 1029 p = s 1 p ∧ ρ.1 1030 p = s 2 p ∧ ρ.1 1031 p = s 3 p ∧ ρ.1 1032 p = s 4 p) ∧ (∀ k, k < 36 → ρ.1 1033 k = s 5 k) ∧ ρ.1 1000 62 = s 0 5 ∧ ρ.1 1000 63 = s 0 6
def MTa : List Nat := [1006, 1007, 1008, 1020, 1021, 1022, 1023, 1024, 1025, 1034]
def MTb : List (Nat × Nat) := [(1000, 45), (1000, 46), (1000, 52), (1000, 53), (1000, 54)]
theorem FM.keep {pr : Pg} {ρ ρ' : Mem} {w : Nat} (h : FM pr ρ w) (e6 : ρ'.1 1006 = ρ.1 1006) (e7 : ρ'.1 1007 = ρ.1 1007) (e8 : ρ'.1 1008 = ρ.1 1008) : FM pr ρ' w := by
  unfold FM
  rw [e6, e7, e8]
  exact h
theorem MPg.keep {T : Tn} {ρ ρ' : Mem} {w : Nat} (h : MPg T ρ w) (e6 : ρ'.1 1006 = ρ.1 1006) (e7 : ρ'.1 1007 = ρ.1 1007) (e8 : ρ'.1 1008 = ρ.1 1008) (e : ρ'.1 1000 (52 + w) = ρ.1 1000 (52 + w)) : MPg T ρ' w := by
  unfold MPg at h ⊢
  split
  · rename_i z
    rw [z] at h
    rw [e]
    exact h
  · rename_i z
    rw [z] at h
    rw [e]
    exact ⟨h.1, h.2.keep e6 e7 e8⟩
theorem MT.keep {T : Tn} {ρ ρ' : Mem} (h : MT T ρ) (ha : ∀ a, a ∈ MTa → ρ'.1 a = ρ.1 a) (hb : ∀ a b, (a, b) ∈ MTb → ρ'.1 a b = ρ.1 a b) : MT T ρ' := by
  have e6 := ha 1006 (by decide)
  have e7 := ha 1007 (by decide)
  have e8 := ha 1008 (by decide)
  refine ⟨(hb _ _ (by decide)).trans h.1, (hb _ _ (by decide)).trans h.2.1, fun p hp => ?_, h.2.2.2.1.keep e6 e7 e8 (hb _ _ (by decide)), h.2.2.2.2.1.keep e6 e7 e8 (hb _ _ (by decide)), h.2.2.2.2.2.keep e6 e7 e8 (hb _ _ (by decide))⟩
  rw [ha 1020 (by decide), ha 1034 (by decide), ha 1022 (by decide), ha 1021 (by decide), ha 1023 (by decide), ha 1024 (by decide), ha 1025 (by decide)]
  exact h.2.2.1 p hp
theorem tr_and (b : Bool) : tr b &&& 1 = tr b := by cases b <;> decide
theorem tr_ne (b : Bool) : tr b = 0 ↔ b = false := by cases b <;> decide
theorem okT_n {T : Tn} (h : okT T) : tN T ≤ 6 := h.1
/-- what an hour's walk of the reference reads: the town and the aims, whoms, date and hour -/
def MR (T : Tn) (s : St) (ρ : Mem) : Prop := MT T ρ ∧ (∀ p, p < tN T → ρ.1 1030 p = s 2 p ∧ ρ.1 1031 p = s 3 p) ∧ ρ.1 1000 62 = s 0 5 ∧ ρ.1 1000 63 = s 0 6
theorem MR.keep {T : Tn} {s : St} {ρ ρ' : Mem} {L : List Nat} {K : List (Nat × Nat)} (h : MR T s ρ) (f : Fr L K ρ ρ') (ho : offL L K (1030 :: 1031 :: MTa) ((1000, 62) :: (1000, 63) :: MTb) = true) : MR T s ρ' := by
  have g := f.off ho
  refine ⟨h.1.keep (fun a ha => g.1 a (.tail _ (.tail _ ha))) (fun a b hb => g.2 a b (.tail _ (.tail _ hb))), fun p hp => ?_, (g.2 _ _ (.head _)).trans h.2.2.1, (g.2 _ _ (.tail _ (.head _))).trans h.2.2.2⟩
  rw [g.1 1030 (.head _), g.1 1031 (.tail _ (.head _))]
  exact h.2.1 p hp
theorem doesRest_ok {T : Tn} {s : St} {ρ : Mem} (hT : okT T) (h : MR T s ρ) {p : Nat} (hp : p < tN T) : X12_doesRest (nI p) ρ = some (tr (rsts T (s 0 6) p), ρ) := by
  have := hT.1
  have b := ib_t (n := p) (k := 6) (by omega) (by omega)
  have c := ni_cl (n := p) (by omega)
  unfold X12_doesRest rsts
  rw [if_pos b, c, h.1.2.1, (h.1.2.2.1 p hp).2.2.2.2.1, h.2.2.2]
  by_cases z : s 0 6 < nI (tD T) - tR T 5 p
  · rw [if_pos z, decide_eq_false (Int32.not_le.mpr z)]
    rfl
  · rw [if_neg z, decide_eq_true (Int32.not_lt.mp z)]
    rfl
theorem okS_aim {T : Tn} {s : St} (h : okS T s) {p : Nat} (hp : p < tN T) : s 2 p = -1 ∨ ∃ q, q < tN T ∧ q ≠ p ∧ s 2 p = nI q := (h.1 p hp).1
theorem goOut1_ok {T : Tn} {s : St} {ρ : Mem} (hT : okT T) (hS : okS T s) (h : MR T s ρ) (hp : ∀ p, p < tN T → ρ.1 1029 p = s 1 p) {Q : Mem → Prop}
    (hq : ∀ ρ', Fr [1035] [] ρ ρ' → (∀ p, p < tN T → ρ'.1 1035 p = tr (mts T s p)) → Ok (X12_goOut_81 fu 0 ρ') Q) : Ok (X12_goOut ρ) Q := by
  have hn := hT.1
  unfold X12_goOut
  refine ok_bv ?_
  refine ok_loop0 (F := fun n i ρ => X12_goOut_2 n i ρ) (N := tN T) (I := fun i ρ' => Fr [1035] [] ρ ρ' ∧ ∀ p, p < i → ρ'.1 1035 p = tr (mts T s p)) 0 ρ (by omega) (by omega) ⟨Fr.refl, fun p hp => by omega⟩ ?_ ?_
  · intro n i ρ' hi ⟨hf, hI⟩ hk
    have hR := h.keep hf (by decide)
    have e29 : ρ'.1 1029 = ρ.1 1029 := (hf.off (A := [1029]) (B := []) (by decide)).1 _ (by decide)
    have bi := ib_t (n := i) (k := 6) (by omega) (by omega)
    have ci := ni_cl (n := i) (by omega)
    have hw : ∀ b : Bool, mts T s i = b → Ok (X12_goOut_72 (X12_goOut_2 n) (nI i) (tr b) (nI i) ρ') Q := by
      intro b hb
      unfold X12_goOut_72
      refine ok_pos bi (ok_bv (ok_bv ?_))
      rw [ci, tr_and, ni_succ]
      refine hk _ ⟨frI hf (.head _), fun p hp => ?_⟩
      rw [sI_o]
      by_cases z : p = i
      · rw [if_pos z, z, hb]
      · rw [if_neg z]
        exact hI p (by omega)
    show Ok (X12_goOut_2 (n + 1) (nI i) ρ') Q
    rw [X12_goOut_2, hR.1.1]
    refine ok_neg (by rw [ni_le (by omega) (by omega)]; omega) (ok_pos bi (ok_bv ?_))
    rw [ci, (hR.2.1 i hi).1]
    rcases okS_aim hS hi with e | ⟨q, hq, hqi, e⟩
    · have hm : mts T s i = false := by unfold mts; rw [e]; rfl
      rw [e]
      exact ok_pos neg1_lt (hw false hm)
    · have bq := ib_t (n := q) (k := 6) (by omega) (by omega)
      have cq := ni_cl (n := q) (by omega)
      have hm : mts T s i = (decide (s 2 q = nI i) && decide (s 1 q = s 1 i) && !rsts T (s 0 6) i && !rsts T (s 0 6) q) := by
        unfold mts
        rw [e, show ix (nI q) = q from cq, decide_eq_true (ni_ne_neg (by omega)), Bool.true_and]
      rw [e]
      refine ok_neg (Int32.not_lt.mpr (ni_nn (by omega))) (ok_pos bq ?_)
      rw [cq, (hR.2.1 q hq).1]
      refine ok_ite (fun z1 => ?_) (fun z1 => ?_)
      · refine ok_pos bi (ok_pos bq ?_)
        rw [e29, hp i hi, hp q hq]
        refine ok_ite (fun z2 => ?_) (fun z2 => ?_)
        · refine ok_bindE (doesRest_ok hT hR hi) ?_
          refine ok_ite (fun z3 => ?_) (fun z3 => ?_)
          · refine ok_bindE (doesRest_ok hT hR hq) ?_
            rw [tr_ne] at z3
            refine ok_ite (fun z4 => ?_) (fun z4 => ?_)
            · rw [tr_ne] at z4
              exact hw true (by rw [hm, z3, z4, decide_eq_true z1, decide_eq_true z2.symm]; rfl)
            · rw [tr_ne] at z4
              exact hw false (by rw [hm]; simp [z4])
          · rw [tr_ne] at z3
            exact hw false (by rw [hm]; simp [z3])
        · exact hw false (by rw [hm]; simp [show ¬ s 1 q = s 1 i from fun z => z2 z.symm])
      · exact hw false (by rw [hm]; simp [z1])
  · intro n ρ' ⟨hf, hI⟩
    have hR := h.keep hf (by decide)
    show Ok (X12_goOut_2 (n + 1) (nI (tN T)) ρ') Q
    rw [X12_goOut_2, hR.1.1]
    exact ok_pos (Int32.le_refl _) (ok_bv (hq ρ' hf hI))
theorem goal_ok {T : Tn} {s : St} {ρ : Mem} (hT : okT T) (hS : okS T s) (h : MR T s ρ) {p : Nat} (hp : p < tN T) : X12_goal (nI p) ρ = some (goalF T s p, ρ) := by
  have hn := hT.1
  have bi := ib_t (n := p) (k := 6) (by omega) (by omega)
  have ci := ni_cl (n := p) (by omega)
  have hr := doesRest_ok hT h hp
  unfold X12_goal X12_goal_17 goalF
  rw [if_pos bi, ci, (h.2.1 p hp).1, (h.1.2.2.1 p hp).1, if_pos bi]
  rcases okS_aim hS hp with e | ⟨q, hq, hqi, e⟩
  · rw [e, if_pos neg1_lt, if_pos (.inl rfl)]
  · have bq := ib_t (n := q) (k := 6) (by omega) (by omega)
    have cq := ni_cl (n := q) (by omega)
    rw [e, if_neg (Int32.not_lt.mpr (ni_nn (by omega))), hr]
    have hq1 := (h.1.2.2.1 q hq).1
    have hp1 := (h.1.2.2.1 p hp).1
    have ha := (h.2.1 p hp).1
    have hne : nI q ≠ -1 := ni_ne_neg (by omega)
    by_cases z : rsts T (s 0 6) p = true
    · simp [z, tr, hp1, bi, ci]
    · simp [z, tr, hq1, ha, e, bi, ci, bq, cq, ix, hne]
theorem nearer_ok (a b : Int32) (ρ : Mem) : X12_nearer a b ρ = some (nearF a b, ρ) := by
  unfold X12_nearer nearF
  by_cases z : b ≤ a
  · rw [if_pos z, if_neg (Int32.not_lt.mpr z)]
    by_cases y : a ≤ b
    · rw [if_pos y, if_neg (Int32.not_lt.mpr y)]
    · rw [if_neg y, if_pos (Int32.not_le.mp y)]
  · rw [if_neg z, if_pos (Int32.not_le.mp z)]
/-- the places behind the hour's way, who went -/
def wnt (T : Tn) (s : St) (p : Nat) : Bool := !decide (plc T s p = s 1 p)
def MG (T : Tn) (s : St) (ρ : Mem) : Prop := ∀ p, p < tN T → ρ.1 1035 p = tr (mts T s p) ∧ ρ.1 1029 p = plc T s p ∧ ρ.1 1036 p = tr (wnt T s p)
theorem goOut_ok {T : Tn} {s : St} {ρ : Mem} (hT : okT T) (hS : okS T s) (h : MR T s ρ) (hp : ∀ p, p < tN T → ρ.1 1029 p = s 1 p) :
    Ok (X12_goOut ρ) (MG T s) := by
  have hn := hT.1
  refine goOut1_ok hT hS h hp (fun ρ1 hf1 hm => ?_)
  have h1 := h.keep hf1 (by decide)
  have e29 : ρ1.1 1029 = ρ.1 1029 := (hf1.off (A := [1029]) (B := []) (by decide)).1 _ (by decide)
  refine ok_loop0 (F := fun n i ρ => X12_goOut_81 n i ρ) (N := tN T) (I := fun i ρ' => Fr [1029, 1036] [] ρ1 ρ' ∧ (∀ p, p < i → ρ'.1 1029 p = plc T s p ∧ ρ'.1 1036 p = tr (wnt T s p)) ∧ ∀ p, i ≤ p → ρ'.1 1029 p = ρ1.1 1029 p) 0 ρ1 (by omega) (by omega) ⟨Fr.refl, fun p hp => by omega, fun _ _ => rfl⟩ ?_ ?_
  · intro n i ρ' hi ⟨hf, hI, hJ⟩ hk
    have hR := h1.keep hf (by decide)
    have e35 : ρ'.1 1035 = ρ1.1 1035 := (hf.off (A := [1035]) (B := []) (by decide)).1 _ (by decide)
    have bi := ib_t (n := i) (k := 6) (by omega) (by omega)
    have ci := ni_cl (n := i) (by omega)
    have es : ρ'.1 1029 i = s 1 i := by rw [hJ i (Nat.le_refl _), e29, hp i hi]
    have hw : Ok (X12_goOut_121 (X12_goOut_81 n) (nI i) (plc T s i) ρ') (MG T s) := by
      have hd : ∀ b : Bool, wnt T s i = b → Ok (X12_goOut_142 (X12_goOut_81 n) (nI i) (plc T s i) (tr b) (nI i) ρ') (MG T s) := by
        intro b hb
        unfold X12_goOut_142
        refine ok_pos bi (ok_bv (ok_pos bi (ok_bv (ok_bv ?_))))
        rw [ci, tr_and, ni_succ]
        refine hk _ ⟨frI (frI hf (.tail _ (.head _))) (.head _), fun p hp => ?_, fun p hp => ?_⟩
        · rw [sI_o, sI_n (by decide), sI_n (by decide), sI_o]
          by_cases z : p = i
          · rw [if_pos z, if_pos z, z, hb]
            exact ⟨rfl, rfl⟩
          · rw [if_neg z, if_neg z]
            exact hI p (by omega)
        · rw [sI_k (by omega), sI_n (by decide)]
          exact hJ p (by omega)
      unfold X12_goOut_121
      refine ok_pos bi ?_
      rw [ci, es]
      refine ok_ite (fun z => ?_) (fun z => ?_)
      · exact hd false (by unfold wnt; rw [decide_eq_true z]; rfl)
      · exact hd true (by unfold wnt; rw [decide_eq_false z]; rfl)
    show Ok (X12_goOut_81 (n + 1) (nI i) ρ') _
    rw [X12_goOut_81, hR.1.1]
    refine ok_neg (by rw [ni_le (by omega) (by omega)]; omega) (ok_pos bi ?_)
    rw [ci, e35, hm i hi, es]
    refine ok_ite (fun z => ?_) (fun z => ?_)
    · rw [tr_ne] at z
      refine ok_pos bi ?_
      rw [goal_ok hT hS hR hi]
      refine ok_bindE rfl ?_
      rw [nearer_ok]
      refine ok_bindE rfl ?_
      have : plc T s i = nearF (s 1 i) (goalF T s i) := by unfold plc; rw [z, if_neg Bool.false_ne_true]
      rw [← this]
      exact hw
    · have z' : mts T s i = true := by rw [tr_ne] at z; simpa using z
      refine ok_pos bi ?_
      have : plc T s i = s 1 i := by unfold plc; rw [z', if_pos rfl]
      rw [← this]
      exact hw
  · intro n ρ' ⟨hf, hI, hJ⟩
    have hR := h1.keep hf (by decide)
    have e35 : ρ'.1 1035 = ρ1.1 1035 := (hf.off (A := [1035]) (B := []) (by decide)).1 _ (by decide)
    show Ok (X12_goOut_81 (n + 1) (nI (tN T)) ρ') _
    rw [X12_goOut_81, hR.1.1]
    refine ok_pos (Int32.le_refl _) (ok_some (fun p hp => ?_))
    rw [e35, hm p hp]
    exact ⟨rfl, hI p hp⟩
theorem isOpen_ok {T : Tn} {s : St} {ρ : Mem} (hT : okT T) (h : MR T s ρ) {q : Nat} (hq : q < tN T) : X12_isOpen (nI q) ρ = some (tr (opn T (s 0 6) q), ρ) := by
  have hn := hT.1
  have bq := ib_t (n := q) (k := 6) (by omega) (by omega)
  have cq := ni_cl (n := q) (by omega)
  have hh := h.1.2.2.1 q hq
  unfold X12_isOpen opn
  rw [if_pos bq, if_pos bq, if_pos bq, if_pos bq, cq, hh.2.2.1, hh.2.1, h.2.2.2]
  by_cases z : s 0 6 < tR T 2 q
  · simp [z, tr, Int32.not_le.mpr z]
  · have z2 := Int32.not_lt.mp z
    by_cases y : tR T 3 q ≤ s 0 6
    · simp [z, z2, y, tr, Int32.not_lt.mpr y]
    · simp [z, z2, y, tr, Int32.not_le.mp y]
theorem Int32.add_ne (a : Int32) : a + 1 ≠ a := fun e => by
  have h1 : a + 1 - a = a - a := by rw [e]
  rw [Int32.add_comm, Int32.add_sub_cancel, Int32.sub_self] at h1
  exact absurd h1 (by decide)
theorem Int32.sub_ne (a : Int32) : a - 1 ≠ a := fun e => by
  have h1 : a - 1 + 1 = a + 1 := by rw [e]
  rw [Int32.sub_add_cancel] at h1
  exact Int32.add_ne a h1.symm
theorem nearF_eq (a b : Int32) : nearF a b = a ↔ a = b := by
  unfold nearF
  constructor
  · intro h
    split at h
    · exact absurd h (Int32.add_ne a)
    · split at h
      · exact absurd h (Int32.sub_ne a)
      · rename_i z y
        exact Int32.le_antisymm (Int32.not_lt.mp y) (Int32.not_lt.mp z)
  · intro h
    rw [h, if_neg (fun e => Int32.lt_irrefl e), if_neg (fun e => Int32.lt_irrefl e)]
theorem doesWait_ok {T : Tn} {s : St} {ρ : Mem} (hT : okT T) (hS : okS T s) (h : MR T s ρ) (hg : MG T s ρ) {p : Nat} (hp : p < tN T) : X12_doesWait (nI p) ρ = some (tr (wts T s p), ρ) := by
  have hn := hT.1
  have bi := ib_t (n := p) (k := 6) (by omega) (by omega)
  have ci := ni_cl (n := p) (by omega)
  have hr := doesRest_ok hT h hp
  have hG := hg p hp
  have ha := (h.2.1 p hp).1
  unfold X12_doesWait
  rw [if_pos bi, ci, hG.1]
  by_cases z : mts T s p = true
  · simp [z, tr, wts]
  · have zf : mts T s p = false := by simpa using z
    rw [if_pos (by rw [tr_ne]; exact zf), hr]
    by_cases y : rsts T (s 0 6) p = true
    · simp [tr, wts, zf, y]
    · have yf : rsts T (s 0 6) p = false := by simpa using y
      have hpl : plc T s p = nearF (s 1 p) (goalF T s p) := by unfold plc; rw [zf, if_neg Bool.false_ne_true]
      by_cases x : s 1 p = goalF T s p
      · have e36 : ρ.1 1036 p = 0 := by
          rw [hG.2.2, tr_ne]
          unfold wnt
          rw [decide_eq_true (by rw [hpl, nearF_eq]; exact x)]
          rfl
        rcases okS_aim hS hp with e | ⟨q, hq, hqi, e⟩
        · simp [tr, wts, zf, yf, bi, ci, e36, ha, e]
        · have ho := isOpen_ok hT h hq
          have hne : nI q ≠ -1 := ni_ne_neg (by omega)
          have hng : ¬ nI q < 0 := Int32.not_lt.mpr (ni_nn (by omega))
          have cq := ni_cl (n := q) (by omega)
          by_cases w : opn T (s 0 6) q = true
          · simp [tr, wts, zf, yf, bi, ci, e36, ha, e, x.symm, ho, w, hne, hng, ix, cq]
          · simp [tr, wts, zf, yf, bi, ci, e36, ha, e, x.symm, ho, w, hne, hng, ix, cq]
      · have e36 : ρ.1 1036 p = 1 := by
          rw [hG.2.2]
          unfold wnt
          rw [decide_eq_false (by rw [hpl]; exact fun e => x ((nearF_eq _ _).mp e))]
          rfl
        simp [tr, wts, zf, yf, bi, ci, e36, x]
theorem atDoor_ok {T : Tn} {s : St} {ρ : Mem} (hT : okT T) (h : MR T s ρ) (hg : ∀ p, p < tN T → ρ.1 1035 p = tr (mts T s p)) (hw : ∀ p, p < tN T → ρ.1 1037 p = tr (wts T s p)) (a : Int32) {p : Nat} (hp : p < tN T) : X12_atDoor (nI p) a ρ = some (tr (atD T s a p), ρ) := by
  have hn := hT.1
  have bi := ib_t (n := p) (k := 6) (by omega) (by omega)
  have ci := ni_cl (n := p) (by omega)
  unfold X12_atDoor atD
  rw [if_pos bi, ci, hw p hp, hg p hp, (h.2.1 p hp).1, if_pos bi, if_pos bi]
  by_cases x : wts T s p = true <;> by_cases y : mts T s p = true <;> by_cases z : s 2 p = a <;> simp [x, y, z, tr]
theorem isSeated_ok {T : Tn} {s : St} {ρ : Mem} (hT : okT T) (h : MR T s ρ) (hg : ∀ p, p < tN T → ρ.1 1035 p = tr (mts T s p)) (hw : ∀ p, p < tN T → ρ.1 1037 p = tr (wts T s p)) {p : Nat} (hp : p < tN T) {q : Nat} (hq : q < tN T) (e : s 2 p = nI q) :
    Ok (X12_isSeated (nI p) ρ) (fun r => r = (tr (std T s p), ρ)) := by
  have hn := hT.1
  have bi := ib_t (n := p) (k := 6) (by omega) (by omega)
  have ci := ni_cl (n := p) (by omega)
  have bq := ib_t (n := q) (k := 6) (by omega) (by omega)
  have cq := ni_cl (n := q) (by omega)
  have ha := (h.2.1 p hp).1
  unfold X12_isSeated
  refine ok_bv (ok_bv ?_)
  have hcn : ∀ i, cnt (atD T s (s 2 p)) i ≤ i := by
    intro i
    induction i with
    | zero => exact Nat.le_refl _
    | succ i ih => unfold cnt; split <;> omega
  refine ok_loop0 (F := fun n i (x : Int32) => X12_isSeated_4 n (nI p) x i ρ) (N := p) (I := fun i x => x = nI (cnt (atD T s (s 2 p)) i)) 0 0 (by omega) (by omega) rfl ?_ ?_
  · intro n i x hi hx hk
    show Ok (X12_isSeated_4 (n + 1) (nI p) x (nI i) ρ) _
    rw [X12_isSeated_4]
    refine ok_neg (by rw [ni_le (by omega) (by omega)]; omega) (ok_pos bi ?_)
    rw [ci, ha, atDoor_ok hT h hg hw (s 2 p) (show i < tN T by omega)]
    refine ok_bindE rfl ?_
    have ht : ∀ b, X12_truth (tr b) ρ = some (tr b, ρ) := by intro b; cases b <;> rfl
    rw [ht]
    refine ok_bindE rfl (ok_bv (ok_bv ?_))
    rw [ni_succ]
    refine hk _ ?_
    show x + tr _ = _
    rw [hx, show cnt (atD T s (s 2 p)) (i + 1) = cnt (atD T s (s 2 p)) i + (if atD T s (s 2 p) i then 1 else 0) from rfl]
    by_cases z : atD T s (s 2 p) i = true
    · rw [z]
      exact ni_succ _
    · have z' : atD T s (s 2 p) i = false := by simpa using z
      rw [z']
      exact Int32.add_zero _
  · intro n x hx
    show Ok (X12_isSeated_4 (n + 1) (nI p) x (nI p) ρ) _
    rw [X12_isSeated_4]
    refine ok_pos (Int32.le_refl _) (ok_pos bi ?_)
    rw [ci, hg p hp, ha, e, cq, (h.1.2.2.1 q hq).2.2.2.1, hx]
    unfold std crw
    rw [e, show ix (nI q) = q from cq]
    rw [e] at hcn
    by_cases y : mts T s p = true
    · rw [if_neg (by rw [tr_ne]; simp [y])]
      refine ok_some ?_
      simp [y, tr]
    · have y' : mts T s p = false := by simpa using y
      rw [if_pos (by rw [tr_ne]; exact y')]
      refine ok_pos bi (ok_pos bq ?_)
      refine ok_ite (fun z => ok_some ?_) (fun z => ok_some ?_)
      · simp [y', tr, Int32.not_lt.mpr z]
      · simp [y', tr, Int32.not_le.mp z]
