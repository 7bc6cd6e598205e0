/-! rings of the reference -/
def rowM (f : Nat → Nat) (m : Nat) (ρ : Mem) : Prop := ∀ j, j < m → ρ.1 1043 j = nI (f j)
def accM (a : Ac) (ρ : Mem) : Prop := accOk a ∧ ρ.1 1000 78 = nI a.1 ∧ ρ.1 1000 79 = nI a.2.1 ∧ ρ.1 1000 80 = nI a.2.2.2.1 ∧ ∀ j, j < a.2.2.2.1 → ρ.1 1044 j = nI (a.2.2.2.2 j)
/-- people and debts as the rings read them -/
def dM (T : Tn) (s : St) (ρ : Mem) : Prop := ρ.1 1000 45 = nI (tN T) ∧ ∀ c, c < 36 → ρ.1 1028 (24 + c) = s 5 c
theorem dM.keep {T : Tn} {s : St} {ρ ρ' : Mem} {L : List Nat} {K : List (Nat × Nat)} (h : dM T s ρ) (f : Fr L K ρ ρ') (c : offL L K [1028] [(1000, 45)] = true) : dM T s ρ' := by
  have o := f.off c
  refine ⟨(o.2 _ _ (by decide)).trans h.1, fun j hj => ?_⟩
  rw [o.1 1028 (by decide)]
  exact h.2 j hj
theorem debtR_ok {T : Tn} {s : St} {ρ : Mem} (hD : okD (tN T) (s 5)) (h : dM T s ρ) {i j : Nat} (hi : i < 6) (hj : j < 6) : X12_debt (nI i) (nI j) ρ = some (nI (dN s i j), ρ) := by
  unfold X12_debt
  rw [cellN, if_pos (ib_t (by omega) (by omega)), ni_cl (by omega), h.2 _ (by omega), (dN_eq (T := T) hD hi hj).1]
theorem isInM_ok {f : Nat → Nat} {m x : Nat} {ρ : Mem} (hm : m ≤ 6) (hx : x < 6) (hf : ∀ j, j < m → f j < 6) (hr : rowM f m ρ) : Ok (X12_isInRow (nI x) (nI m) ρ) (fun r => r = (tr (inR f x m), ρ)) := by
  unfold X12_isInRow
  refine ok_bv (ok_bv ?_)
  refine ok_loop0 (F := fun n i (y : Int32) => X12_isInRow_5 n (nI x) (nI m) y i ρ) (N := m) (I := fun i y => y = tr (inR f x i)) 0 0 (by omega) (by omega) rfl ?_ ?_
  · intro n i y hi hy hk
    have hfi := hf i hi
    show Ok (X12_isInRow_5 (n + 1) (nI x) (nI m) y (nI i) ρ) _
    rw [X12_isInRow_5, hy]
    refine ok_neg (by rw [ni_le (by omega) (by omega)]; omega) ?_
    unfold X12_isInRow_26 X12_isInRow_31
    refine ok_ite (fun z => ok_pos (ib_t (by omega) (by omega)) ?_) (fun z => ok_bv ?_)
    · rw [tr_ne] at z
      rw [ni_cl (by omega), hr i hi]
      refine ok_ite (fun w => ok_bv ?_) (fun w => ok_bv ?_)
      · rw [ni_inj (by omega) (by omega)] at w
        rw [ni_succ]
        refine hk _ ?_
        unfold inR
        rw [decide_eq_true w, Bool.or_true]
        rfl
      · rw [ni_inj (by omega) (by omega)] at w
        rw [ni_succ]
        refine hk _ ?_
        unfold inR
        rw [z, decide_eq_false w]
        rfl
    · have z' : inR f x i = true := by rw [tr_ne] at z; simpa using z
      rw [ni_succ]
      refine hk _ ?_
      unfold inR
      rw [z', Bool.true_or]
      rfl
  · intro n y hy
    show Ok (X12_isInRow_5 (n + 1) (nI x) (nI m) y (nI m) ρ) _
    rw [X12_isInRow_5, hy, tr_and]
    exact ok_pos (Int32.le_refl _) (ok_some rfl)
/-- the next one in a row, from i on -/
def nxtF (d : Nat → Nat → Nat) (f : Nat → Nat) (m : Nat) : Nat → Nat → Int32
  | 0, _ => -1
  | r + 1, i => if okX d f m i = true then nI i else nxtF d f m r (i + 1)
theorem nextAt_ok {T : Tn} {s : St} {ρ : Mem} {f : Nat → Nat} {m : Nat} (hT : okT T) (hD : okD (tN T) (s 5)) (h : dM T s ρ) (hm1 : 1 ≤ m) (hm : m ≤ 6) (hf : ∀ j, j < m → f j < tN T) (hr : rowM f m ρ) {r i : Nat} (hi : i + r = tN T) {x : Int32} (hx : x + 1 = nI i) : X12_nextAt (nI m) x ρ = some (nxtF (dN s) f m r i, ρ) := by
  have hn := hT.1
  have hf6 : ∀ j, j < m → f j < 6 := fun j hj => by have := hf j hj; omega
  have h06 := hf6 0 (by omega)
  have hl6 := hf6 (m - 1) (by omega)
  unfold X12_nextAt
  rw [bv_eq, hx]
  have key : ∀ (r n i : Nat), i + r = tN T → r < n → X12_nextAt_4 n (nI m) (nI i) ρ = some (nxtF (dN s) f m r i, ρ) := by
    intro r
    induction r with
    | zero =>
      intro n i hi hnn
      obtain ⟨n, rfl⟩ : ∃ q, n = q + 1 := ⟨n - 1, by omega⟩
      rw [X12_nextAt_4, h.1, if_pos (by rw [ni_le (by omega) (by omega)]; omega)]
      rfl
    | succ r ih =>
      intro n i hi hnn
      obtain ⟨n, rfl⟩ : ∃ q, n = q + 1 := ⟨n - 1, by omega⟩
      have hgo : okX (dN s) f m i = false → X12_nextAt_49 (X12_nextAt_4 n) (nI m) (nI i) ρ = some (nxtF (dN s) f m (r + 1) i, ρ) := by
        intro hz
        unfold X12_nextAt_49
        rw [bv_eq, ni_succ, ih n (i + 1) (by omega) (by omega)]
        show _ = some (if okX (dN s) f m i = true then nI i else nxtF (dN s) f m r (i + 1), ρ)
        rw [hz, if_neg Bool.false_ne_true]
      rw [X12_nextAt_4, h.1, if_neg (by rw [ni_le (by omega) (by omega)]; omega), hr 0 (by omega)]
      by_cases z : i ≤ f 0
      · rw [if_pos ((ni_le (by omega) (by omega)).mpr z)]
        refine hgo ?_
        unfold okX
        rw [decide_eq_false (show ¬ f 0 < i by omega), Bool.false_and, Bool.false_and]
      · rw [if_neg (by rw [ni_le (by omega) (by omega)]; exact z)]
        obtain ⟨_, e1, rfl⟩ := isInM_ok (x := i) hm (by omega) hf6 hr
        rw [e1, Option.bind_some]
        by_cases y : inR f i m = true
        · rw [if_neg (by show ¬ tr (inR f i m) = 0; rw [y]; exact one_ne)]
          refine hgo ?_
          unfold okX
          rw [y, Bool.not_true, Bool.and_false]
        · have yf : inR f i m = false := by simpa using y
          rw [if_pos (by show tr (inR f i m) = 0; rw [yf]; rfl), show nI m - 1 = nI (m - 1) by rw [show (1 : Int32) = nI 1 from rfl, ni_sub hm1], if_pos (ib_t (by omega) (by omega))]
          show (X12_debt (ρ.1 1043 (nI (m - 1)).toNatClampNeg) (nI i) ρ).bind _ = _
          rw [ni_cl (by omega), hr (m - 1) (by omega), debtR_ok hD h hl6 (show i < 6 by omega), Option.bind_some]
          have h9 := (dN_eq (T := T) hD hl6 (show i < 6 by omega)).2
          by_cases w : dN s (f (m - 1)) i = 0
          · rw [w, if_pos (show (nI 0, ρ).1 ≤ 0 from Int32.le_refl _)]
            refine hgo ?_
            unfold okX
            rw [decide_eq_false (show ¬ 0 < dN s (f (m - 1)) i by omega), Bool.and_false, Bool.false_and]
          · rw [if_neg (by show ¬ nI (dN s (f (m - 1)) i) ≤ 0; rw [show (0 : Int32) = nI 0 from rfl, ni_le (by omega) (by omega)]; omega)]
            have hok : okX (dN s) f m i = true := by
              unfold okX
              rw [decide_eq_true (show f 0 < i by omega), decide_eq_true (show 0 < dN s (f (m - 1)) i by omega), yf]
              rfl
            show _ = some (if okX (dN s) f m i = true then nI i else nxtF (dN s) f m r (i + 1), ρ)
            rw [hok, if_pos rfl]
  exact key r fu i hi (by unfold fu; omega)
theorem mod_fin : ∀ m k : Fin 7, k.val < m.val → nI (k.val + 1) - nI (k.val + 1) / nI m.val * nI m.val = nI ((k.val + 1) % m.val) := by decide
theorem mod_m {m k : Nat} (hm : m ≤ 6) (hk : k < m) : nI (k + 1) - nI (k + 1) / nI m * nI m = nI ((k + 1) % m) := mod_fin ⟨m, by omega⟩ ⟨k, by omega⟩ hk
theorem note_ok {T : Tn} {s : St} {ρ : Mem} {f : Nat → Nat} {m : Nat} {a : Ac} (hT : okT T) (hD : okD (tN T) (s 5)) (h : dM T s ρ) (hm2 : 2 ≤ m) (hm : m ≤ 6) (hf : ∀ j, j < m → f j < tN T) (hr : rowM f m ρ) (ha : accM a ρ) : Ok (X12_note (nI m) ρ) (fun ρ' => accM (noteA (dN s) f m a) ρ') := by
  have hn := hT.1
  have hf6 : ∀ j, j < m → f j < 6 := fun j hj => by have := hf j hj; omega
  have h06 := hf6 0 (by omega)
  have hl6 := hf6 (m - 1) (by omega)
  obtain ⟨hok, e78, e79, e80, eb⟩ := ha
  have hacc := noteA_ok (d := dN s) (f := f) hm hok
  unfold X12_note
  refine ok_neg (by rw [show (2 : Int32) = nI 2 from rfl, ni_lt (by omega) (by omega)]; omega) ?_
  rw [show nI m - 1 = nI (m - 1) by rw [show (1 : Int32) = nI 1 from rfl, ni_sub (by omega)]]
  refine ok_pos (ib_t (by omega) (by omega)) ?_
  rw [ni_cl (by omega), hr (m - 1) (by omega), hr 0 (by omega)]
  refine ok_bindE (debtR_ok hD h hl6 h06) ?_
  have h9 := (dN_eq (T := T) hD hl6 h06).2
  by_cases z : dN s (f (m - 1)) (f 0) = 0
  · refine ok_pos (by rw [z]; rfl) (ok_some ?_)
    unfold noteA
    rw [if_pos z]
    exact ⟨hok, e78, e79, e80, eb⟩
  · refine ok_neg (by show ¬ nI _ = 0; rw [show (0 : Int32) = nI 0 from rfl, ni_inj (by omega) (by omega)]; exact z) (ok_bv (ok_bv (ok_bv ?_)))
    show Ok (X12_note_43 fu (nI m) 9999 0 (sI ρ 1000 78 (ρ.1 1000 78 + 1))) _
    rw [e78, ni_succ]
    have f1 : Fr [] [(1000, 78)] ρ (sI ρ 1000 78 (nI (a.1 + 1))) := frIk Fr.refl (.inl (.head _))
    have h1 : dM T s (sI ρ 1000 78 (nI (a.1 + 1))) := h.keep f1 (by decide)
    have hr1 : rowM f m (sI ρ 1000 78 (nI (a.1 + 1))) := fun j hj => by rw [sI_n (by decide)]; exact hr j hj
    have g78 : (sI ρ 1000 78 (nI (a.1 + 1))).1 1000 78 = nI (a.1 + 1) := sI_e _ _ _ _
    have g79 : (sI ρ 1000 78 (nI (a.1 + 1))).1 1000 79 = nI a.2.1 := by rw [sI_k (by decide)]; exact e79
    have g80 : (sI ρ 1000 78 (nI (a.1 + 1))).1 1000 80 = nI a.2.2.2.1 := by rw [sI_k (by decide)]; exact e80
    have gb : ∀ j, j < a.2.2.2.1 → (sI ρ 1000 78 (nI (a.1 + 1))).1 1044 j = nI (a.2.2.2.2 j) := fun j hj => by rw [sI_n (by decide)]; exact eb j hj
    generalize (sI ρ 1000 78 (nI (a.1 + 1))) = ρ1 at *
    have hlm := mul6 (rlst_le (dN s) f m) hm
    have hrl : ∀ k, k ≤ m → (if k = m then rlst (dN s) f m else lstN (dN s) f k) ≤ 9999 := fun k _ => by
      split
      · exact rlst_le _ _ _
      · exact lstN_le _ _ _
    refine ok_loop0 (F := fun n i (y : Int32) => X12_note_43 n (nI m) y i ρ1) (N := m) (I := fun i y => y = nI (if i = m then rlst (dN s) f m else lstN (dN s) f i)) 0 9999 (by omega) (by omega) (by rw [if_neg (by omega)]; rfl) ?_ ?_
    · intro n k y hk hy hk2
      show Ok (X12_note_43 (n + 1) (nI m) y (nI k) ρ1) _
      have hm6 : (k + 1) % m < m := Nat.mod_lt _ (by omega)
      rw [X12_note_43, ni_succ, mod_m hm hk]
      refine ok_neg (by rw [ni_le (by omega) (by omega)]; omega) (ok_pos (ib_t (by omega) (by omega)) (ok_neg (by rw [show (0 : Int32) = nI 0 from rfl, ni_inj (by omega) (by omega)]; omega) (ok_pos (ib_t (by omega) (by omega)) ?_)))
      rw [ni_cl (by omega), ni_cl (by omega), hr1 k hk, hr1 _ hm6]
      refine ok_bindE (debtR_ok hD h1 (hf6 k hk) (hf6 _ hm6)) (ok_bv ?_)
      have hv9 := (dN_eq (T := T) hD (hf6 k hk) (hf6 _ hm6)).2
      have hyk : y = nI (lstN (dN s) f k) := by rw [hy, if_neg (by omega)]
      have hlk := lstN_le (dN s) f k
      have hnext : nI (min (lstN (dN s) f k) (dN s (f k) (f ((k + 1) % m)))) = nI (if k + 1 = m then rlst (dN s) f m else lstN (dN s) f (k + 1)) := by
        by_cases w : k + 1 = m
        · rw [if_pos w, w, Nat.mod_self]
          unfold rlst
          rw [show m - 1 = k by omega]
        · rw [if_neg w, Nat.mod_eq_of_lt (by omega)]
          rfl
      unfold X12_note_82
      show Ok (if y ≤ nI (dN s (f k) (f ((k + 1) % m))) then _ else _) _
      rw [hyk]
      refine ok_ite (fun w => ok_bv ?_) (fun w => ok_bv ?_)
      · rw [ni_le (by omega) (by omega)] at w
        rw [ni_succ]
        refine hk2 _ ?_
        rw [← hnext, Nat.min_eq_left w]
      · rw [ni_le (by omega) (by omega)] at w
        rw [ni_succ]
        refine hk2 _ ?_
        rw [← hnext, Nat.min_eq_right (by omega)]
    · intro n y hy
      rw [if_pos rfl] at hy
      show Ok (X12_note_43 (n + 1) (nI m) y (nI m) ρ1) _
      rw [X12_note_43, hy, ni_mul, g79]
      refine ok_pos (Int32.le_refl _) ?_
      unfold noteA at hacc ⊢
      rw [if_neg z] at hacc ⊢
      have h60 := hok.1
      refine ok_ite (fun w => ok_bv (ok_bv (ok_bv ?_))) (fun w => ok_some ?_)
      · rw [ni_lt (by omega) (by omega)] at w
        rw [if_pos w] at hacc ⊢
        refine ok_loop0 (F := fun n i ρ => X12_note_114 n (nI m) i ρ) (N := m) (I := fun i ρ' => Fr [1044] [] (sI (sI ρ1 1000 79 (nI (rlst (dN s) f m * m))) 1000 80 (nI m)) ρ' ∧ ∀ j, j < i → ρ'.1 1044 j = nI (f j)) 0 _ (by omega) (by omega) ⟨Fr.refl, fun j hj => by omega⟩ ?_ ?_
        · rintro n i ρ' hi ⟨hf', hI⟩ hk
          show Ok (X12_note_114 (n + 1) (nI m) (nI i) ρ') _
          rw [X12_note_114]
          refine ok_neg (by rw [ni_le (by omega) (by omega)]; omega) (ok_pos (ib_t (by omega) (by omega)) (ok_pos (ib_t (by omega) (by omega)) (ok_bv (ok_bv ?_))))
          rw [ni_cl (by omega), ni_succ, hf'.ne (a := 1043) (by decide), sI_n (by decide), sI_n (by decide), hr1 i hi]
          refine hk _ ⟨frI hf' (.head _), fun j hj => ?_⟩
          rw [sI_o]
          by_cases v : j = i
          · rw [if_pos v, v]
          · rw [if_neg v]
            exact hI j (by omega)
        · rintro n ρ' ⟨hf', hI⟩
          show Ok (X12_note_114 (n + 1) (nI m) (nI m) ρ') _
          rw [X12_note_114]
          have e1000 := hf'.ne (a := 1000) (by decide)
          refine ok_pos (Int32.le_refl _) (ok_some ⟨hacc, ?_, ?_, ?_, hI⟩)
          · rw [e1000, sI_k (by decide), sI_k (by decide)]
            exact g78
          · rw [e1000, sI_k (by decide), sI_e]
          · rw [e1000, sI_e]
      · rw [ni_lt (by omega) (by omega)] at w
        rw [if_neg w] at hacc ⊢
        exact ⟨hacc, g78, g79, g80, gb⟩
/-! going through the rows -/
def itF : Nat → Nat
  | 0 => 1
  | e + 1 => 1 + (e + 1) * (1 + itF e)
def kidsK (n : Nat) (d : Nat → Nat → Nat) (k : Nat) (f : Nat → Nat) (m r i : Nat) (a : Ac) : Ac := match k with
  | 0 => a
  | k + 1 => kids d (fun i a => vis n d k (updN f m i) (m + 1) a) f m r i a
theorem vis_K (n : Nat) (d : Nat → Nat → Nat) (k : Nat) (f : Nat → Nat) (m : Nat) (a : Ac) : vis n d k f m a = kidsK n d k f m n 0 (noteA d f m a) := by
  cases k <;> rfl
theorem cnt_mono (f : Nat → Bool) : ∀ {i j : Nat}, i ≤ j → cnt f i ≤ cnt f j
  | i, 0, h => by rw [show i = 0 by omega]; exact Nat.le_refl _
  | i, j + 1, h => by
    by_cases z : i = j + 1
    · rw [z]
      exact Nat.le_refl _
    · have := cnt_mono f (i := i) (j := j) (by omega)
      rw [cnt_succ]
      omega
theorem cnt_remove (g : Nat → Bool) (x : Nat) : ∀ n, cnt (fun i => g i && !decide (i = x)) n + (if x < n ∧ g x = true then 1 else 0) = cnt g n
  | 0 => rfl
  | n + 1 => by
    have ih := cnt_remove g x n
    rw [cnt_succ, cnt_succ]
    by_cases z : n = x
    · subst z
      rw [if_neg (by omega)] at ih
      cases hg : g n
      · simp [hg]
        omega
      · simp [hg]
        omega
    · have e1 : (x < n + 1 ∧ g x = true) ↔ (x < n ∧ g x = true) := by
        constructor
        · rintro ⟨h1, h2⟩
          exact ⟨by omega, h2⟩
        · rintro ⟨h1, h2⟩
          exact ⟨by omega, h2⟩
      simp only [e1, decide_eq_false z, Bool.not_false, Bool.and_true]
      omega
theorem inR_congr {f g : Nat → Nat} {x : Nat} : ∀ m, (∀ j, j < m → f j = g j) → inR f x m = inR g x m
  | 0, _ => rfl
  | m + 1, h => by
    unfold inR
    rw [inR_congr m (fun j hj => h j (by omega)), h m (by omega)]
/-- the free ones: n - m of them -/
def freeC (n : Nat) (f : Nat → Nat) (m : Nat) : Prop := cnt (fun i => !inR f i m) n + m = n
theorem freeC_step {n : Nat} {f : Nat → Nat} {m i : Nat} (h : freeC n f m) (hi : i < n) (hf : inR f i m = false) : freeC n (updN f m i) (m + 1) := by
  unfold freeC at h ⊢
  have e : (fun j => !inR (updN f m i) j (m + 1)) = (fun j => (!inR f j m) && !decide (j = i)) := by
    funext j
    show (!(inR (updN f m i) j m || decide (updN f m i m = j))) = _
    rw [inR_congr (f := updN f m i) (g := f) m (fun k hk => by unfold updN; rw [if_neg (by omega)]), show updN f m i m = i by unfold updN; rw [if_pos rfl], Bool.not_or]
    have : decide (i = j) = decide (j = i) := by
      rw [decide_eq_decide]
      exact eq_comm
    rw [this]
  have := cnt_remove (fun j => !inR f j m) i n
  rw [if_pos ⟨hi, by simp [hf]⟩] at this
  rw [e]
  omega
theorem kidsM_ok {T : Tn} {s : St} {x1 : Int32} {K : Int32 → Mem → Option Mem} (hT : okT T) (hD : okD (tN T) (s 5)) : ∀ (k m : Nat) (f : Nat → Nat), k + m = 6 → 1 ≤ m → (∀ j, j < m → f j < tN T) → freeC (tN T) f m →
    ∀ (r i N : Nat) (a : Ac) (ρ : Mem), i + r = tN T → 1 + (cnt (fun j => !inR f j m) (tN T) - cnt (fun j => !inR f j m) i) * (1 + itF (tN T - m - 1)) ≤ N → dM T s ρ → rowM f m ρ → accM a ρ →
    ∃ N' ρ', X12_layRings_36 K N x1 (nI m) (nI i - 1) ρ = X12_layRings_36 K N' x1 (nI (m - 1)) (nI (f (m - 1))) ρ' ∧ dM T s ρ' ∧ rowM f m ρ' ∧ accM (kidsK (tN T) (dN s) k f m r i a) ρ' ∧ N ≤ N' + 1 + (cnt (fun j => !inR f j m) (tN T) - cnt (fun j => !inR f j m) i) * (1 + itF (tN T - m - 1)) := by
  have hn := hT.1
  intro k
  induction k with
  | zero =>
    intro m f hkm hm1 hf hfree r i N a ρ hi hN hd hr ha
    have h0 : cnt (fun j => !inR f j m) (tN T) = 0 := by unfold freeC at hfree; omega
    obtain ⟨N, rfl⟩ : ∃ q, N = q + 1 := ⟨N - 1, by omega⟩
    have hall : ∀ j, j < tN T → inR f j m = true := by
      intro j hj
      cases hz : inR f j m
      · have h1 := cnt_mono (fun j => !inR f j m) (show j + 1 ≤ tN T by omega)
        rw [cnt_succ] at h1
        simp only [hz, Bool.not_false, if_true] at h1
        omega
      · rfl
    have hnx : ∀ (r i : Nat), i + r = tN T → nxtF (dN s) f m r i = -1 := by
      intro r
      induction r with
      | zero => intro i _; rfl
      | succ r ih =>
        intro i hi
        show (if okX (dN s) f m i = true then nI i else nxtF (dN s) f m r (i + 1)) = -1
        rw [show okX (dN s) f m i = false by unfold okX; rw [hall i (by omega)]; simp, if_neg Bool.false_ne_true]
        exact ih (i + 1) (by omega)
    refine ⟨N, ρ, ?_, hd, hr, ha, by omega⟩
    rw [X12_layRings_36, if_neg (by rw [show (0 : Int32) = nI 0 from rfl, ni_le (by omega) (by omega)]; omega), nextAt_ok hT hD hd hm1 (by omega) hf hr hi (Int32.sub_add_cancel _ _), Option.bind_some, bv_eq]
    show (if nxtF (dN s) f m r i < 0 then _ else _) = _
    rw [hnx r i hi, if_pos (by decide), bv_eq, show nI m + (-1) = nI (m - 1) by rw [show m = (m - 1) + 1 by omega, ni_pred']; rfl, if_pos (ib_t (by omega) (by omega)), bv_eq]
    show X12_layRings_84 _ x1 (nI (m - 1)) (ρ.1 1043 (nI (m - 1)).toNatClampNeg) ρ = _
    rw [ni_cl (by omega), hr (m - 1) (by omega)]
    rfl
  | succ k ih =>
    intro m f hkm hm1 hf hfree r
    have hf6 : ∀ j, j < m → f j < 6 := fun j hj => by have := hf j hj; omega
    induction r with
    | zero =>
      intro i N a ρ hi hN hd hr ha
      obtain ⟨N, rfl⟩ : ∃ q, N = q + 1 := ⟨N - 1, by omega⟩
      refine ⟨N, ρ, ?_, hd, hr, ha, by omega⟩
      rw [X12_layRings_36, if_neg (by rw [show (0 : Int32) = nI 0 from rfl, ni_le (by omega) (by omega)]; omega), nextAt_ok hT hD hd hm1 (by omega) hf hr hi (Int32.sub_add_cancel _ _), Option.bind_some, bv_eq]
      show (if (-1 : Int32) < 0 then _ else _) = _
      rw [if_pos (by decide), bv_eq, show nI m + (-1) = nI (m - 1) by rw [show m = (m - 1) + 1 by omega, ni_pred']; rfl, if_pos (ib_t (by omega) (by omega)), bv_eq]
      show X12_layRings_84 _ x1 (nI (m - 1)) (ρ.1 1043 (nI (m - 1)).toNatClampNeg) ρ = _
      rw [ni_cl (by omega), hr (m - 1) (by omega)]
      rfl
    | succ r ih2 =>
      intro i N a ρ hi hN hd hr ha
      have hci := cnt_succ (fun j => !inR f j m) i
      have hcm := cnt_mono (fun j => !inR f j m) (show i + 1 ≤ tN T by omega)
      cases hok : okX (dN s) f m i with
      | false =>
        -- not a next one: as from i + 1 on
        have hsame : X12_layRings_36 K N x1 (nI m) (nI i - 1) ρ = X12_layRings_36 K N x1 (nI m) (nI (i + 1) - 1) ρ := by
          match N with
          | 0 => rfl
          | N + 1 =>
            rw [X12_layRings_36, X12_layRings_36, nextAt_ok hT hD hd hm1 (by omega) hf hr hi (Int32.sub_add_cancel _ _), nextAt_ok hT hD hd hm1 (by omega) hf hr (show i + 1 + r = tN T by omega) (Int32.sub_add_cancel _ _)]
            rw [show nxtF (dN s) f m (r + 1) i = if okX (dN s) f m i = true then nI i else nxtF (dN s) f m r (i + 1) from rfl, hok, if_neg Bool.false_ne_true]
        have hle : (cnt (fun j => !inR f j m) (tN T) - cnt (fun j => !inR f j m) (i + 1)) * (1 + itF (tN T - m - 1)) ≤ (cnt (fun j => !inR f j m) (tN T) - cnt (fun j => !inR f j m) i) * (1 + itF (tN T - m - 1)) := Nat.mul_le_mul_right _ (by omega)
        obtain ⟨N', ρ', e1, e2, e3, e4, e5⟩ := ih2 (i + 1) N a ρ (by omega) (by omega) hd hr ha
        refine ⟨N', ρ', hsame.trans e1, e2, e3, ?_, by omega⟩
        show accM (kids (dN s) _ f m r (i + 1) (if okX (dN s) f m i = true then _ else a)) ρ'
        rw [hok, if_neg Bool.false_ne_true]
        exact e4
      | true =>
        have hfi : inR f i m = false := by
          unfold okX at hok
          simp at hok
          exact hok.2
        rw [hfi, Bool.not_false, if_pos rfl] at hci
        have hfree2 := freeC_step hfree (show i < tN T by omega) hfi
        have hmn : m + 1 ≤ tN T := by unfold freeC at hfree2; omega
        have hsub : cnt (fun j => !inR f j m) (tN T) - cnt (fun j => !inR f j m) i = (cnt (fun j => !inR f j m) (tN T) - cnt (fun j => !inR f j m) (i + 1)) + 1 := by omega
        rw [hsub, Nat.add_mul, Nat.one_mul] at hN
        rw [hsub, Nat.add_mul, Nat.one_mul]
        generalize hQ : (cnt (fun j => !inR f j m) (tN T) - cnt (fun j => !inR f j m) (i + 1)) * (1 + itF (tN T - m - 1)) = Q at hN ⊢
        obtain ⟨N, rfl⟩ : ∃ q, N = q + 1 := ⟨N - 1, by omega⟩
        -- push
        have hrow2 : rowM (updN f m i) (m + 1) (sI ρ 1043 m (nI i)) := fun j hj => by
          rw [sI_o]
          unfold updN
          by_cases w : j = m
          · rw [if_pos w, if_pos w]
          · rw [if_neg w, if_neg w]
            exact hr j (by omega)
        have hf2 : ∀ j, j < m + 1 → updN f m i j < tN T := fun j hj => by
          unfold updN
          by_cases w : j = m
          · rw [if_pos w]
            omega
          · rw [if_neg w]
            exact hf j (by omega)
        have f1 : Fr [1043] [] ρ (sI ρ 1043 m (nI i)) := frI Fr.refl (.head _)
        have hacc1 : accM a (sI ρ 1043 m (nI i)) := ⟨ha.1, ha.2.1, ha.2.2.1, ha.2.2.2.1, fun j hj => by rw [sI_n (by decide)]; exact ha.2.2.2.2 j hj⟩
        obtain ⟨ρ2, en, hn2⟩ := note_ok hT hD (hd.keep f1 (by decide)) (show 2 ≤ m + 1 by omega) (by omega) hf2 hrow2 hacc1
        have f2 : Fr [1044] [(1000, 78), (1000, 79), (1000, 80)] (sI ρ 1043 m (nI i)) ρ2 := fr_X12_note _ _ Fr.refl _ en
        have hd2 : dM T s ρ2 := (hd.keep f1 (by decide)).keep f2 (by decide)
        have hr2 : rowM (updN f m i) (m + 1) ρ2 := fun j hj => by rw [(f2.off (A := [1043]) (B := []) (by decide)).1 1043 (by decide)]; exact hrow2 j hj
        have estep : X12_layRings_36 K (N + 1) x1 (nI m) (nI i - 1) ρ = X12_layRings_36 K N x1 (nI (m + 1)) (nI 0 - 1) ρ2 := by
          rw [X12_layRings_36, if_neg (by rw [show (0 : Int32) = nI 0 from rfl, ni_le (by omega) (by omega)]; omega), nextAt_ok hT hD hd hm1 (by omega) hf hr hi (Int32.sub_add_cancel _ _), Option.bind_some, bv_eq]
          rw [show nxtF (dN s) f m (r + 1) i = if okX (dN s) f m i = true then nI i else nxtF (dN s) f m r (i + 1) from rfl, hok, if_pos rfl]
          show (if nI i < 0 then _ else _) = _
          rw [if_neg (Int32.not_lt.mpr (ni_nn (by omega))), if_pos (ib_t (by omega) (by omega)), bv_eq, bv_eq, ni_succ]
          show (X12_note (nI (m + 1)) (sI ρ 1043 (nI m).toNatClampNeg (nI i))).bind _ = _
          rw [ni_cl (by omega), en, Option.bind_some, bv_eq]
          rfl
        have hcnt : cnt (fun j => !inR (updN f m i) j (m + 1)) (tN T) = tN T - m - 1 := by unfold freeC at hfree2; omega
        have hit : 1 + (cnt (fun j => !inR (updN f m i) j (m + 1)) (tN T) - cnt (fun j => !inR (updN f m i) j (m + 1)) 0) * (1 + itF (tN T - (m + 1) - 1)) ≤ itF (tN T - m - 1) := by
          rw [hcnt, show cnt (fun j => !inR (updN f m i) j (m + 1)) 0 = 0 from rfl, Nat.sub_zero]
          cases hq : tN T - m - 1 with
          | zero => rw [Nat.zero_mul]; exact Nat.le_refl _
          | succ q =>
            exact Nat.le_refl _
        obtain ⟨N1, ρ3, e1, e2, e3, e4, e5⟩ := ih (m + 1) (updN f m i) (by omega) (by omega) hf2 hfree2 (tN T) 0 N (noteA (dN s) (updN f m i) (m + 1) a) ρ2 (by omega) (by omega) hd2 hr2 hn2
        rw [← vis_K] at e4
        have hr3 : rowM f m ρ3 := fun j hj => by
          rw [e3 j (by omega)]
          unfold updN
          rw [if_neg (by omega)]
        have hpop : X12_layRings_36 K N1 x1 (nI (m + 1 - 1)) (nI (updN f m i (m + 1 - 1))) ρ3 = X12_layRings_36 K N1 x1 (nI m) (nI (i + 1) - 1) ρ3 := by
          rw [show m + 1 - 1 = m by omega, show updN f m i m = i by unfold updN; rw [if_pos rfl], ni_pred]
        obtain ⟨N', ρ', d1, d2, d3, d4, d5⟩ := ih2 (i + 1) N1 (vis (tN T) (dN s) k (updN f m i) (m + 1) a) ρ3 (by omega) (by rw [hQ]; omega) e2 hr3 e4
        rw [hQ] at d5
        refine ⟨N', ρ', estep.trans (e1.trans (hpop.trans d1)), d2, d3, ?_, by omega⟩
        show accM (kids (dN s) _ f m r (i + 1) (if okX (dN s) f m i = true then vis (tN T) (dN s) k (updN f m i) (m + 1) a else a)) ρ'
        rw [hok, if_pos rfl]
        exact d4
theorem itF5 : itF 5 = 651 := by decide
theorem layRings_ok {T : Tn} {s : St} {ρ : Mem} (hT : okT T) (hD : okD (tN T) (s 5)) (h : dM T s ρ) : Ok (X12_layRings ρ) (fun ρ' => accM (ringsF (tN T) (dN s) (tN T)) ρ') := by
  have hn := hT.1
  unfold X12_layRings
  refine ok_bv (ok_bv (ok_bv (ok_bv ?_)))
  have f0 : Fr [] [(1000, 78), (1000, 79), (1000, 80)] ρ (sI (sI (sI ρ 1000 78 0) 1000 79 0) 1000 80 0) := frIk (frIk (frIk Fr.refl (.inl (by decide))) (.inl (by decide))) (.inl (by decide))
  refine ok_loop0 (F := fun n i ρ => X12_layRings_17 n i ρ) (N := tN T) (I := fun i ρ' => accM (ringsF (tN T) (dN s) i) ρ' ∧ dM T s ρ') 0 _ (by omega) (by omega) ⟨⟨⟨by show (0 : Nat) ≤ 60000; omega, by show (0 : Nat) ≤ 9999; omega, by show (0 : Nat) ≤ 6; omega⟩, ?_, ?_, ?_, fun j hj => absurd hj (Nat.not_lt_zero j)⟩, h.keep f0 (by decide)⟩ ?_ ?_
  · rw [sI_k (by decide), sI_k (by decide), sI_e]
    rfl
  · rw [sI_k (by decide), sI_e]
    rfl
  · rw [sI_e]
    rfl
  · rintro n i ρ' hi ⟨ha, hd⟩ hk
    show Ok (X12_layRings_17 (n + 1) (nI i) ρ') _
    rw [X12_layRings_17, hd.1]
    refine ok_neg (by rw [ni_le (by omega) (by omega)]; omega) (ok_bv (ok_bv (ok_bv ?_)))
    have f1 : Fr [1043] [] ρ' (sI ρ' 1043 0 (nI i)) := frI Fr.refl (.head _)
    have hfree : freeC (tN T) (fun _ => i) 1 := by
      have h0 : freeC (tN T) (fun _ => i) 0 := by
        unfold freeC
        have : ∀ n, cnt (fun j => !inR (fun _ => i) j 0) n = n := by
          intro n
          induction n with
          | zero => rfl
          | succ n ih => rw [cnt_succ, ih]; rfl
        rw [this]
        omega
      have := freeC_step h0 hi rfl
      unfold freeC at this ⊢
      have e : (fun j => !inR (updN (fun _ => i) 0 i) j (0 + 1)) = (fun j => !inR (fun _ => i) j 1) := by
        funext j
        rw [inR_congr (f := updN (fun _ => i) 0 i) (g := fun _ => i) 1 (fun k hk => by unfold updN; rw [if_pos (by omega)])]
      rw [e] at this
      exact this
    have hcnt : cnt (fun j => !inR (fun _ => i) j 1) (tN T) = tN T - 1 := by unfold freeC at hfree; omega
    have hbound : 1 + (cnt (fun j => !inR (fun _ => i) j 1) (tN T) - cnt (fun j => !inR (fun _ => i) j 1) 0) * (1 + itF (tN T - 1 - 1)) ≤ 651 := by
      rw [hcnt, show cnt (fun j => !inR (fun _ => i) j 1) 0 = 0 from rfl, Nat.sub_zero]
      have : ∀ q : Fin 6, 1 + q.val * (1 + itF (q.val - 1)) ≤ 651 := by decide
      exact this ⟨tN T - 1, by omega⟩
    obtain ⟨N', ρ2, e1, e2, e3, e4, e5⟩ := kidsM_ok (K := X12_layRings_17 n) (x1 := nI i) hT hD 5 1 (fun _ => i) (by omega) (by omega) (fun j hj => hi) hfree (tN T) 0 fu (ringsF (tN T) (dN s) i) (sI ρ' 1043 0 (nI i)) (by omega) (by unfold fu; omega) (hd.keep f1 (by decide)) (fun j hj => by rw [show j = 0 by omega, sI_e]) ⟨ha.1, ha.2.1, ha.2.2.1, ha.2.2.2.1, fun j hj => by rw [sI_n (by decide)]; exact ha.2.2.2.2 j hj⟩
    show Ok (X12_layRings_36 (X12_layRings_17 n) fu (nI i) (nI 1) (nI 0 - 1) (sI ρ' 1043 0 (nI i))) _
    rw [e1]
    obtain ⟨N', rfl⟩ : ∃ q, N' = q + 1 := ⟨N' - 1, by unfold fu at e5; omega⟩
    rw [X12_layRings_36]
    refine ok_pos (by decide) (ok_bv ?_)
    rw [ni_succ]
    refine hk ρ2 ⟨?_, e2⟩
    have hz : noteA (dN s) (fun _ => i) 1 (ringsF (tN T) (dN s) i) = ringsF (tN T) (dN s) i := by
      unfold noteA
      rw [if_pos]
      show dN s i i = 0
      have := (hD i i (by omega) (by omega)).2 (.inr (.inr rfl))
      unfold dN
      rw [this]
      decide
    show accM (vis (tN T) (dN s) 5 (fun _ => i) 1 (ringsF (tN T) (dN s) i)) ρ2
    rw [vis_K, hz]
    exact e4
  · rintro n ρ' ⟨ha, hd⟩
    show Ok (X12_layRings_17 (n + 1) (nI (tN T)) ρ') _
    rw [X12_layRings_17, hd.1]
    exact ok_pos (Int32.le_refl _) (ok_some ha)
theorem s_rings : StpI Inv X11_rings X12_rings := by
  refine stpQ (fun σ => fr_X11_rings σ Fr.refl) (fun σ => fr_X12_rings σ Fr.refl) (by decide) (by decide) (fun σ ρ hI => ?_)
  obtain ⟨t, T, s, h1, h2, -, -, -, -, -, -, -⟩ := hI
  show Eq2 _ _
  have hT := h1.2.2.2.1
  have hD := okS_D h2.1.1
  unfold X11_rings X12_rings
  rw [h1.2.1, gT_ok h1.1, h1.2.2.2.2.1.1]
  exact ⟨_, ok_bind (findC_ok hT hD h2.2.1.2.1) (fun σ' h => ok_some h.2.1), ok_bind (layRings_ok hT hD ⟨h1.2.2.2.2.2.2.1.1, h2.2.2.2.1⟩) (fun ρ' h => ok_some h.2.1)⟩
/-- all of the invariant but what lies there -/
theorem InvR.lie {σ σ' ρ ρ' : Mem} {L L' : List Nat} {K K' : List (Nat × Nat)} (h : InvR σ ρ) (f : Fr L K σ σ') (g : Fr L' K' ρ ρ') (c : offL L K (esA.erase 123) (esB.erase (0, 14)) = true) (c' : offL L' K' (esC.erase 1042) (esD.erase (1000, 75)) = true) (hl : I_lies σ' ρ') : InvR σ' ρ' := by
  obtain ⟨t, T, s, h1, h2, h3, h4, h5, h6, h7, h8, h9⟩ := h
  have k : ∀ (A : List Nat) (B : List (Nat × Nat)), (∀ a, a ∈ A → a ∈ esA.erase 123) → (∀ b, b ∈ B → b ∈ esB.erase (0, 14)) → offL L K A B = true := fun A B x y => offL_sub c x y
  have k' : ∀ (A : List Nat) (B : List (Nat × Nat)), (∀ a, a ∈ A → a ∈ esC.erase 1042) → (∀ b, b ∈ B → b ∈ esD.erase (1000, 75)) → offL L' K' A B = true := fun A B x y => offL_sub c' x y
  exact ⟨t, T, s, h1.keep f g (k _ _ (by decide) (by decide)) (k' _ _ (by decide) (by decide)), h2.keep f g (k _ _ (by decide) (by decide)) (k' _ _ (by decide) (by decide)), h3.keep f g (k _ _ (by decide) (by decide)) (k' _ _ (by decide) (by decide)), h4.keep f g (k _ _ (by decide) (by decide)) (k' _ _ (by decide) (by decide)), h5.keep f g (k _ _ (by decide) (by decide)) (k' _ _ (by decide) (by decide)), hl, h7.keep f g (k _ _ (by decide) (by decide)) (k' _ _ (by decide) (by decide)), h8.keep f g (k _ _ (by decide) (by decide)) (k' _ _ (by decide) (by decide)), h9.keep f g (k _ _ (by decide) (by decide)) (k' _ _ (by decide) (by decide))⟩
theorem layDown_ok {a m : Nat} {g : Nat → Int32} {σ : Mem} (hm : m ≤ 6) (ha : a ≠ 0) (hg : ∀ j, j < m → σ.1 a j = g j) : Ok (X11_layDown a 6 (nI m) σ) (fun σ' => σ'.1 0 14 = nI m ∧ ∀ j, j < m → σ'.1 123 j = g j) := by
  unfold X11_layDown
  refine ok_bv ?_
  rw [show (6 : Int32) = nI 6 from rfl, imin_nI (by omega) (by omega), Nat.min_eq_left hm, sI_e]
  refine ok_pos (cpok_t (a := 0) (b := 0) (by omega) (by omega) (by omega) (by omega) (by omega)) (ok_bv (ok_some ⟨?_, fun j hj => ?_⟩))
  · rw [sC_n (by decide), sI_e]
  · rw [sC_o, show (0 : Int32).toNatClampNeg = 0 by decide, ni_cl (by omega), if_pos (by omega), Nat.zero_add, Nat.sub_zero, sI_n ha]
    exact hg j hj
theorem s_ring : StpI Inv X11_ring X12_ring := by
  refine stp (fun σ => fr_X11_ring σ Fr.refl) (fun σ => fr_X12_ring σ Fr.refl) (by decide) (by decide) (fun σ ρ hI => ?_)
  have hI0 := hI
  obtain ⟨t, T, s, h1, h2, -, -, -, -, -, -, -⟩ := hI
  have hT := h1.2.2.2.1
  have hD := okS_D h2.1.1
  have hC : Ok (X11_ring σ) (fun r => r.1 = nI (ringsF (tN T) (dN s) (tN T)).2.1 ∧ r.2.1 0 14 = nI (ringsF (tN T) (dN s) (tN T)).2.2.2.1 ∧ (ringsF (tN T) (dN s) (tN T)).2.2.2.1 ≤ 6 ∧ ∀ j, j < (ringsF (tN T) (dN s) (tN T)).2.2.2.1 → r.2.1 123 j = nI ((ringsF (tN T) (dN s) (tN T)).2.2.2.2 j)) := by
    unfold X11_ring
    rw [h1.2.1, gT_ok h1.1, h1.2.2.2.2.1.1]
    refine ok_bind (findC_ok hT hD h2.2.1.2.1) ?_
    rintro σ1 ⟨q0, q1, q2, q3, q4, q5⟩
    rw [q4]
    refine ok_bind (ok_fr (layDown_ok (a := 113) q0.2.2 (by decide) q5) (fr_X11_layDown _ _ _ _ Fr.refl)) ?_
    rintro σ2 ⟨⟨u1, u2⟩, f2⟩
    have f2 : Fr [123] [(0, 14)] σ1 σ2 := f2
    refine ok_some ⟨?_, u1, q0.2.2, u2⟩
    show σ2.1 111 4 = _
    rw [(f2.off (A := [111]) (B := []) (by decide)).1 111 (by decide)]
    exact q2
  have hM : Ok (X12_ring ρ) (fun r => r.1 = nI (ringsF (tN T) (dN s) (tN T)).2.1 ∧ r.2.1 1000 75 = nI (ringsF (tN T) (dN s) (tN T)).2.2.2.1 ∧ ∀ j, j < (ringsF (tN T) (dN s) (tN T)).2.2.2.1 → r.2.1 1042 j = nI ((ringsF (tN T) (dN s) (tN T)).2.2.2.2 j)) := by
    unfold X12_ring
    refine ok_bind (layRings_ok hT hD ⟨h1.2.2.2.2.2.2.1.1, h2.2.2.2.1⟩) ?_
    rintro ρ1 ⟨q0, q1, q2, q4, q5⟩
    generalize ringsF (tN T) (dN s) (tN T) = A at *
    have h6 := q0.2.2
    refine ok_bv (ok_bv ?_)
    rw [q4]
    refine ok_loop0 (F := fun n i ρ => X12_ring_14 n i ρ) (N := A.2.2.2.1) (I := fun i ρ' => Fr [1042] [] (sI ρ1 1000 75 (nI A.2.2.2.1)) ρ' ∧ ∀ j, j < i → ρ'.1 1042 j = nI (A.2.2.2.2 j)) 0 _ (by omega) (by omega) ⟨Fr.refl, fun j hj => by omega⟩ ?_ ?_
    · rintro n i ρ' hi ⟨hf, hI⟩ hk
      show Ok (X12_ring_14 (n + 1) (nI i) ρ') _
      have e80 : ρ'.1 1000 80 = nI A.2.2.2.1 := by rw [hf.ne (by decide), sI_k (by decide)]; exact q4
      rw [X12_ring_14, e80]
      refine ok_neg (by rw [ni_le (by omega) (by omega)]; omega) (ok_pos (ib_t (by omega) (by omega)) (ok_pos (ib_t (by omega) (by omega)) (ok_bv (ok_bv ?_))))
      rw [ni_cl (by omega), ni_succ, hf.ne (a := 1044) (by decide), sI_n (by decide), q5 i hi]
      refine hk _ ⟨frI hf (.head _), fun j hj => ?_⟩
      rw [sI_o]
      by_cases v : j = i
      · rw [if_pos v, v]
      · rw [if_neg v]
        exact hI j (by omega)
    · rintro n ρ' ⟨hf, hI⟩
      have e1000 := hf.ne (a := 1000) (by decide)
      have e80 : ρ'.1 1000 80 = nI A.2.2.2.1 := by rw [e1000, sI_k (by decide)]; exact q4
      show Ok (X12_ring_14 (n + 1) (nI A.2.2.2.1) ρ') _
      rw [X12_ring_14, e80]
      refine ok_pos (Int32.le_refl _) (ok_some ⟨?_, ?_, hI⟩)
      · show ρ'.1 1000 79 = _
        rw [e1000, sI_k (by decide)]
        exact q2
      · show ρ'.1 1000 75 = _
        rw [e1000, sI_e]
  obtain ⟨⟨r, σ'⟩, eC, c1, c2, c3, c4⟩ := hC
  obtain ⟨⟨r', ρ'⟩, eM, m1, m2, m3⟩ := hM
  have c1 : r = _ := c1
  have m1 : r' = _ := m1
  subst c1
  subst m1
  exact ⟨_, σ', ρ', eC, eM, hI0.lie (fr_X11_ring σ Fr.refl _ eC) (fr_X12_ring ρ Fr.refl _ eM) (by decide) (by decide) ⟨_, c3, c2, m2, fun j hj => (c4 j hj).trans (m3 j hj).symm⟩⟩
