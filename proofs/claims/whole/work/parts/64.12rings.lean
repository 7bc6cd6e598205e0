/-! rings: how they are gone through -/
abbrev Ac : Type := Nat × Nat × Nat × Nat × (Nat → Nat)
def lstN (d : Nat → Nat → Nat) (f : Nat → Nat) : Nat → Nat
  | 0 => 9999
  | k + 1 => min (lstN d f k) (d (f k) (f (k + 1)))
def rlst (d : Nat → Nat → Nat) (f : Nat → Nat) (m : Nat) : Nat := min (lstN d f (m - 1)) (d (f (m - 1)) (f 0))
def noteA (d : Nat → Nat → Nat) (f : Nat → Nat) (m : Nat) (a : Ac) : Ac :=
  if d (f (m - 1)) (f 0) = 0 then a else if a.2.1 < rlst d f m * m then (a.1 + 1, rlst d f m * m, rlst d f m, m, f) else (a.1 + 1, a.2)
def inR (f : Nat → Nat) (x : Nat) : Nat → Bool
  | 0 => false
  | m + 1 => inR f x m || decide (f m = x)
def okX (d : Nat → Nat → Nat) (f : Nat → Nat) (m i : Nat) : Bool := decide (f 0 < i) && decide (0 < d (f (m - 1)) i) && !inR f i m
def updN (f : Nat → Nat) (m x : Nat) : Nat → Nat := fun j => if j = m then x else f j
/-- the ways on from a row, by the next one, from i on -/
def kids (d : Nat → Nat → Nat) (F : Nat → Ac → Ac) (f : Nat → Nat) (m : Nat) : Nat → Nat → Ac → Ac
  | 0, _, a => a
  | r + 1, i, a => kids d F f m r (i + 1) (if okX d f m i = true then F i a else a)
def vis (n : Nat) (d : Nat → Nat → Nat) : Nat → (Nat → Nat) → Nat → Ac → Ac
  | 0, f, m, a => noteA d f m a
  | e + 1, f, m, a => kids d (fun i a => vis n d e (updN f m i) (m + 1) a) f m n 0 (noteA d f m a)
def ringsF (n : Nat) (d : Nat → Nat → Nat) : Nat → Ac
  | 0 => (0, 0, 0, 0, fun _ => 0)
  | s + 1 => vis n d 5 (fun _ => s) 1 (ringsF n d s)
def dN (s : St) (i j : Nat) : Nat := ix (s 5 (6 * i + j))
theorem dN_eq {T : Tn} {s : St} (h : okD (tN T) (s 5)) {i j : Nat} (hi : i < 6) (hj : j < 6) : s 5 (6 * i + j) = nI (dN s i j) ∧ dN s i j ≤ 9999 := by
  obtain ⟨⟨v, hv, e⟩, -⟩ := h i j hi hj
  unfold dN
  rw [e, show ix (nI v) = v from ni_cl (by omega)]
  exact ⟨rfl, hv⟩
theorem lstN_le (d : Nat → Nat → Nat) (f : Nat → Nat) : ∀ k, lstN d f k ≤ 9999
  | 0 => Nat.le_refl _
  | k + 1 => Nat.le_trans (Nat.min_le_left _ _) (lstN_le d f k)
theorem lstN_congr {d : Nat → Nat → Nat} {f g : Nat → Nat} : ∀ k, (∀ j, j ≤ k → f j = g j) → lstN d f k = lstN d g k
  | 0, _ => rfl
  | k + 1, h => by
    show min (lstN d f k) (d (f k) (f (k + 1))) = min (lstN d g k) (d (g k) (g (k + 1)))
    rw [h k (by omega), h (k + 1) (by omega), lstN_congr k (fun j hj => h j (by omega))]
theorem kids_skip {d : Nat → Nat → Nat} {F : Nat → Ac → Ac} {f : Nat → Nat} {m : Nat} {a : Ac} : ∀ (j r i : Nat), (∀ k, i ≤ k → k < i + j → okX d f m k = false) → kids d F f m (j + r) i a = kids d F f m r (i + j) a
  | 0, r, i, _ => by rw [Nat.zero_add, Nat.add_zero]
  | j + 1, r, i, h => by
    rw [show j + 1 + r = (j + r) + 1 by omega]
    show kids d F f m (j + r) (i + 1) (if okX d f m i = true then F i a else a) = _
    rw [h i (by omega) (by omega), if_neg Bool.false_ne_true, kids_skip j r (i + 1) (fun k h1 h2 => h k (by omega) (by omega)), show i + 1 + j = i + (j + 1) by omega]
/-! the class -/
def rowC (f : Nat → Nat) (m : Nat) (σ : Mem) : Prop := ∀ j, j < m → σ.1 112 j = nI (f j)
def accOk (a : Ac) : Prop := a.2.1 ≤ 60000 ∧ a.2.2.1 ≤ 9999 ∧ a.2.2.2.1 ≤ 6
def accC (a : Ac) (σ : Mem) : Prop := accOk a ∧ σ.1 111 5 = nI a.1 ∧ σ.1 111 4 = nI a.2.1 ∧ σ.1 111 1 = nI a.2.2.1 ∧ σ.1 111 3 = nI a.2.2.2.1 ∧ ∀ j, j < a.2.2.2.1 → σ.1 113 j = nI (a.2.2.2.2 j)
theorem rlst_le (d : Nat → Nat → Nat) (f : Nat → Nat) (m : Nat) : rlst d f m ≤ 9999 := Nat.le_trans (Nat.min_le_left _ _) (lstN_le d f _)
theorem mul6 {l m : Nat} (h : l ≤ 9999) (hm : m ≤ 6) : l * m ≤ 60000 := Nat.le_trans (Nat.mul_le_mul h hm) (by omega)
theorem keepR_ok {d : Nat → Nat → Nat} {f : Nat → Nat} {m : Nat} {a : Ac} {σ : Mem} (hm1 : 1 ≤ m) (hm : m ≤ 6) (hr : rowC f m σ) (ha : accC a σ) (hd : d (f (m - 1)) (f 0) ≠ 0) :
    Ok (X6_keep (nI m) (nI (rlst d f m)) σ) (fun σ' => rowC f m σ' ∧ accC (noteA d f m a) σ') := by
  have hl := rlst_le d f m
  have hlm := mul6 hl hm
  obtain ⟨hok, e5, e4, e1, e3, eb⟩ := ha
  unfold X6_keep noteA
  rw [if_neg hd]
  refine ok_bv ?_
  rw [sI_k (k := 5) (b := 4) (by decide), e4, e5, ni_succ, ni_mul]
  by_cases z : a.2.1 < rlst d f m * m
  · rw [if_pos z]
    refine ok_neg (by rw [ni_le (by omega) (by have := hok.1; omega)]; omega) (ok_bv (ok_bv (ok_bv ?_)))
    refine ok_pos (cpok_t (a := 0) (b := 0) (by omega) (by omega) (by omega) (by omega) (by omega)) (ok_bv (ok_some ⟨fun j hj => ?_, ⟨hlm, hl, hm⟩, ?_, ?_, ?_, ?_, fun j hj => ?_⟩))
    · rw [sC_n (by decide), sI_n (by decide), sI_n (by decide), sI_n (by decide), sI_n (by decide)]
      exact hr j hj
    · rw [sC_n (by decide), sI_k (by decide), sI_k (by decide), sI_k (by decide), sI_e]
    · rw [sC_n (by decide), sI_k (by decide), sI_k (by decide), sI_e]
    · rw [sC_n (by decide), sI_k (by decide), sI_e]
    · rw [sC_n (by decide), sI_e]
    · have hj : j < m := hj
      rw [sC_o, show (0 : Int32).toNatClampNeg = 0 by decide, ni_cl (by omega), if_pos (by omega), sI_n (by decide), sI_n (by decide), sI_n (by decide), sI_n (by decide), Nat.zero_add, Nat.sub_zero]
      exact hr j hj
  · rw [if_neg z]
    refine ok_pos (by rw [ni_le (by omega) (by have := hok.1; omega)]; omega) (ok_some ⟨fun j hj => ?_, hok, sI_e _ _ _ _, ?_, ?_, ?_, fun j hj => ?_⟩)
    · rw [sI_n (by decide)]
      exact hr j hj
    · rw [sI_k (by decide)]
      exact e4
    · rw [sI_k (by decide)]
      exact e1
    · rw [sI_k (by decide)]
      exact e3
    · rw [sI_n (by decide)]
      exact eb j hj
theorem isInC_ok {f : Nat → Nat} {m x : Nat} {σ : Mem} (hm : m ≤ 6) (hx : x < 6) (hf : ∀ j, j < m → f j < 6) (hr : rowC f m σ) : Ok (X6_isInRow (nI x) (nI m) σ) (fun r => r = (tr (inR f x m), σ)) := by
  unfold X6_isInRow
  refine ok_bv ?_
  have hinR : ∀ j k, j < k → f j = x → inR f x k = true := by
    intro j k hj hf
    induction k with
    | zero => omega
    | succ k ih =>
      unfold inR
      by_cases z : j = k
      · rw [← z, decide_eq_true hf, Bool.or_true]
      · rw [ih (by omega), Bool.true_or]
  refine ok_loop0 (F := fun n i (_ : Unit) => X6_isInRow_2 n (nI x) (nI m) i σ) (N := m) (I := fun i _ => inR f x i = false) 0 () (by omega) (by omega) rfl ?_ ?_
  · intro n i _ hi hI hk
    show Ok (X6_isInRow_2 (n + 1) (nI x) (nI m) (nI i) σ) _
    rw [X6_isInRow_2]
    refine ok_neg (by rw [ni_le (by omega) (by omega)]; omega) (ok_pos (ib_t (by omega) (by omega)) ?_)
    rw [ni_cl (by omega), hr i hi]
    have := hf i hi
    refine ok_ite (fun z => ok_some ?_) (fun z => ok_bv ?_)
    · rw [ni_inj (by omega) (by omega)] at z
      rw [hinR i m hi z]
      rfl
    · rw [ni_inj (by omega) (by omega)] at z
      rw [ni_succ]
      refine hk () ?_
      unfold inR
      rw [hI, decide_eq_false z]
      rfl
  · intro n _ hI
    show Ok (X6_isInRow_2 (n + 1) (nI x) (nI m) (nI m) σ) _
    rw [X6_isInRow_2]
    refine ok_pos (Int32.le_refl _) (ok_some ?_)
    rw [hI]
    rfl
theorem imin_nI {a b : Nat} (ha : a < 1000000) (hb : b < 1000000) : imin (nI a) (nI b) = nI (min a b) := by
  unfold imin
  by_cases g : b < a
  · rw [if_pos ((ni_lt (by omega) (by omega)).mpr g), Nat.min_eq_right (by omega)]
  · rw [if_neg (by rw [ni_lt (by omega) (by omega)]; exact g), Nat.min_eq_left (by omega)]
theorem noteA_ok {d : Nat → Nat → Nat} {f : Nat → Nat} {m : Nat} {a : Ac} (hm : m ≤ 6) (h : accOk a) : accOk (noteA d f m a) := by
  unfold noteA
  split
  · exact h
  · split
    · exact ⟨mul6 (rlst_le d f m) hm, rlst_le d f m, hm⟩
    · exact h
theorem goOn_ok {T : Tn} {s : St} (hT : okT T) (hD : okD (tN T) (s 5)) : ∀ (e k m : Nat) (f : Nat → Nat) (a : Ac) (σ : Mem), k + m = 6 → 1 ≤ m → k < e → (∀ j, j < m → f j < tN T) → rowC f m σ → accC a σ → (∀ c, c < 36 → σ.1 36 c = s 5 c) →
    Ok (C_goOn e 36 36 (nI (tN T)) (nI m) (nI (lstN (dN s) f (m - 1))) σ) (fun σ' => rowC f m σ' ∧ accC (vis (tN T) (dN s) k f m a) σ') := by
  have hn := hT.1
  intro e
  induction e with
  | zero => intro k m f a σ h1 h2 h3; omega
  | succ e ih =>
    intro k m f a σ hkm hm1 hke hf hr ha hd
    have hf6 : ∀ j, j < m → f j < 6 := fun j hj => by have := hf j hj; omega
    have hl6 := hf6 (m - 1) (by omega)
    have h06 := hf6 0 (by omega)
    have hlst := lstN_le (dN s) f (m - 1)
    obtain ⟨ec, hc9⟩ := dN_eq (T := T) hD hl6 h06
    rw [C_goOn]
    unfold X6_goOn
    rw [show nI m - 1 = nI (m - 1) by rw [show (1 : Int32) = nI 1 from rfl, ni_sub hm1]]
    refine ok_pos (ib_t (by omega) (by omega)) (ok_bv ?_)
    rw [ni_cl (by omega), hr (m - 1) (by omega), hr 0 (by omega)]
    refine ok_bindE (cell_ok σ) (ok_pos (ib_t (by omega) (by omega)) (ok_bv ?_))
    show Ok (if σ.1 36 (nI (6 * f (m - 1) + f 0)).toNatClampNeg ≤ 0 then _ else (X6_keep (nI m) (imin _ (σ.1 36 (nI (6 * f (m - 1) + f 0)).toNatClampNeg)) σ).bind _) _
    rw [ni_cl (by omega), hd _ (by omega), ec]
    -- the ways on
    have h42 : ∀ σ1, rowC f m σ1 → accC (noteA (dN s) f m a) σ1 → (∀ c, c < 36 → σ1.1 36 c = s 5 c) → Ok (X6_goOn_42 (C_goOn e) 36 36 (nI (tN T)) (nI m) (nI (lstN (dN s) f (m - 1))) (nI (f (m - 1))) σ1) (fun σ' => rowC f m σ' ∧ accC (vis (tN T) (dN s) k f m a) σ') := by
      intro σ1 hr1 ha1 hd1
      unfold X6_goOn_42
      match k, hkm, hke with
      | 0, hkm, hke =>
        refine ok_neg (by rw [show (6 : Int32) = nI 6 from rfl, ni_lt (by omega) (by omega)]; omega) (ok_some ⟨hr1, ?_⟩)
        exact ha1
      | k + 1, hkm, hke =>
        refine ok_pos (by rw [show (6 : Int32) = nI 6 from rfl, ni_lt (by omega) (by omega)]; omega) (ok_bv ?_)
        rw [hr1 0 (by omega), ni_succ]
        have hf0 := hf 0 (by omega)
        have hvis : vis (tN T) (dN s) (k + 1) f m a = kids (dN s) (fun i a => vis (tN T) (dN s) k (updN f m i) (m + 1) a) f m (tN T - (f 0 + 1)) (f 0 + 1) (noteA (dN s) f m a) := by
          show kids (dN s) _ f m (tN T) 0 _ = _
          have := kids_skip (d := dN s) (F := fun i a => vis (tN T) (dN s) k (updN f m i) (m + 1) a) (f := f) (m := m) (a := noteA (dN s) f m a) (f 0 + 1) (tN T - (f 0 + 1)) 0 (fun j h1 h2 => by
            unfold okX
            rw [decide_eq_false (show ¬ f 0 < j by omega), Bool.false_and, Bool.false_and])
          rw [show f 0 + 1 + (tN T - (f 0 + 1)) = tN T by omega, Nat.zero_add] at this
          exact this
        rw [hvis]
        -- the loop over the next ones
        have loop : ∀ (r n i : Nat) (b : Ac) (σ2 : Mem), i + r = tN T → r < n → f 0 < i → rowC f m σ2 → accC b σ2 → (∀ c, c < 36 → σ2.1 36 c = s 5 c) → Ok (X6_goOn_59 (C_goOn e) 36 36 n (nI (tN T)) (nI m) (nI (lstN (dN s) f (m - 1))) (nI (f (m - 1))) (nI i) σ2) (fun σ' => rowC f m σ' ∧ accC (kids (dN s) (fun i a => vis (tN T) (dN s) k (updN f m i) (m + 1) a) f m r i b) σ') := by
          intro r
          induction r with
          | zero =>
            intro n i b σ2 hi hnn h0 hr2 ha2 hd2
            obtain ⟨n, rfl⟩ : ∃ q, n = q + 1 := ⟨n - 1, by omega⟩
            rw [X6_goOn_59]
            exact ok_pos (by rw [ni_le (by omega) (by omega)]; omega) (ok_some ⟨hr2, ha2⟩)
          | succ r ih2 =>
            intro n i b σ2 hi hnn h0 hr2 ha2 hd2
            obtain ⟨n, rfl⟩ : ∃ q, n = q + 1 := ⟨n - 1, by omega⟩
            obtain ⟨eo, ho9⟩ := dN_eq (T := T) hD hl6 (show i < 6 by omega)
            have hskip : okX (dN s) f m i = false → Ok (X6_goOn_115 (C_goOn e) 36 36 (X6_goOn_59 (C_goOn e) 36 36 n) (nI (tN T)) (nI m) (nI (lstN (dN s) f (m - 1))) (nI (f (m - 1))) (nI i) σ2) (fun σ' => rowC f m σ' ∧ accC (kids (dN s) (fun i a => vis (tN T) (dN s) k (updN f m i) (m + 1) a) f m (r + 1) i b) σ') := by
              intro hz
              unfold X6_goOn_115
              refine ok_bv ?_
              rw [ni_succ]
              show Ok _ (fun σ' => rowC f m σ' ∧ accC (kids (dN s) _ f m r (i + 1) (if okX (dN s) f m i = true then _ else b)) σ')
              rw [hz, if_neg Bool.false_ne_true]
              exact ih2 n (i + 1) b σ2 (by omega) (by omega) (by omega) hr2 ha2 hd2
            rw [X6_goOn_59]
            refine ok_neg (by rw [ni_le (by omega) (by omega)]; omega) ?_
            refine ok_bindE (cell_ok σ2) (ok_pos (ib_t (by omega) (by omega)) (ok_bv ?_))
            show Ok (if σ2.1 36 (nI (6 * f (m - 1) + i)).toNatClampNeg ≤ 0 then _ else _) _
            rw [ni_cl (by omega), hd2 _ (by omega), eo]
            refine ok_ite (fun z => hskip ?_) (fun z => ?_)
            · rw [show (0 : Int32) = nI 0 from rfl, ni_le (by omega) (by omega)] at z
              unfold okX
              rw [decide_eq_false (show ¬ 0 < dN s (f (m - 1)) i by omega), Bool.and_false, Bool.false_and]
            · rw [show (0 : Int32) = nI 0 from rfl, ni_le (by omega) (by omega)] at z
              refine ok_bind (isInC_ok (x := i) (by omega) (by omega) hf6 hr2) ?_
              rintro _ rfl
              refine ok_ite (fun y => ?_) (fun y => hskip ?_)
              · rw [tr_ne] at y
                have hok : okX (dN s) f m i = true := by
                  unfold okX
                  rw [decide_eq_true h0, decide_eq_true (show 0 < dN s (f (m - 1)) i by omega), y]
                  rfl
                refine ok_pos (ib_t (by omega) (by omega)) (ok_bv ?_)
                show Ok ((C_goOn e 36 36 (nI (tN T)) (nI m + 1) (imin (nI (lstN (dN s) f (m - 1))) (nI (dN s (f (m - 1)) i))) (sI σ2 112 (nI m).toNatClampNeg (nI i))).bind _) _
                rw [ni_cl (by omega), ni_succ, imin_nI (by omega) (by omega)]
                have hle : min (lstN (dN s) f (m - 1)) (dN s (f (m - 1)) i) = lstN (dN s) (updN f m i) (m + 1 - 1) := by
                  obtain ⟨m', rfl⟩ : ∃ q, m = q + 1 := ⟨m - 1, by omega⟩
                  show min (lstN (dN s) f m') (dN s (f m') i) = min (lstN (dN s) (updN f (m' + 1) i) m') (dN s (updN f (m' + 1) i m') (updN f (m' + 1) i (m' + 1)))
                  rw [lstN_congr (f := updN f (m' + 1) i) (g := f) m' (fun j hj => by unfold updN; rw [if_neg (by omega)])]
                  unfold updN
                  rw [if_neg (by omega), if_pos rfl]
                rw [hle]
                refine ok_bind (ok_fr (ih k (m + 1) (updN f m i) b (sI σ2 112 m (nI i)) (by omega) (by omega) (by omega) (fun j hj => ?_) (fun j hj => ?_) ?_ (fun c hc => by rw [sI_n (by decide)]; exact hd2 c hc)) (fr_C_goOn _ _ _ _ _ _ _)) ?_
                · unfold updN
                  by_cases w : j = m
                  · rw [if_pos w]
                    omega
                  · rw [if_neg w]
                    exact hf j (by omega)
                · rw [sI_o]
                  unfold updN
                  by_cases w : j = m
                  · rw [if_pos w, if_pos w]
                  · rw [if_neg w, if_neg w]
                    exact hr2 j (by omega)
                · obtain ⟨q0, q1, q2, q3, q4, q5⟩ := ha2
                  exact ⟨q0, q1, q2, q3, q4, fun j hj => by rw [sI_n (by decide)]; exact q5 j hj⟩
                · rintro σ3 ⟨⟨u1, u2⟩, f3⟩
                  have f3 : Fr [112, 113] [(111, 1), (111, 3), (111, 4), (111, 5)] (sI σ2 112 m (nI i)) σ3 := f3
                  have o3 := f3.off (A := [36]) (B := []) (by decide)
                  unfold X6_goOn_115
                  refine ok_bv ?_
                  rw [ni_succ]
                  show Ok _ (fun σ' => rowC f m σ' ∧ accC (kids (dN s) _ f m r (i + 1) (if okX (dN s) f m i = true then vis (tN T) (dN s) k (updN f m i) (m + 1) b else b)) σ')
                  rw [hok, if_pos rfl]
                  refine ih2 n (i + 1) _ σ3 (by omega) (by omega) (by omega) (fun j hj => ?_) u2 (fun c hc => ?_)
                  · rw [u1 j (by omega)]
                    unfold updN
                    rw [if_neg (by omega)]
                  · rw [o3.1 36 (by decide), sI_n (by decide)]
                    exact hd2 c hc
              · have y' : inR f i m = true := by rw [tr_ne] at y; simpa using y
                unfold okX
                rw [y', Bool.not_true, Bool.and_false]
        exact loop (tN T - (f 0 + 1)) fu (f 0 + 1) _ σ1 (by omega) (by unfold fu; omega) (by omega) hr1 ha1 hd1
    refine ok_ite (fun z => ?_) (fun z => ?_)
    · rw [show (0 : Int32) = nI 0 from rfl, ni_le (by omega) (by omega)] at z
      refine h42 σ hr ?_ hd
      unfold noteA
      rw [if_pos (by omega)]
      exact ha
    · rw [show (0 : Int32) = nI 0 from rfl, ni_le (by omega) (by omega)] at z
      rw [imin_nI (by omega) (by omega)]
      refine ok_bind (ok_fr (keepR_ok (d := dN s) (f := f) hm1 (by omega) hr ha (by omega)) (fr_X6_keep _ _ _ Fr.refl)) ?_
      rintro σ1 ⟨⟨u1, u2⟩, f1⟩
      have f1 : Fr [113] [(111, 1), (111, 3), (111, 4), (111, 5)] σ σ1 := f1
      refine h42 σ1 u1 u2 (fun c hc => ?_)
      rw [(f1.off (A := [36]) (B := []) (by decide)).1 36 (by decide)]
      exact hd c hc
theorem findC_ok {T : Tn} {s : St} {σ : Mem} (hT : okT T) (hD : okD (tN T) (s 5)) (hd : ∀ c, c < 36 → σ.1 36 c = s 5 c) : Ok (X6_find 36 36 (nI (tN T)) σ) (fun σ' => accC (ringsF (tN T) (dN s) (tN T)) σ') := by
  have hn := hT.1
  unfold X6_find
  refine ok_bv (ok_bv (ok_bv (ok_bv (ok_bv ?_))))
  refine ok_loop0 (F := fun n i σ => X6_find_22 36 36 n (nI (tN T)) i σ) (N := tN T) (I := fun i σ' => accC (ringsF (tN T) (dN s) i) σ' ∧ ∀ c, c < 36 → σ'.1 36 c = s 5 c) 0 _ (by omega) (by omega) ⟨⟨⟨by show (0 : Nat) ≤ 60000; omega, by show (0 : Nat) ≤ 9999; omega, by show (0 : Nat) ≤ 6; omega⟩, ?_, ?_, ?_, ?_, fun j hj => absurd hj (Nat.not_lt_zero j)⟩, fun c hc => ?_⟩ ?_ ?_
  · exact sI_e _ _ _ _
  · rw [sI_k (by decide), sI_e]
    rfl
  · rw [sI_k (by decide), sI_k (by decide), sI_k (by decide), sI_e]
    rfl
  · rw [sI_k (by decide), sI_k (by decide), sI_e]
    rfl
  · rw [sI_n (by decide), sI_n (by decide), sI_n (by decide), sI_n (by decide)]
    exact hd c hc
  · rintro n i σ' hi ⟨ha, hd'⟩ hk
    show Ok (X6_find_22 36 36 (n + 1) (nI (tN T)) (nI i) σ') _
    rw [X6_find_22]
    refine ok_neg (by rw [ni_le (by omega) (by omega)]; omega) (ok_bv ?_)
    refine ok_bind (ok_fr (goOn_ok hT hD 8 5 1 (fun _ => i) (ringsF (tN T) (dN s) i) (sI σ' 112 0 (nI i)) (by omega) (by omega) (by omega) (fun j hj => hi) (fun j hj => ?_) ?_ (fun c hc => by rw [sI_n (by decide)]; exact hd' c hc)) (fr_C_goOn _ _ _ _ _ _ _)) ?_
    · rw [show j = 0 by omega, sI_e]
    · obtain ⟨q0, q1, q2, q3, q4, q5⟩ := ha
      exact ⟨q0, q1, q2, q3, q4, fun j hj => by rw [sI_n (by decide)]; exact q5 j hj⟩
    · rintro σ2 ⟨⟨-, u2⟩, f2⟩
      have f2 : Fr [112, 113] [(111, 1), (111, 3), (111, 4), (111, 5)] (sI σ' 112 0 (nI i)) σ2 := f2
      refine ok_bv ?_
      rw [ni_succ]
      refine hk σ2 ⟨u2, fun c hc => ?_⟩
      rw [(f2.off (A := [36]) (B := []) (by decide)).1 36 (by decide), sI_n (by decide)]
      exact hd' c hc
  · rintro n σ' ⟨ha, -⟩
    show Ok (X6_find_22 36 36 (n + 1) (nI (tN T)) (nI (tN T)) σ') _
    rw [X6_find_22]
    exact ok_pos (Int32.le_refl _) (ok_some ha)
