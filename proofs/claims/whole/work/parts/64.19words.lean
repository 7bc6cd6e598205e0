/-! a number of the law told otherwise: the class counts; the step -/
theorem pos_mem : ∀ (pr : Pg) (i k : Nat), k ∈ pos pr i → i ≤ k ∧ k < i + pr.length ∧ (pr.getD (k - i) (0, 0)).1 = 0
  | [], _, _, h => by cases h
  | c :: r, i, k, h => by
    rw [pos_cons] at h
    have tl : k ∈ pos r (i + 1) → i ≤ k ∧ k < i + (c :: r).length ∧ ((c :: r).getD (k - i) (0, 0)).1 = 0 := fun g => by
      obtain ⟨h1, h2, h3⟩ := pos_mem r (i + 1) k g
      refine ⟨by omega, by rw [List.length_cons]; omega, ?_⟩
      rw [show k - i = (k - (i + 1)) + 1 by omega, List.getD_cons_succ]
      exact h3
    by_cases z : c.1 = 0
    · rw [if_pos z] at h
      rcases List.mem_cons.mp h with g | g
      · subst g
        refine ⟨Nat.le_refl _, by rw [List.length_cons]; omega, ?_⟩
        rw [Nat.sub_self]
        exact z
      · exact tl g
    · rw [if_neg z] at h
      exact tl h
theorem tell_ok {o j k : Nat} {v : Int32} {σ : Mem} (hj : j < 30) (hk : k < 270) (h : σ.1 (o + 4) j = nI k) : X2_tellOtherwise o (nI j) v σ = some (sI σ (o + 2) k v) := by
  unfold X2_tellOtherwise
  rw [if_pos (ib_t hj (by omega)), ni_cl (by omega), h, if_pos (ib_t hk (by omega)), ni_cl (by omega)]
  rfl
def LW (t : Nat) : List Nat := [45, 47, 49, 50, 51, 52, 53, t + 11, t + 12, t + 17]
def KW : List (Nat × Nat) := [(43, 4), (43, 5), (48, 5), (48, 6), (48, 7)]
def wC (a : Wa) (σ : Mem) : Prop := a.1 ≠ 0 → σ.1 43 4 = nI a.2.1 ∧ σ.1 43 5 = nI a.2.2
theorem wC.keep {a : Wa} {σ σ' : Mem} (h : wC a σ) (e4 : σ'.1 43 4 = σ.1 43 4) (e5 : σ'.1 43 5 = σ.1 43 5) : wC a σ' := by
  unfold wC
  rw [e4, e5]
  exact h
theorem wordsIn_ok {T : Tn} {s : St} {σ0 : Mem} {t p q c m j k : Nat} {b : Bool} {pr : Pg} (hT : okT T) (hS : okN T s) (ht : t = 7 ∨ t = 124) (hm : m ≤ 60) (hp : p < 6) (hq : q < 6) (hc : c = 6 * p + q) (h : CT T t σ0) (hs : CS T (stW b c s) σ0 54) (hr : ∀ i, i < m → RollOk T (hoursF T i s) (σ0.1 60 i)) (hn : b = false → noC T s c)
    (e : tP T 0 = some pr) (hk : k < pr.length) (h0 : (pr.getD k (0, 0)).1 = 0) (hj : j < 30) (hkj : σ0.1 (t + 13) j = nI k)
    {K27 : Int32 → Int32 → Int32 → Int32 → Mem → Option (Int32 × Mem)} {Q : Int32 × Mem → Prop} {a : Wa} {σ : Mem} (ha : a.1 ≤ 5000) (hA : wC a σ) (hf : Fr (LW t) KW σ0 σ) (h11 : σ.1 (t + 11) = σ0.1 (t + 11))
    (hQ : ∀ σ', wC (wV T s m c (pr.getD k (0, 0)).2 k j 100 a) σ' → Fr (LW t) KW σ0 σ' → σ'.1 (t + 11) = σ0.1 (t + 11) → Ok (K27 (nI c) (nI m) (nI (wV T s m c (pr.getD k (0, 0)).2 k j 100 a).1) (nI (j + 1)) σ') Q) :
    Ok (X1_countWords_49 t 31 K27 fu (nI c) (nI m) (nI a.1) (nI j) (σ0.1 (t + 11) k) 0 σ) Q := by
  have hl := (hT.2.2.2.2 0 pr e).2.2
  have told : σ0.1 (t + 11) k = (pr.getD k (0, 0)).2 := by
    have hp := h.2.2.2.1
    rw [e] at hp
    have hp : σ0.1 (t + 9) 5 = 1 ∧ FC pr σ0 (t + 9) := hp
    have q := hp.2.2 k hk
    rw [getD_at hk] at h0 ⊢
    rcases q with g | g | g | g
    · exact g.2.2
    · rw [h0] at g
      exact absurd g.1 (by decide)
    · rw [h0] at g
      exact absurd g.1 (by decide)
    · rw [h0] at g
      exact absurd g.1 (by decide)
  have ne : ∀ {σ' : Mem}, Fr (LW t) KW σ0 σ' → ∀ x, x ∉ LW t → x ≠ 43 → x ≠ 48 → σ'.1 x = σ0.1 x := fun f x h1 h2 h3 => by
    funext y
    exact f.1 x y h1 (by simp [KW]; omega)
  have hin : ∀ {σ' : Mem}, Fr (LW t) KW σ0 σ' → σ'.1 (t + 9 + 4) j = nI k := fun f => by
    rw [show t + 9 + 4 = t + 13 from rfl, ne f (t + 13) (by simp [LW]; omega) (by omega) (by omega)]
    exact hkj
  rw [told]
  refine ok_loop0 (F := fun n i (x : Wa × Mem) => X1_countWords_49 t 31 K27 n (nI c) (nI m) (nI x.1.1) (nI j) (pr.getD k (0, 0)).2 i x.2) (N := 100) (I := fun i x => x.1 = wV T s m c (pr.getD k (0, 0)).2 k j i a ∧ wC x.1 x.2 ∧ Fr (LW t) KW σ0 x.2 ∧ ∀ i, i ≠ k → x.2.1 (t + 11) i = σ0.1 (t + 11) i) 0 (a, σ) (by omega) (by omega) ⟨rfl, hA, hf, fun i _ => by rw [h11]⟩ ?_ ?_
  · rintro n i ⟨y, σ1⟩ hi ⟨rfl, hb, hf1, h71⟩ hk'
    have hle := wV_le T s m c (pr.getD k (0, 0)).2 k j i a
    have hnx : wV T s m c (pr.getD k (0, 0)).2 k j (i + 1) a = wS T s m c (pr.getD k (0, 0)).2 k j i (wV T s m c (pr.getD k (0, 0)).2 k j i a) := rfl
    simp only [] at hb hf1 h71 ⊢
    generalize wV T s m c (pr.getD k (0, 0)).2 k j i a = y at *
    show Ok (X1_countWords_49 t 31 K27 (n + 1) (nI c) (nI m) (nI y.1) (nI j) (pr.getD k (0, 0)).2 (nI i) σ1) Q
    rw [X1_countWords_49]
    refine ok_neg (by rw [show (99 : Int32) = nI 99 from rfl, ni_lt (by omega) (by omega)]; omega) ?_
    have go : ∀ b' σ', b' = wS T s m c (pr.getD k (0, 0)).2 k j i y → wC b' σ' → Fr (LW t) KW σ0 σ' → (∀ i, i ≠ k → σ'.1 (t + 11) i = σ0.1 (t + 11) i) → Ok (X1_countWords_103 t 31 (X1_countWords_49 t 31 K27 n) (nI c) (nI m) (nI b'.1) (nI j) (pr.getD k (0, 0)).2 (nI i) σ') Q := by
      intro b' σ' g1 g2 g3 g4
      unfold X1_countWords_103
      refine ok_bv ?_
      rw [ni_succ]
      exact hk' (b', σ') ⟨g1.trans hnx.symm, g2, g3, g4⟩
    refine ok_bindE (tell_ok hj (by omega) (hin hf1)) ?_
    rw [show t + 9 + 2 = t + 11 from rfl]
    have f2 : Fr (LW t) KW σ0 (sI σ1 (t + 11) k (nI i)) := frI hf1 (by simp [LW])
    have e2 : ∀ x, (sI σ1 (t + 11) k (nI i)).1 (t + 11) x = if x = k then nI i else σ0.1 (t + 11) x := fun x => by
      rw [sI_o]
      by_cases g : x = k
      · rw [if_pos g, if_pos g]
      · rw [if_neg g, if_neg g, h71 x g]
    have h2 : wC y (sI σ1 (t + 11) k (nI i)) := hb.keep (sI_n (by omega) _) (sI_n (by omega) _)
    generalize sI σ1 (t + 11) k (nI i) = σ2 at *
    have e2' : ∀ x, x ≠ k → σ2.1 (t + 11) x = σ0.1 (t + 11) x := fun x g => by rw [e2, if_neg g]
    refine ok_ite (fun z => ?_) (fun z => ?_)
    · refine go y σ2 ?_ h2 f2 e2'
      unfold wS
      rw [if_pos z]
    · have hT2 : okT (setL T k (nI i)) := setL_ok hT e h0
      have hC2 : CT (setL T k (nI i)) t σ2 := CT_set hT h (fun x g1 g2 g3 g4 g5 g6 => ne f2 x (by simp [LW]; omega) (by omega) (by omega)) e2 e h0
      have hs2 : CS (setL T k (nI i)) (stW b c s) σ2 54 := CS.keep (T := setL T k (nI i)) (σ := σ0) hs (ne f2 _ (by simp [LW]; omega) (by omega) (by omega)) (ne f2 _ (by simp [LW]; omega) (by omega) (by omega)) (ne f2 _ (by simp [LW]; omega) (by omega) (by omega)) (ne f2 _ (by simp [LW]; omega) (by omega) (by omega)) (ne f2 _ (by simp [LW]; omega) (by omega) (by omega)) (ne f2 _ (by simp [LW]; omega) (by omega) (by omega))
      refine ok_bind (ok_fr (freed_ok (T := setL T k (nI i)) (s := s) (m := m) (b := b) (t := t) hT2 hS ht hm hp hq hc hC2 hs2 (fun x hx => ?_) hn) (fr_X1_isFreed _ _ _ _ Fr.refl)) ?_
      · rw [ne f2 60 (by simp [LW]; omega) (by omega) (by omega)]
        exact Roll_set e hT h0 (hr x hx)
      · rintro ⟨x, σ3⟩ ⟨hx, f3⟩
        have hx : x = tr (freedF T s m c k (nI i)) := hx
        have f3 : Fr (L_X1_isFreed t) (K_X1_isFreed t) σ2 σ3 := f3
        have f3' : Fr (LW t) KW σ0 σ3 := f2.trans (f3.mono (by simp [LW, L_X1_isFreed]) (by simp [KW, K_X1_isFreed]))
        have e3 : ∀ x, x ≠ k → σ3.1 (t + 11) x = σ0.1 (t + 11) x := fun x g => by
          rw [← e2' x g]
          exact f3.1 _ _ (by simp [L_X1_isFreed]; omega) (by simp [K_X1_isFreed]; omega)
        have h3 : wC y σ3 := h2.keep (f3.1 _ _ (by simp [L_X1_isFreed]; omega) (by simp [K_X1_isFreed])) (f3.1 _ _ (by simp [L_X1_isFreed]; omega) (by simp [K_X1_isFreed]))
        show Ok (if x = 0 then _ else _) Q
        rw [hx]
        cases hfr : freedF T s m c k (nI i) with
        | false =>
          refine ok_pos rfl (go y σ3 ?_ h3 f3' e3)
          unfold wS
          rw [if_neg z, hfr, if_neg (by decide)]
        | true =>
          refine ok_neg one_ne (ok_ite (fun w => ?_) (fun w => ?_))
          · have hb0 : y.1 = 0 := (ni_z (by omega)).mp w
            refine ok_bv (ok_bv ?_)
            unfold X1_countWords_100
            refine ok_bv ?_
            rw [ni_succ]
            refine go (y.1 + 1, (j, i)) _ ?_ (fun _ => ⟨?_, ?_⟩) ?_ ?_
            · unfold wS
              rw [if_neg z, if_pos hfr, if_pos hb0]
            · rw [sI_k (by decide), sI_e]
            · rw [sI_e]
            · exact frIk (frIk f3' (by simp [KW])) (by simp [KW])
            · intro x g
              rw [sI_n (by omega), sI_n (by omega)]
              exact e3 x g
          · have hb0 : y.1 ≠ 0 := fun r => w ((ni_z (by omega)).mpr r)
            unfold X1_countWords_100
            refine ok_bv ?_
            rw [ni_succ]
            refine go (y.1 + 1, y.2) _ ?_ (fun _ => h3 hb0) f3' e3
            unfold wS
            rw [if_neg z, if_pos hfr, if_neg hb0]
  · rintro n ⟨y, σ1⟩ ⟨rfl, hb, hf1, h71⟩
    show Ok (X1_countWords_49 t 31 K27 (n + 1) (nI c) (nI m) _ (nI j) (pr.getD k (0, 0)).2 (nI 100) σ1) Q
    rw [X1_countWords_49]
    refine ok_pos (by decide) (ok_bindE (tell_ok hj (by omega) (hin hf1)) (ok_bv ?_))
    rw [ni_succ, show t + 9 + 2 = t + 11 from rfl]
    refine hQ _ (hb.keep (sI_n (by omega) _) (sI_n (by omega) _)) (frI hf1 (by simp [LW])) ?_
    funext x
    rw [sI_o, ← told]
    by_cases g : x = k
    · rw [if_pos g, g]
    · rw [if_neg g]
      exact h71 x g
theorem words_ok {T : Tn} {s : St} {σ : Mem} {t p q m : Nat} (hT : okT T) (hS : okN T s) (ht : t = 7 ∨ t = 124) (hm : m ≤ 60) (hp : p < 6) (hq : q < 6) (h : CT T t σ) (hN : CN T t σ) (hs : CS T s σ 31) :
    Ok (X1_countWords t 31 (nI (6 * p + q)) (nI m) σ) (fun r => r.1 = nI (wF T s m (6 * p + q)).1 ∧ wC (wF T s m (6 * p + q)) r.2 ∧ r.2.1 (t + 11) = σ.1 (t + 11)) := by
  generalize hc : 6 * p + q = c
  unfold X1_countWords
  refine ok_bv ?_
  refine ok_bind (ok_fr (rolls_ok hT hS ht hm h hs) (fr_X1_keepRolls _ _ _ _ Fr.refl)) ?_
  rintro σ2 ⟨u1, f2⟩
  have f2 : Fr (L_X1_keepRolls t 31) (K_X1_keepRolls t 31) σ σ2 := f2
  have ne2 : ∀ x, x ∉ L_X1_keepRolls t 31 → x ≠ 48 → σ2.1 x = σ.1 x := fun x h1 h2 => by
    funext y
    exact f2.1 x y h1 (by simp [K_X1_keepRolls]; omega)
  have hT2 : CT T t σ2 := h.keep (fun a g1 g2 g3 g4 g5 => ne2 a (by simp [L_X1_keepRolls]; omega) (by omega))
  have hs2 : CS T s σ2 31 := hs.keep (ne2 _ (by simp [L_X1_keepRolls]; omega) (by omega)) (ne2 _ (by simp [L_X1_keepRolls]; omega) (by omega)) (ne2 _ (by simp [L_X1_keepRolls]; omega) (by omega)) (ne2 _ (by simp [L_X1_keepRolls]; omega) (by omega)) (ne2 _ (by simp [L_X1_keepRolls]; omega) (by omega)) (ne2 _ (by simp [L_X1_keepRolls]; omega) (by omega))
  refine ok_bind (ok_fr (start_ok (c := c) hT hS.1 ht (by omega) hT2 hs2) (fr_X1_keepStart _ _ _ _ Fr.refl)) ?_
  rintro σ3 ⟨⟨b, u3, hn⟩, f3⟩
  have f3 : Fr (L_X1_keepStart t 31) (K_X1_keepStart t 31) σ2 σ3 := f3
  have ne3 : ∀ x, x ∉ L_X1_keepStart t 31 → x ≠ 54 → σ3.1 x = σ2.1 x := fun x h1 h2 => by
    funext y
    exact f3.1 x y h1 (by simp [K_X1_keepStart]; omega)
  have hT3 : CT T t σ3 := hT2.keep (fun a g1 g2 g3 g4 g5 => ne3 a (by simp [L_X1_keepStart]; omega) (by omega))
  have hr3 : ∀ i, i < m → RollOk T (hoursF T i s) (σ3.1 60 i) := fun i hi => by
    rw [ne3 60 (by simp [L_X1_keepStart]) (by omega)]
    exact u1 i hi
  have hN3 : CN T t σ3 := hN.keep ((ne3 _ (by simp [L_X1_keepStart]; omega) (by omega)).trans (ne2 _ (by simp [L_X1_keepRolls]; omega) (by omega))) ((ne3 _ (by simp [L_X1_keepStart]; omega) (by omega)).trans (ne2 _ (by simp [L_X1_keepRolls]; omega) (by omega)))
  have e11 : σ3.1 (t + 11) = σ.1 (t + 11) := (ne3 _ (by simp [L_X1_keepStart]; omega) (by omega)).trans (ne2 _ (by simp [L_X1_keepRolls]; omega) (by omega))
  refine ok_bv ?_
  rw [← e11]
  unfold wF
  unfold CN at hN3
  cases e : tP T 0 with
  | none =>
    rw [e] at hN3
    have hN3 : σ3.1 (t + 9) 7 = 0 := hN3
    rw [show fu = 4999 + 1 from rfl, X1_countWords_27, hN3]
    exact ok_pos (Int32.le_refl _) (ok_some ⟨rfl, fun r => absurd rfl r, rfl⟩)
  | some pr =>
    rw [e] at hN3
    have hN3 : (pos pr 0).length ≤ 30 ∧ σ3.1 (t + 9) 7 = nI (pos pr 0).length ∧ ∀ j (h : j < (pos pr 0).length), σ3.1 (t + 13) j = nI (pos pr 0)[j] := hN3
    have hl := (hT.2.2.2.2 0 pr e).2.2
    simp only []
    refine ok_loop0 (F := fun n i (x : Wa × Mem) => X1_countWords_27 t 31 n (nI c) (nI m) (nI x.1.1) i x.2) (N := (pos pr 0).length) (I := fun j x => wP T s m c pr ((pos pr 0).drop j) j x.1 = wP T s m c pr (pos pr 0) 0 (0, 0, 0) ∧ x.1.1 ≤ 100 * j ∧ wC x.1 x.2 ∧ Fr (LW t) KW σ3 x.2 ∧ x.2.1 (t + 11) = σ3.1 (t + 11)) 0 ((0, 0, 0), σ3) (by omega) (by omega) ⟨rfl, by simp, fun r => absurd rfl r, Fr.refl, rfl⟩ ?_ ?_
    · rintro n j ⟨a, σ4⟩ hj ⟨g1, g2, g3, g4, g5⟩ hk'
      simp only [] at g1 g2 g3 g4 g5
      have e9 : σ4.1 (t + 9) = σ3.1 (t + 9) := by
        funext y
        exact g4.1 _ y (by simp [LW]; omega) (by simp [KW]; omega)
      have e13 : σ4.1 (t + 13) = σ3.1 (t + 13) := by
        funext y
        exact g4.1 _ y (by simp [LW]; omega) (by simp [KW]; omega)
      have hk3 := hN3.2.2 j hj
      have hmem := pos_mem pr 0 _ (List.getElem_mem hj)
      rw [List.drop_eq_getElem_cons hj] at g1
      generalize (pos pr 0)[j] = k at *
      rw [Nat.sub_zero] at hmem
      have hkl : k < pr.length := by omega
      show Ok (X1_countWords_27 t 31 (n + 1) (nI c) (nI m) (nI a.1) (nI j) σ4) _
      rw [X1_countWords_27, e9, hN3.2.1]
      refine ok_neg (by rw [ni_le (by omega) (by omega)]; omega) ?_
      refine ok_bindE (b := (σ4.1 (t + 11) k, σ4)) ?_ (ok_bv (ok_bv ?_))
      · unfold X2_numberTold
        rw [if_pos (ib_t (by omega) (by omega)), ni_cl (by omega), show t + 9 + 4 = t + 13 from rfl, e13, hk3, if_pos (ib_t (by omega) (by omega)), ni_cl (by omega)]
      show Ok (X1_countWords_49 t 31 (X1_countWords_27 t 31 n) fu (nI c) (nI m) (nI a.1) (nI j) (σ4.1 (t + 11) k) 0 σ4) _
      rw [g5]
      refine wordsIn_ok (b := b) hT hS ht hm hp hq hc.symm hT3 u3 hr3 hn e hkl hmem.2.2 (by omega) hk3 (by omega) g3 g4 g5 (fun σ' q1 q2 q3 => ?_)
      refine hk' (wV T s m c (pr.getD k (0, 0)).2 k j 100 a, σ') ⟨g1, ?_, q1, q2, q3⟩
      have := wV_le T s m c (pr.getD k (0, 0)).2 k j 100 a
      simp only []
      omega
    · rintro n ⟨a, σ4⟩ ⟨g1, g2, g3, g4, g5⟩
      simp only [] at g1 g2 g3 g4 g5
      have e9 : σ4.1 (t + 9) = σ3.1 (t + 9) := by
        funext y
        exact g4.1 _ y (by simp [LW]; omega) (by simp [KW]; omega)
      show Ok (X1_countWords_27 t 31 (n + 1) (nI c) (nI m) (nI a.1) (nI (pos pr 0).length) σ4) _
      rw [X1_countWords_27, e9, hN3.2.1]
      rw [List.drop_length] at g1
      have g1 : a = wP T s m c pr (pos pr 0) 0 (0, 0, 0) := g1
      rw [← g1]
      exact ok_pos (Int32.le_refl _) (ok_some ⟨rfl, g3, g5⟩)
