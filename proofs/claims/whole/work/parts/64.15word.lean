/-! a number of the law told otherwise: the middle and the reference -/
def setL (T : Tn) (k : Nat) (v : Int32) : Tn := (T.1, T.2.1, T.2.2.1, fun w => if w = 0 then (T.2.2.2 0).map (fun pr => pr.set k (0, v)) else T.2.2.2 w)
theorem getD_at {pr : Pg} {i : Nat} (h : i < pr.length) : pr.getD i (0, 0) = pr[i] := by
  simp [List.getD, h]
theorem pos_cons (c : Int32 × Int32) (r : Pg) (i : Nat) : pos (c :: r) i = if c.1 = 0 then i :: pos r (i + 1) else pos r (i + 1) := rfl
theorem set_ok : ∀ (pr : Pg) (d k : Nat) (v : Int32), (pr.getD k (0, 0)).1 = 0 → wf pr d → wf (pr.set k (0, v)) d ∧ dpE (pr.set k (0, v)) d = dpE pr d ∧ asksW (pr.set k (0, v)) = asksW pr
  | [], _, _, _, _, h => ⟨h, rfl, rfl⟩
  | c :: r, d, 0, v, h0, h => by
    have h0 : c.1 = 0 := h0
    obtain ⟨h1, h2, h3, h4, h5⟩ := h
    have e : dp1 ((0 : Int32), v) d = dp1 c d := by unfold dp1; simp [h0]
    refine ⟨⟨.inl rfl, fun z => absurd (show (0 : Int32) = 2 from z) (by decide), fun z => absurd (show (0 : Int32) = 3 from z) (by decide), by rw [e]; exact h4, by rw [e]; exact h5⟩, ?_, ?_⟩
    · show dpE r (dp1 (0, v) d) = dpE r (dp1 c d)
      rw [e]
    · unfold asksW
      rw [List.set_cons_zero, List.any_cons, List.any_cons, h0]
      rfl
  | c :: r, d, k + 1, v, h0, h => by
    obtain ⟨h1, h2, h3, h4, h5⟩ := h
    obtain ⟨i1, i2, i3⟩ := set_ok r (dp1 c d) k v (by rw [List.getD_cons_succ] at h0; exact h0) h5
    refine ⟨⟨h1, h2, h3, h4, i1⟩, i2, ?_⟩
    unfold asksW at i3 ⊢
    rw [List.set_cons_succ, List.any_cons, List.any_cons, i3]
theorem setL_tP {T : Tn} {k : Nat} {v : Int32} {pr : Pg} (e : tP T 0 = some pr) : tP (setL T k v) 0 = some (pr.set k (0, v)) := by
  show (if (0 : Nat) = 0 then (tP T 0).map (fun pr => pr.set k (0, v)) else T.2.2.2 0) = _
  rw [if_pos rfl, e]
  rfl
theorem setL_tP' {T : Tn} {k : Nat} {v : Int32} {w : Nat} (h : w ≠ 0) : tP (setL T k v) w = tP T w := if_neg h
theorem setL_ok {T : Tn} {k : Nat} {v : Int32} {pr : Pg} (hT : okT T) (e : tP T 0 = some pr) (h0 : (pr.getD k (0, 0)).1 = 0) : okT (setL T k v) := by
  refine ⟨hT.1, hT.2.1, hT.2.2.1, hT.2.2.2.1, fun w q hq => ?_⟩
  by_cases z : w = 0
  · subst z
    rw [setL_tP e] at hq
    cases hq
    have h := hT.2.2.2.2 0 pr e
    have := set_ok pr 0 k v h0 h.1
    exact ⟨this.1, this.2.1.trans h.2.1, by rw [List.length_set]; exact h.2.2⟩
  · rw [setL_tP' z] at hq
    exact hT.2.2.2.2 w q hq
theorem MN_set {T : Tn} {ρ ρ' : Mem} {k : Nat} {v : Int32} {pr : Pg} {L : List Nat} {K : List (Nat × Nat)} (hT : okT T) (h : MN T ρ) (e : tP T 0 = some pr) (hk : k < pr.length) (h0 : (pr.getD k (0, 0)).1 = 0) (f : Fr L K ρ ρ')
    (c : offL L K [1006, 1008, 1020, 1021, 1022, 1023, 1024, 1025] [(1000, 45), (1000, 46), (1000, 52), (1000, 53), (1000, 54)] = true) (e7 : ∀ i, ρ'.1 1007 i = if i = k then v else ρ.1 1007 i) : MN (setL T k v) ρ' := by
  have g := f.off c
  have e6 := g.1 1006 (by decide)
  have e8 := g.1 1008 (by decide)
  have hl := (hT.2.2.2.2 0 pr e).2.2
  refine ⟨(g.2 _ _ (by decide)).trans h.1, (g.2 _ _ (by decide)).trans h.2.1, fun p hp => ?_, ?_, ?_, ?_⟩
  · rw [g.1 1020 (by decide), g.1 1021 (by decide), g.1 1022 (by decide), g.1 1023 (by decide), g.1 1024 (by decide), g.1 1025 (by decide)]
    exact h.2.2.1 p hp
  · have h3 := h.2.2.2.1
    unfold MPg at h3 ⊢
    rw [setL_tP e]
    rw [e] at h3
    have h3 : ρ.1 1000 (52 + 0) = 1 ∧ FM pr ρ 0 := h3
    show ρ'.1 1000 (52 + 0) = 1 ∧ FM (pr.set k (0, v)) ρ' 0
    refine ⟨(g.2 _ _ (by decide)).trans h3.1, ?_, fun i hi => ?_⟩
    · rw [e8, List.length_set]
      exact h3.2.1
    · rw [List.length_set] at hi
      have q := h3.2.2 i hi
      rw [e6, e7, List.getElem_set]
      by_cases z : k = i
      · subst z
        rw [if_pos rfl, if_pos (by omega), q.1]
        rw [getD_at hi] at h0
        exact ⟨h0, rfl⟩
      · rw [if_neg z, if_neg (by omega)]
        exact q
  · have h3 := h.2.2.2.2.1
    unfold MPg at h3 ⊢
    rw [setL_tP' (by decide)]
    cases e1 : tP T 1 with
    | none =>
      rw [e1] at h3
      exact (g.2 _ _ (by decide)).trans h3
    | some q =>
      rw [e1] at h3
      have h3 : ρ.1 1000 (52 + 1) = 1 ∧ FM q ρ 1 := h3
      show ρ'.1 1000 (52 + 1) = 1 ∧ FM q ρ' 1
      refine ⟨(g.2 _ _ (by decide)).trans h3.1, ?_, fun i hi => ?_⟩
      · rw [e8]
        exact h3.2.1
      · rw [e6, e7, if_neg (by omega)]
        exact h3.2.2 i hi
  · have h3 := h.2.2.2.2.2
    unfold MPg at h3 ⊢
    rw [setL_tP' (by decide)]
    cases e1 : tP T 2 with
    | none =>
      rw [e1] at h3
      exact (g.2 _ _ (by decide)).trans h3
    | some q =>
      rw [e1] at h3
      have h3 : ρ.1 1000 (52 + 2) = 1 ∧ FM q ρ 2 := h3
      show ρ'.1 1000 (52 + 2) = 1 ∧ FM q ρ' 2
      refine ⟨(g.2 _ _ (by decide)).trans h3.1, ?_, fun i hi => ?_⟩
      · rw [e8]
        exact h3.2.1
      · rw [e6, e7, if_neg (by omega)]
        exact h3.2.2 i hi
/-! the middle -/
abbrev Wa : Type := Nat × Nat × Nat
def freedF (T : Tn) (s : St) (m c k : Nat) (v : Int32) : Bool := decide (hoursF (setL T k v) m s 5 c = 0)
def wS (T : Tn) (s : St) (m c : Nat) (told : Int32) (k j i : Nat) (b : Wa) : Wa := if nI i = told then b else if freedF T s m c k (nI i) = true then (b.1 + 1, if b.1 = 0 then (j, i) else b.2) else b
def wV (T : Tn) (s : St) (m c : Nat) (told : Int32) (k j : Nat) : Nat → Wa → Wa
  | 0, a => a
  | i + 1, a => wS T s m c told k j i (wV T s m c told k j i a)
def wP (T : Tn) (s : St) (m c : Nat) (pr : Pg) : List Nat → Nat → Wa → Wa
  | [], _, a => a
  | k :: r, j, a => wP T s m c pr r (j + 1) (wV T s m c (pr.getD k (0, 0)).2 k j 100 a)
def wF (T : Tn) (s : St) (m c : Nat) : Wa := match tP T 0 with
  | none => (0, 0, 0)
  | some pr => wP T s m c pr (pos pr 0) 0 (0, 0, 0)
theorem wS_le (T : Tn) (s : St) (m c : Nat) (told : Int32) (k j i : Nat) (b : Wa) : (wS T s m c told k j i b).1 ≤ b.1 + 1 := by
  unfold wS
  split
  · omega
  · split
    · exact Nat.le_refl _
    · omega
theorem wV_le (T : Tn) (s : St) (m c : Nat) (told : Int32) (k j : Nat) : ∀ (i : Nat) (a : Wa), (wV T s m c told k j i a).1 ≤ a.1 + i
  | 0, _ => Nat.le_refl _
  | i + 1, a => by
    have := wV_le T s m c told k j i a
    have := wS_le T s m c told k j i (wV T s m c told k j i a)
    show (wS T s m c told k j i (wV T s m c told k j i a)).1 ≤ _
    omega
def wR (a : Wa) (ρ : Mem) : Prop := (a.1 = 0 → ρ.1 1000 75 = 0) ∧ (a.1 ≠ 0 → ρ.1 1000 75 = 2 ∧ ρ.1 1042 0 = nI a.2.1 ∧ ρ.1 1042 1 = nI a.2.2)
theorem ni_z {a : Nat} (h : a < 2147483648) : nI a = 0 ↔ a = 0 := ni_inj (b := 0) h (by omega)
theorem okD_le {n : Nat} {d : Nat → Int32} (h : okD n d) {i j : Nat} (hi : i < 6) (hj : j < 6) : d (6 * i + j) ≤ 0 ↔ d (6 * i + j) = 0 := by
  obtain ⟨⟨v, hv, e⟩, -⟩ := h i j hi hj
  rw [e, ni_z (by omega), show (0 : Int32) = nI 0 from rfl, ni_le (by omega) (by omega)]
  omega
theorem wordIn_ok {T : Tn} {s : St} {ρ0 : Mem} {p q m j k : Nat} {pr : Pg} (hT : okT T) (hS : okN T s) (hm : m ≤ 60) (hp : p < 6) (hq : q < 6) (hM : MN T ρ0) (hR : rowR (tN T) s (ρ0.1 1028)) (e : tP T 0 = some pr) (hk : k < pr.length) (h0 : (pr.getD k (0, 0)).1 = 0)
    {K181 : Int32 → Int32 → Int32 → Int32 → Int32 → Int32 → Mem → Option (Int32 × Mem)} {Q : Int32 × Mem → Prop} {a : Wa} {ρ : Mem} (ha : a.1 ≤ 5000) (hA : wR a ρ) (hf : Fr L_X12_word K_X12_word ρ0 ρ) (h7 : ρ.1 1007 = ρ0.1 1007)
    (hQ : ∀ ρ', wR (wV T s m (6 * p + q) (pr.getD k (0, 0)).2 k j 100 a) ρ' → Fr L_X12_word K_X12_word ρ0 ρ' → ρ'.1 1007 = ρ0.1 1007 → Ok (K181 (nI p) (nI q) (nI m) (nI (wV T s m (6 * p + q) (pr.getD k (0, 0)).2 k j 100 a).1) (nI (j + 1)) (nI k) ρ') Q) :
    Ok (X12_word_82 K181 fu (nI p) (nI q) (nI m) (nI a.1) (nI j) (nI k) (ρ0.1 1007 k) 0 ρ) Q := by
  have hl := (hT.2.2.2.2 0 pr e).2.2
  have bk := ib_t (n := k) (k := 960) (by omega) (by omega)
  have ck := ni_cl (n := k) (by omega)
  have hfm : FM pr ρ0 0 := by
    have h3 := hM.2.2.2.1
    unfold MPg at h3
    rw [e] at h3
    exact h3.2
  have told : ρ0.1 1007 k = (pr.getD k (0, 0)).2 := by
    have := (hfm.2 k hk).2
    rw [getD_at hk, ← this]
    simp
  rw [told]
  refine ok_loop0 (F := fun n i (x : Wa × Mem) => X12_word_82 K181 n (nI p) (nI q) (nI m) (nI x.1.1) (nI j) (nI k) (pr.getD k (0, 0)).2 i x.2) (N := 100) (I := fun i x => x.1 = wV T s m (6 * p + q) (pr.getD k (0, 0)).2 k j i a ∧ wR x.1 x.2 ∧ Fr L_X12_word K_X12_word ρ0 x.2 ∧ ∀ i, i ≠ k → x.2.1 1007 i = ρ0.1 1007 i) 0 (a, ρ) (by omega) (by omega) ⟨rfl, hA, hf, fun i _ => by rw [h7]⟩ ?_ ?_
  · rintro n i ⟨b, ρ1⟩ hi ⟨rfl, hb, hf1, h71⟩ hk'
    have hle := wV_le T s m (6 * p + q) (pr.getD k (0, 0)).2 k j i a
    have hnx : wV T s m (6 * p + q) (pr.getD k (0, 0)).2 k j (i + 1) a = wS T s m (6 * p + q) (pr.getD k (0, 0)).2 k j i (wV T s m (6 * p + q) (pr.getD k (0, 0)).2 k j i a) := rfl
    simp only [] at hb hf1 h71 ⊢
    generalize wV T s m (6 * p + q) (pr.getD k (0, 0)).2 k j i a = b at *
    show Ok (X12_word_82 K181 (n + 1) (nI p) (nI q) (nI m) (nI b.1) (nI j) (nI k) (pr.getD k (0, 0)).2 (nI i) ρ1) Q
    rw [X12_word_82]
    refine ok_neg (by rw [show (99 : Int32) = nI 99 from rfl, ni_lt (by omega) (by omega)]; omega) ?_
    have go : ∀ b' ρ', b' = wS T s m (6 * p + q) (pr.getD k (0, 0)).2 k j i b → wR b' ρ' → Fr L_X12_word K_X12_word ρ0 ρ' → (∀ i, i ≠ k → ρ'.1 1007 i = ρ0.1 1007 i) → Ok (X12_word_163 (X12_word_82 K181 n) (nI p) (nI q) (nI m) (nI b'.1) (nI j) (nI k) (pr.getD k (0, 0)).2 (nI i) ρ') Q := by
      intro b' ρ' g1 g2 g3 g4
      unfold X12_word_163
      refine ok_bv ?_
      rw [ni_succ]
      exact hk' (b', ρ') ⟨g1.trans hnx.symm, g2, g3, g4⟩
    refine ok_ite (fun z => ?_) (fun z => ?_)
    · refine go b ρ1 ?_ hb hf1 h71
      unfold wS
      rw [if_pos z]
    · refine ok_pos bk (ok_bv ?_)
      rw [ck]
      have f2 : Fr L_X12_word K_X12_word ρ0 (sI ρ1 1007 k (nI i)) := frI hf1 (by decide)
      have hT2 : okT (setL T k (nI i)) := setL_ok hT e h0
      have hM2 : MN (setL T k (nI i)) (sI ρ1 1007 k (nI i)) := MN_set hT hM e hk h0 f2 (by decide) (fun x => by
        rw [sI_o]
        by_cases y : x = k
        · rw [if_pos y, if_pos y]
        · rw [if_neg y, if_neg y, h71 x y])
      have hR2 : rowR (tN T) s ((sI ρ1 1007 k (nI i)).1 1028) := by
        rw [(f2.off (A := [1028]) (B := []) (by decide)).1 1028 (by decide)]
        exact hR
      refine ok_bind (ok_fr (load_ok hT2 hM2 hR2) (fr_X12_load _ Fr.refl)) ?_
      rintro ρ3 ⟨⟨a1, a2⟩, f3⟩
      have f3 : Fr L_X12_load K_X12_load (sI ρ1 1007 k (nI i)) ρ3 := f3
      have hS2 : okS (setL T k (nI i)) s := hS.1
      refine ok_bind (ok_fr (goHours_ok (k := m) hT2 hS2 (by have := hS.2; omega) a1 a2) (fr_X12_goHours _ _ Fr.refl)) ?_
      rintro ρ4 ⟨⟨-, b2⟩, f4⟩
      have f4 : Fr L_X12_goHours K_X12_goHours ρ3 ρ4 := f4
      have f34 : Fr L_X12_word K_X12_word (sI ρ1 1007 k (nI i)) ρ4 := (f3.mono (by decide) (by decide)).trans (f4.mono (by decide) (by decide))
      have f5 : Fr L_X12_word K_X12_word ρ0 ρ4 := f2.trans f34
      have h74 : ∀ x, x ≠ k → ρ4.1 1007 x = ρ0.1 1007 x := fun x y => by
        rw [(f4.off (A := [1007]) (B := []) (by decide)).1 1007 (by decide), (f3.off (A := [1007]) (B := []) (by decide)).1 1007 (by decide), sI_o, if_neg y]
        exact h71 x y
      have hw4 : wR b ρ4 := by
        unfold wR
        rw [(f4.off (A := [1042]) (B := [(1000, 75)]) (by decide)).1 1042 (by decide), (f3.off (A := [1042]) (B := [(1000, 75)]) (by decide)).1 1042 (by decide), (f4.off (A := [1042]) (B := [(1000, 75)]) (by decide)).2 1000 75 (by decide), (f3.off (A := [1042]) (B := [(1000, 75)]) (by decide)).2 1000 75 (by decide), sI_n (by decide), sI_n (by decide), sI_n (by decide)]
        exact hb
      have hok : okD (tN T) (hoursF (setL T k (nI i)) m s 5) := okS_D (T := setL T k (nI i)) (okS_hours hT2 hS2 m (by have := hS.2; omega))
      rw [show (6 : Int32) * nI p + nI q = nI (6 * p + q) from ni_cell, ni_cl (by omega), b2.2.1 _ (by omega)]
      refine ok_pos (ib_t (by omega) (by omega)) (ok_ite (fun y => ?_) (fun y => ?_))
      · have hfr : freedF T s m (6 * p + q) k (nI i) = true := decide_eq_true ((okD_le hok hp hq).mp y)
        refine ok_ite (fun x => ?_) (fun x => ?_)
        · have hb0 : b.1 = 0 := (ni_z (by omega)).mp x
          refine ok_bv (ok_bv (ok_bv ?_))
          unfold X12_word_160
          refine ok_bv ?_
          rw [ni_succ]
          refine go (b.1 + 1, (j, i)) _ ?_ ⟨fun r => absurd r (by simp), fun _ => ⟨?_, ?_, ?_⟩⟩ ?_ ?_
          · unfold wS
            rw [if_neg z, if_pos hfr, if_pos hb0]
          · rw [sI_e]
          · rw [sI_n (by decide), sI_k (by decide), sI_e]
          · rw [sI_n (by decide), sI_e]
          · exact frIk (frI (frI f5 (by decide)) (by decide)) (by decide)
          · intro x y
            rw [sI_n (by decide), sI_n (by decide), sI_n (by decide)]
            exact h74 x y
        · have hb0 : b.1 ≠ 0 := fun r => x ((ni_z (by omega)).mpr r)
          unfold X12_word_160
          refine ok_bv ?_
          rw [ni_succ]
          refine go (b.1 + 1, b.2) _ ?_ ⟨fun r => absurd r (by simp), fun _ => hw4.2 hb0⟩ f5 h74
          unfold wS
          rw [if_neg z, if_pos hfr, if_neg hb0]
      · refine go b _ ?_ hw4 f5 h74
        have hfr : ¬ freedF T s m (6 * p + q) k (nI i) = true := fun r => y ((okD_le hok hp hq).mpr (of_decide_eq_true r))
        unfold wS
        rw [if_neg z, if_neg hfr]
  · rintro n ⟨b, ρ1⟩ ⟨rfl, hb, hf1, h71⟩
    show Ok (X12_word_82 K181 (n + 1) (nI p) (nI q) (nI m) _ (nI j) (nI k) (pr.getD k (0, 0)).2 (nI 100) ρ1) Q
    rw [X12_word_82]
    refine ok_pos (by decide) (ok_pos bk (ok_bv (ok_bv ?_)))
    rw [ni_succ, ck]
    refine hQ _ ?_ (frI hf1 (by decide)) ?_
    · unfold wR
      rw [sI_n (by decide), sI_n (by decide), sI_n (by decide)]
      exact hb
    · funext x
      rw [sI_o, ← told]
      by_cases y : x = k
      · rw [if_pos y, y]
      · rw [if_neg y]
        exact h71 x y
theorem wordM_ok {T : Tn} {s : St} {ρ : Mem} {p q m : Nat} (hT : okT T) (hS : okN T s) (hm : m ≤ 60) (hp : p < 6) (hq : q < 6) (hM : MN T ρ) (hR : rowR (tN T) s (ρ.1 1028)) (h30 : ∀ pr, tP T 0 = some pr → (pos pr 0).length ≤ 30) (h75 : ρ.1 1000 75 = 0) :
    Ok (X12_word_35 fu (nI p) (nI q) (nI m) 0 0 0 ρ) (fun r => r.1 = nI (wF T s m (6 * p + q)).1 ∧ (wF T s m (6 * p + q)).1 ≤ 3000 ∧ wR (wF T s m (6 * p + q)) r.2 ∧ r.2.1 1007 = ρ.1 1007) := by
  have hfm := hM.2.2.2.1
  unfold MPg at hfm
  unfold wF
  cases e : tP T 0 with
  | none =>
    rw [e] at hfm
    have hfm : ρ.1 1000 52 = 0 := hfm
    rw [show fu = 4999 + 1 from rfl, X12_word_35]
    refine ok_pos hfm ?_
    unfold X12_word_54
    exact ok_pos (Int32.le_refl _) (ok_some ⟨rfl, by simp, ⟨fun _ => h75, fun r => absurd rfl r⟩, rfl⟩)
  | some pr =>
    rw [e] at hfm
    have hfm : ρ.1 1000 52 = 1 ∧ FM pr ρ 0 := hfm
    have hl := (hT.2.2.2.2 0 pr e).2.2
    have h30 := h30 pr e
    simp only []
    refine ok_loop0 (F := fun n i (x : (Wa × Nat) × Mem) => X12_word_35 n (nI p) (nI q) (nI m) (nI x.1.1.1) (nI x.1.2) i x.2) (N := pr.length) (I := fun k x => wP T s m (6 * p + q) pr (pos (pr.drop k) k) x.1.2 x.1.1 = wP T s m (6 * p + q) pr (pos pr 0) 0 (0, 0, 0) ∧ x.1.2 + (pos (pr.drop k) k).length ≤ 30 ∧ x.1.1.1 ≤ 100 * x.1.2 ∧ wR x.1.1 x.2 ∧ Fr L_X12_word K_X12_word ρ x.2 ∧ x.2.1 1007 = ρ.1 1007) 0 (((0, 0, 0), 0), ρ) (by omega) (by omega) ⟨rfl, by simpa using h30, by simp, ⟨fun _ => h75, fun r => absurd rfl r⟩, Fr.refl, rfl⟩ ?_ ?_
    · rintro n k ⟨⟨a, j⟩, ρ1⟩ hk ⟨g1, g2, g3, g4, g5, g6⟩ hk'
      simp only [] at g1 g2 g3 g4 g5 g6
      have ed : pr.drop k = pr[k] :: pr.drop (k + 1) := (List.drop_eq_getElem_cons hk)
      have go' := g5.off (A := [1006, 1008]) (B := [(1000, 52)]) (by decide)
      have e52 := go'.2 1000 52 (by decide)
      have e6 := go'.1 1006 (by decide)
      have e8 := go'.1 1008 (by decide)
      have bk := ib_t (n := k) (k := 960) (by omega) (by omega)
      have ck := ni_cl (n := k) (by omega)
      show Ok (X12_word_35 (n + 1) (nI p) (nI q) (nI m) (nI a.1) (nI j) (nI k) ρ1) _
      rw [X12_word_35, e52, hfm.1]
      refine ok_neg one_ne ?_
      unfold X12_word_54
      rw [e8, hfm.2.1]
      refine ok_neg (by rw [ni_le (by omega) (by omega)]; omega) (ok_pos bk ?_)
      have h61 := (hfm.2.2 k hk)
      rw [show 320 * 0 + k = k by omega] at h61
      rw [ck, e6, h61.1]
      rw [ed, pos_cons] at g1 g2
      refine ok_ite (fun z => ?_) (fun z => ?_)
      · rw [if_pos z] at g1 g2
        rw [List.length_cons] at g2
        refine ok_pos bk (ok_bv (ok_bv ?_))
        rw [g6]
        have gd : (pr.getD k (0, 0)).1 = 0 := by rw [getD_at hk]; exact z
        refine wordIn_ok (j := j) hT hS hm hp hq hM hR e hk gd (by omega) g4 g5 g6 (fun ρ' q1 q2 q3 => ?_)
        unfold X12_word_181
        refine ok_bv ?_
        rw [ni_succ]
        refine hk' ((wV T s m (6 * p + q) (pr.getD k (0, 0)).2 k j 100 a, j + 1), ρ') ⟨g1, by simp only []; omega, ?_, q1, q2, q3⟩
        have := wV_le T s m (6 * p + q) (pr.getD k (0, 0)).2 k j 100 a
        simp only []
        omega
      · rw [if_neg z] at g1 g2
        unfold X12_word_181
        refine ok_bv ?_
        rw [ni_succ]
        exact hk' ((a, j), ρ1) ⟨g1, g2, g3, g4, g5, g6⟩
    · rintro n ⟨⟨a, j⟩, ρ1⟩ ⟨g1, g2, g3, g4, g5, g6⟩
      simp only [] at g1 g2 g3 g4 g5 g6
      have go' := g5.off (A := [1006, 1008]) (B := [(1000, 52)]) (by decide)
      have e52 := go'.2 1000 52 (by decide)
      have e8 := go'.1 1008 (by decide)
      show Ok (X12_word_35 (n + 1) (nI p) (nI q) (nI m) (nI a.1) (nI j) (nI pr.length) ρ1) _
      rw [X12_word_35, e52, hfm.1]
      refine ok_neg one_ne ?_
      unfold X12_word_54
      rw [e8, hfm.2.1]
      rw [List.drop_length] at g1 g2
      have g1 : a = wP T s m (6 * p + q) pr (pos pr 0) 0 (0, 0, 0) := g1
      rw [← g1]
      exact ok_pos (Int32.le_refl _) (ok_some ⟨rfl, by omega, g4, g6⟩)
