/-! town: names -/
theorem lets_ext (b : Nat → Nat) : ∀ n p q, (∀ m, m < n → b (p + m) = b (q + m)) → lets b n p = lets b n q
  | 0, _, _, _ => rfl
  | n + 1, p, q, h => by
    have h0 := h 0 (by omega)
    rw [Nat.add_zero, Nat.add_zero] at h0
    rw [lets, lets, h0, lets_ext b n (p + 1) (q + 1) (fun m hm => by
      rw [show p + 1 + m = p + (m + 1) by omega, show q + 1 + m = q + (m + 1) by omega]
      exact h (m + 1) (by omega))]
theorem lets_inj {b : Nat → Nat} {n p q : Nat} (h : lets b n p = lets b n q) {m : Nat} (hm : m < n) : b (p + m) = b (q + m) := by
  rw [← lets_get b n p m hm, ← lets_get b n q m hm, h]
section Nms
variable {b : Nat → Nat} {k : Nat}
/-- a word on the tape -/
def Wd (b : Nat → Nat) (k s e : Nat) : Prop := s < e ∧ e ≤ k ∧ e - s ≤ 8 ∧ ∀ m, m < e - s → isL (b (s + m)) = true
theorem sg_let {v : Nat} (h : isL v = true) : sg v = nI v := by
  have := isL_b h
  exact ((sg_pos_fin ⟨v, by omega⟩).2.1 (by show v < 128; omega)).1
theorem same19_ok {σ : Mem} {s e s' e' : Nat} (hb : TB b k) (hT : TC b k σ) (h1 : Wd b k s e) (h2 : Wd b k s' e') (h3 : σ.1 3 3 = nI s') (h4 : σ.1 3 4 = nI e') (hl : e - s = e' - s') :
    ∀ (r m n : Nat), m + r = e - s → r < n → (∀ j, j < m → b (s' + j) = b (s + j)) → X9_isSameWord_19 n (nI s) (nI m) σ = some (tr (decide (lets b (e - s) s = lets b (e - s) s')), σ)
  | 0, m, n, hm, hn, hq => by
    have hk := hb.1
    obtain ⟨n, rfl⟩ : ∃ j, n = j + 1 := ⟨n - 1, by omega⟩
    have := h1.2.1
    have := h2.2.1
    have := h2.1
    rw [X9_isSameWord_19, h3, h4, ni_sub (by omega), if_pos ((ni_le (by omega) (by omega)).mpr (by omega)), decide_eq_true (lets_ext b _ _ _ (fun j hj => (hq j (by omega)).symm))]
    rfl
  | r + 1, m, n, hm, hn, hq => by
    have hk := hb.1
    obtain ⟨n, rfl⟩ : ∃ j, n = j + 1 := ⟨n - 1, by omega⟩
    have q1 := h1.2.1
    have q2 := h2.2.1
    have q3 := h2.1
    have q4 := h1.1
    have l1 := h1.2.2.2 m (by omega)
    have l2 := h2.2.2.2 m (by omega)
    have g1 := isL_b l1
    have g2 := isL_b l2
    rw [X9_isSameWord_19, h3, h4, ni_sub (by omega), if_neg (by rw [ni_le (by omega) (by omega)]; omega), if_pos hT.1.1, ni_add, if_pos (ib_t (by omega) (by omega)), if_pos hT.1.1, ni_add, if_pos (ib_t (by omega) (by omega)), ni_cl (by omega), ni_cl (by omega), hT.2.2 _ (by omega), hT.2.2 _ (by omega), sg_let l1, sg_let l2]
    by_cases z : b (s' + m) = b (s + m)
    · rw [if_pos (by rw [z]), bv_eq, ni_succ]
      refine same19_ok hb hT h1 h2 h3 h4 hl r (m + 1) n (by omega) (by omega) (fun j hj => ?_)
      by_cases e : j = m
      · rw [e]
        exact z
      · exact hq j (by omega)
    · rw [if_neg (by rw [ni_inj (by omega) (by omega)]; exact z), decide_eq_false (fun e => z (lets_inj e (m := m) (by omega)).symm)]
      rfl
theorem same_ok {σ : Mem} {s e s' e' : Nat} (hb : TB b k) (hT : TC b k σ) (h1 : Wd b k s e) (h2 : Wd b k s' e') (h3 : σ.1 3 3 = nI s') (h4 : σ.1 3 4 = nI e') : X9_isSameWord (nI s) (nI e) σ = some (tr (decide (lets b (e - s) s = lets b (e' - s') s')), σ) := by
  have hk := hb.1
  have q1 := h1.2.1
  have q2 := h2.2.1
  have q3 := h2.1
  have q4 := h1.1
  unfold X9_isSameWord
  rw [h3, h4, ni_sub (by omega), ni_sub (by omega)]
  by_cases z : e - s = e' - s'
  · rw [if_pos (by rw [z]), bv_eq, ← z]
    exact same19_ok hb hT h1 h2 h3 h4 z (e - s) 0 fu (by omega) (by unfold fu; omega) (fun j hj => by omega)
  · rw [if_neg (by rw [ni_inj (by omega) (by omega)]; exact z), decide_eq_false (fun q => z ?_)]
    · rfl
    · have := congrArg List.length q
      rw [lets_len, lets_len] at this
      exact this
/-- where a name is found -/
def FoundAt (N : Nat) (nm : Nat → List Nat) (W : List Nat) (r : Int32) : Prop := (∃ p, p < N ∧ r = nI p ∧ nm p = W) ∨ (r = -1 ∧ ∀ p, p < N → nm p ≠ W)
theorem FoundAt.uniq {N : Nat} {nm : Nat → List Nat} {W : List Nat} {r r' : Int32} (hd : ∀ p q, p < N → q < N → nm p = nm q → p = q) (h : FoundAt N nm W r) (h' : FoundAt N nm W r') : r = r' := by
  rcases h with ⟨p, hp, rfl, e⟩ | ⟨rfl, no⟩
  · rcases h' with ⟨q, hq, rfl, e'⟩ | ⟨rfl, no⟩
    · rw [hd p q hp hq (e.trans e'.symm)]
    · exact absurd e (no p hp)
  · rcases h' with ⟨q, hq, rfl, e'⟩ | ⟨rfl, _⟩
    · exact absurd e' (no q hq)
    · rfl
/-- the names of both sides -/
def NmC (b : Nat → Nat) (k N : Nat) (ns ne : Nat → Nat) (σ : Mem) : Prop := ∀ p, p < N → σ.1 5 p = nI (ns p) ∧ σ.1 6 p = nI (ne p) ∧ Wd b k (ns p) (ne p)
def nmW (b : Nat → Nat) (ns ne : Nat → Nat) (p : Nat) : List Nat := lets b (ne p - ns p) (ns p)
theorem gT_u {α : Type} {u : Nat} {v : Int32} {F : Nat → Option α} (hu : u = 7 ∨ u = 124) (h : v = nI u) : gT v F = F u := by
  unfold gT
  rcases hu with rfl | rfl
  · rw [if_pos h]
  · rw [h, if_neg (by decide), if_pos rfl]
theorem here2_ok {σ : Mem} {u N : Nat} {ns ne : Nat → Nat} {x : Tk} (hb : TB b k) (hu : u = 7 ∨ u = 124) (h23 : σ.1 2 3 = nI u) (hN : N ≤ 6) (h12 : σ.1 u 12 = nI N) (hn : NmC b k N ns ne σ) (hx : CTok b k x σ) (hW : Wd b k x.2.1 x.2.2) :
    ∀ (r i n : Nat), i + r = N → r < n → (∀ p, p < i → nmW b ns ne p ≠ wd b x) → Ok (X5_personHere_2 n (nI i) σ) (fun t => t.2 = σ ∧ FoundAt N (nmW b ns ne) (wd b x) t.1)
  | 0, i, n, hi, hr, hq => by
    obtain ⟨n, rfl⟩ : ∃ j, n = j + 1 := ⟨n - 1, by omega⟩
    rw [X5_personHere_2, gT_u hu h23, h12]
    exact ok_pos ((ni_le (by omega) (by omega)).mpr (by omega)) (ok_some ⟨rfl, .inr ⟨rfl, fun p hp => hq p (by omega)⟩⟩)
  | r + 1, i, n, hi, hr, hq => by
    obtain ⟨n, rfl⟩ : ∃ j, n = j + 1 := ⟨n - 1, by omega⟩
    obtain ⟨a1, a2, a3⟩ := hn i (by omega)
    have gb := ib_t (n := i) (k := 6) (by omega) (by omega)
    rw [X5_personHere_2, gT_u hu h23, h12]
    refine ok_neg (by rw [ni_le (by omega) (by omega)]; omega) (ok_pos gb (ok_pos gb ?_))
    rw [ni_cl (by omega), a1, a2]
    refine ok_bindE (same_ok hb hx.1 a3 hW hx.2.1 hx.2.2.1) ?_
    by_cases z : nmW b ns ne i = wd b x
    · have z' : lets b (ne i - ns i) (ns i) = lets b (x.2.2 - x.2.1) x.2.1 := z
      rw [decide_eq_true z']
      exact ok_neg one_ne (ok_some ⟨rfl, .inl ⟨i, by omega, rfl, z⟩⟩)
    · have z' : ¬ lets b (ne i - ns i) (ns i) = lets b (x.2.2 - x.2.1) x.2.1 := z
      rw [decide_eq_false z']
      refine ok_pos rfl (ok_bv ?_)
      rw [ni_succ]
      refine here2_ok hb hu h23 hN h12 hn hx hW r (i + 1) n (by omega) (by omega) (fun p hp => ?_)
      by_cases e : p = i
      · rw [e]
        exact z
      · exact hq p (by omega)
theorem find4_ok {ρ : Mem} {N : Nat} {nm : Nat → List Nat} {W : List Nat} (hN : N ≤ 6) (h42 : ρ.1 1000 42 = nI N) (hW : ltrs W) (h9 : ρ.2 1000 9 = pack W) (hn : ∀ p, p < N → ρ.2 1002 p = pack (nm p) ∧ ltrs (nm p)) :
    ∀ (r i n : Nat) (a : Int32), i + r = N → r < n → FoundAt i nm W a → Ok (X12_find_4 n a (nI i) ρ) (fun t => t.2 = ρ ∧ FoundAt N nm W t.1)
  | 0, i, n, a, hi, hr, hq => by
    obtain ⟨n, rfl⟩ : ∃ j, n = j + 1 := ⟨n - 1, by omega⟩
    have : i = N := by omega
    subst this
    rw [X12_find_4, h42]
    exact ok_pos (Int32.le_refl _) (ok_some ⟨rfl, hq⟩)
  | r + 1, i, n, a, hi, hr, hq => by
    obtain ⟨n, rfl⟩ : ∃ j, n = j + 1 := ⟨n - 1, by omega⟩
    obtain ⟨e1, e2⟩ := hn i (by omega)
    rw [X12_find_4, h42]
    refine ok_neg (by rw [ni_le (by omega) (by omega)]; omega) (ok_pos (ib_t (by omega) (by omega)) ?_)
    rw [ni_cl (by omega), e1, h9]
    unfold X12_find_31
    rw [bv_eq, bv_eq, ni_succ]
    refine ok_ite (fun z => ?_) (fun z => ?_)
    · have z := (pack_inj e2 hW).mp ((lg_cmp_eq _ _).mp z)
      exact find4_ok hN h42 hW h9 hn r (i + 1) n (nI i) (by omega) (by omega) (.inl ⟨i, by omega, rfl, z⟩)
    · have z : nm i ≠ W := fun e => z ((lg_cmp_eq _ _).mpr (by rw [e]))
      refine find4_ok hN h42 hW h9 hn r (i + 1) n a (by omega) (by omega) ?_
      rcases hq with ⟨p, hp, e, e'⟩ | ⟨e, no⟩
      · exact .inl ⟨p, by omega, e, e'⟩
      · refine .inr ⟨e, fun p hp => ?_⟩
        by_cases q : p = i
        · rw [q]
          exact z
        · exact no p (by omega)
theorem wd_Wd {x : Tk} (h : TW b k x) (h3 : x.1 = 3) : Wd b k x.2.1 x.2.2 := ⟨h.2.2.1 (by omega), h.2.1, (h.2.2.2.1 h3).1, (h.2.2.2.1 h3).2⟩
theorem nm_ltrs {s e : Nat} (h : Wd b k s e) : ltrs (lets b (e - s) s) := by
  refine ⟨by rw [lets_len]; exact h.2.2.1, fun c hc => ?_⟩
  obtain ⟨m, g1, g2⟩ := lets_mem b _ _ c hc
  have := isL_b (h.2.2.2 m g1)
  omega
end Nms
