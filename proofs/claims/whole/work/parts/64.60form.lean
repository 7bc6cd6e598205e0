/-! town: formulas, what both sides hold while one is read -/
theorem all_snoc {α : Type} {P : Nat → α → Prop} {l : List α} {c : α} (h : ∀ i (hi : i < l.length), P i l[i]) (hc : P l.length c) : ∀ i (hi : i < (l ++ [c]).length), P i (l ++ [c])[i] := fun i hi => by
  by_cases z : i < l.length
  · rw [List.getElem_append_left z]
    exact h i z
  · rw [List.length_append, List.length_singleton] at hi
    have e : i = l.length := by omega
    subst e
    rw [List.getElem_concat_length rfl]
    exact hc
theorem pos_append : ∀ (p q : Pg) (i : Nat), pos (p ++ q) i = pos p i ++ pos q (i + p.length)
  | [], q, i => rfl
  | c :: r, q, i => by
    rw [List.cons_append, pos, pos, pos_append r q (i + 1), List.length_cons, show i + 1 + r.length = i + (r.length + 1) by omega]
    split <;> rfl
theorem asksW_snoc (p : Pg) (c : Int32 × Int32) : asksW (p ++ [c]) = (asksW p || (decide (c.1 = 1) && decide (c.2 = 3))) := by
  unfold asksW
  rw [List.any_append]
  simp
def CO (out : Pg) (f : Nat) (σ : Mem) : Prop := FC out σ f ∧ σ.1 f 6 = tr (asksW out) ∧ σ.1 f 7 = nI (pos out 0).length ∧ ∀ j (h : j < (pos out 0).length), σ.1 (f + 4) j = nI (pos out 0)[j]
theorem CO.keep {out : Pg} {f : Nat} {σ σ' : Mem} (h : CO out f σ) (h4 : σ'.1 f 4 = σ.1 f 4) (h6 : σ'.1 f 6 = σ.1 f 6) (h7 : σ'.1 f 7 = σ.1 f 7) (e1 : σ'.1 (f + 1) = σ.1 (f + 1)) (e2 : σ'.1 (f + 2) = σ.1 (f + 2)) (e4 : σ'.1 (f + 4) = σ.1 (f + 4)) : CO out f σ' := by
  unfold CO FC
  rw [h4, h6, h7, e1, e2, e4]
  exact h
theorem addOpRaw {f len : Nat} {s : Int32} {σ : Mem} (h : σ.1 f 4 = nI len) (hl : len < 270) : X2_addOperation f s σ = some (sI (sI σ (f + 1) len s) f 4 (nI (len + 1))) := by
  unfold X2_addOperation
  rw [h, if_neg (by rw [show (270 : Int32) = nI 270 from rfl, ni_le (by omega) (by omega)]; omega), if_pos (ib_t hl (by omega)), ni_cl (by omega), bv_eq, bv_eq, sI_n (by omega), h, ni_succ]
theorem addOp_ok {out : Pg} {f : Nat} {s : Int32} {c : Int32 × Int32} {σ : Mem} (h : CO out f σ) (hl : out.length < 270) (he : ∀ a, encR s a c) (h0 : c.1 ≠ 0) (h1 : c.1 ≠ 1) : Ok (X2_addOperation f s σ) (fun σ' => CO (out ++ [c]) f σ' ∧ Fr [f + 1] [(f, 4)] σ σ') := by
  rw [addOpRaw h.1.1 hl]
  have ep : pos (out ++ [c]) 0 = pos out 0 := by
    rw [pos_append]
    unfold pos
    rw [if_neg h0]
    exact List.append_nil _
  refine ok_some ⟨⟨⟨?_, ?_⟩, ?_, ?_, ?_⟩, frIk (frI Fr.refl (.head _)) (.inl (.head _))⟩
  · rw [sI_e, List.length_append, List.length_singleton]
  · refine all_snoc (P := fun i c => encR _ _ c) (fun i hi => ?_) ?_
    · rw [sI_n (by omega), sI_k (by omega), sI_n (by omega), sI_n (by omega)]
      exact h.1.2 i hi
    · rw [sI_n (by omega), sI_e]
      exact he _
  · rw [sI_k (by decide), sI_n (by omega), h.2.1, asksW_snoc, decide_eq_false h1]
    simp
  · rw [sI_k (by decide), sI_n (by omega), h.2.2.1, ep]
  · rw [ep]
    intro j hj
    rw [sI_n (by omega), sI_n (by omega)]
    exact h.2.2.2 j hj
theorem addNum_ok {out : Pg} {f : Nat} {v : Int32} {σ : Mem} (h : CO out f σ) (hl : out.length < 270) (hp : (pos out 0).length < 30) : Ok (X2_addNumber f v σ) (fun σ' => CO (out ++ [(0, v)]) f σ' ∧ Fr [f + 1, f + 2, f + 4] [(f, 4), (f, 7)] σ σ') := by
  refine ok_fr ?_ (fr_X2_addNumber f v σ Fr.refl)
  unfold X2_addNumber
  have h4 := h.1.1
  have h7 := h.2.2.1
  have ep : pos (out ++ [(0, v)]) 0 = pos out 0 ++ [out.length] := by
    rw [pos_append, Nat.zero_add]
    rfl
  rw [h7, h4]
  refine ok_neg (by rw [show (30 : Int32) = nI 30 from rfl, ni_le (by omega) (by omega)]; omega) (ok_neg (by rw [show (270 : Int32) = nI 270 from rfl, ni_le (by omega) (by omega)]; omega) (ok_pos (ib_t hp (by omega)) (ok_bv (ok_bv ?_))))
  rw [sI_n (a := f) (o := f + 4) (by omega), h7, ni_succ, sI_k (by decide), sI_n (by omega), h4, ni_cl (by omega), ni_cl (by omega)]
  refine ok_pos (ib_t hl (by omega)) (ok_bv ?_)
  refine ok_bindE (addOpRaw (len := out.length) (by rw [sI_n (by omega), sI_k (by decide), sI_n (by omega)]; exact h4) hl) (ok_some ⟨⟨?_, ?_⟩, ?_, ?_, ?_⟩)
  · rw [sI_e, List.length_append, List.length_singleton]
  · refine all_snoc (P := fun i c => encR _ _ c) (fun i hi => ?_) ?_
    · rw [sI_n (by omega), sI_k (by omega), sI_n (by omega), sI_n (by omega), sI_n (by omega), sI_n (by omega), sI_n (by omega), sI_k (by omega), sI_n (by omega), sI_n (by omega)]
      exact h.1.2 i hi
    · rw [sI_n (by omega), sI_e, sI_n (by omega), sI_n (by omega), sI_e]
      exact .inl ⟨rfl, rfl, rfl⟩
  · rw [sI_k (by decide), sI_n (by omega), sI_n (by omega), sI_k (by decide), sI_n (by omega), h.2.1, asksW_snoc]
    simp
  · rw [sI_k (by decide), sI_n (by omega), sI_n (by omega), sI_e, ep, List.length_append, List.length_singleton]
  · rw [ep]
    refine all_snoc (P := fun j (c : Nat) => _ = nI c) (fun j hj => ?_) ?_
    · rw [sI_n (by omega), sI_n (by omega), sI_n (by omega), sI_n (by omega), sI_k (by omega)]
      exact h.2.2.2 j hj
    · rw [sI_n (by omega), sI_n (by omega), sI_n (by omega), sI_n (by omega), sI_e]
theorem addGiv_ok {out : Pg} {f g : Nat} {σ : Mem} (h : CO out f σ) (hl : out.length < 270) (hg : g < 7) : Ok (X2_addGiven f (nI g) σ) (fun σ' => CO (out ++ [(1, nI g)]) f σ' ∧ Fr [f + 1, f + 2] [(f, 4), (f, 6)] σ σ') := by
  refine ok_fr ?_ (fr_X2_addGiven f (nI g) σ Fr.refl)
  have h4 := h.1.1
  have h6 := h.2.1
  have ep : pos (out ++ [(1, nI g)]) 0 = pos out 0 := by
    rw [pos_append]
    exact List.append_nil _
  have go : ∀ s0 : Int32, (s0 = tr (decide (g = 3))) → Ok (X2_addGiven_35 f (nI g) s0 (σ.1 f 6) σ) (fun σ' => CO (out ++ [(1, nI g)]) f σ') := by
    intro s0 hs
    unfold X2_addGiven_35
    have e : σ.1 f 6 ||| s0 = tr (asksW (out ++ [(1, nI g)])) := by
      rw [h6, hs, asksW_snoc]
      have e3 : decide (nI g = 3) = decide (g = 3) := by
        rw [show (3 : Int32) = nI 3 from rfl]
        exact decide_eq_decide.mpr (ni_inj (by omega) (by omega))
      show _ = tr (asksW out || (decide ((1 : Int32) = 1) && decide (nI g = 3)))
      rw [e3, show decide ((1 : Int32) = 1) = true from rfl, Bool.true_and]
      cases asksW out <;> cases decide (g = 3) <;> decide
    rw [e]
    refine ok_pos (by cases asksW (out ++ [(1, nI g)]) <;> decide) (ok_bv ?_)
    rw [sI_k (by decide), h4, ni_cl (by omega)]
    refine ok_pos (ib_t hl (by omega)) (ok_bv ?_)
    refine ok_bindE (addOpRaw (len := out.length) (by rw [sI_n (by omega), sI_k (by decide)]; exact h4) hl) (ok_some ⟨⟨?_, ?_⟩, ?_, ?_, ?_⟩)
    · rw [sI_e, List.length_append, List.length_singleton]
    · refine all_snoc (P := fun i c => encR _ _ c) (fun i hi => ?_) ?_
      · rw [sI_n (by omega), sI_k (by omega), sI_n (by omega), sI_n (by omega), sI_n (by omega), sI_n (by omega), sI_k (by omega), sI_n (by omega)]
        exact h.1.2 i hi
      · rw [sI_n (by omega), sI_e, sI_n (by omega), sI_n (by omega), sI_e]
        exact .inr (.inl ⟨rfl, rfl, rfl⟩)
    · rw [sI_k (by decide), sI_n (by omega), sI_n (by omega), sI_e]
    · rw [sI_k (by decide), sI_n (by omega), sI_n (by omega), sI_k (by decide), h.2.2.1, ep]
    · rw [ep]
      intro j hj
      rw [sI_n (by omega), sI_n (by omega), sI_n (by omega), sI_n (by omega)]
      exact h.2.2.2 j hj
  unfold X2_addGiven
  rw [h4]
  refine ok_neg (Int32.not_lt.mpr (ni_nn (by omega))) (ok_neg (by rw [show (7 : Int32) = nI 7 from rfl, ni_le (by omega) (by omega)]; omega) (ok_neg (by rw [show (270 : Int32) = nI 270 from rfl, ni_le (by omega) (by omega)]; omega) (ok_ite (fun z => go 1 ?_) (fun z => go 0 ?_))))
  · rw [show (3 : Int32) = nI 3 from rfl, ni_inj (by omega) (by omega)] at z
    rw [decide_eq_true z]
    rfl
  · rw [show (3 : Int32) = nI 3 from rfl, ni_inj (by omega) (by omega)] at z
    rw [decide_eq_false z]
    rfl
/-! tokens of both sides -/
theorem kind_lt {b : Nat → Nat} {k : Nat} {x : Tk} (h : TW b k x) : x.1 < 64 := by
  by_cases y : 3 < x.1
  · have := h.2.2.2.2.2 y
    unfold isSg at this
    simp at this
    omega
  · omega
theorem own_ge (W : List Nat) : ownK W = 3 ∨ ∃ i, i < 23 ∧ ownK W = nI (100 + i) := by
  rcases own_cases W OW 100 with h | ⟨i, h1, h2, _⟩
  · exact .inl h.1
  · exact .inr ⟨i, h1, h2⟩
theorem kindC_low {b : Nat → Nat} {k : Nat} {x : Tk} (h : TW b k x) {v : Nat} (h3 : v ≠ 3) (hv : v < 100) : kindC b x = nI v ↔ x.1 = v := by
  have hx := kind_lt h
  unfold kindC
  by_cases z : x.1 = 3
  · rw [if_pos z]
    refine ⟨fun e => ?_, fun e => by omega⟩
    rcases own_ge (lets b (x.2.2 - x.2.1) x.2.1) with g | ⟨i, _, g⟩
    · rw [g, show (3 : Int32) = nI 3 from rfl, ni_inj (by omega) (by omega)] at e
      omega
    · rw [g, ni_inj (by omega) (by omega)] at e
      omega
  · rw [if_neg z, ni_inj (by omega) (by omega)]
theorem kindR_low {b : Nat → Nat} {k : Nat} {x : Tk} (h : TW b k x) {v : Nat} (h1 : v ≠ 1) (h3 : v ≠ 3) (hv : v < 100) : kindR x = nI v ↔ x.1 = v := by
  have hx := kind_lt h
  unfold kindR
  by_cases y : x.1 = 1
  · rw [if_pos y, show (3 : Int32) = nI 3 from rfl, ni_inj (by omega) (by omega)]
    omega
  · rw [if_neg y]
    by_cases z : x.1 = 3
    · rw [if_pos z, show (1 : Int32) = nI 1 from rfl, ni_inj (by omega) (by omega)]
      omega
    · rw [if_neg z, ni_inj (by omega) (by omega)]
theorem kindR_3 {b : Nat → Nat} {k : Nat} {x : Tk} (h : TW b k x) : kindR x = 3 ↔ x.1 = 1 := by
  have hx := kind_lt h
  unfold kindR
  by_cases y : x.1 = 1
  · rw [if_pos y]
    exact ⟨fun _ => y, fun _ => rfl⟩
  · rw [if_neg y]
    by_cases z : x.1 = 3
    · rw [if_pos z]
      exact ⟨fun e => absurd e (by decide), fun e => absurd e y⟩
    · rw [if_neg z, show (3 : Int32) = nI 3 from rfl, ni_inj (by omega) (by omega)]
      omega
theorem kind_sort {b : Nat → Nat} {k : Nat} {x : Tk} (h : TW b k x) {v : Nat} (h1 : v ≠ 1) (h3 : v ≠ 3) (hv : v < 100) : kindR x = nI v ↔ kindC b x = nI v := by
  rw [kindR_low h h1 h3 hv, kindC_low h h3 hv]
def fcode (x : Tk) (v : Nat) : Nat := if x.1 = 1 then 1 else v
theorem fail_ok {b : Nat → Nat} {k v : Nat} {x : Tk} {σ : Mem} (hw : TW b k x) (h : CTok b k x σ) (h5 : σ.1 2 5 = 0) : X5_fail (nI v) σ = some (sI (sI σ 2 5 (nI (fcode x v))) 2 6 (nI x.2.1)) := by
  unfold X5_fail X5_isGood X5_fail_24 fcode
  rw [if_pos h5, Option.bind_some]
  show (if (1 : Int32) = 0 then some σ else if σ.1 3 2 = 1 then _ else _) = _
  rw [if_neg one_ne, h.2.2.2.1]
  by_cases z : x.1 = 1
  · rw [if_pos z, if_pos (show kindC b x = 1 from (kindC_low hw (v := 1) (by decide) (by decide)).mpr z), bv_eq, bv_eq, sI_n (by decide), h.2.1]
    rfl
  · rw [if_neg z, if_neg (fun e : kindC b x = 1 => z ((kindC_low hw (v := 1) (by decide) (by decide)).mp e)), bv_eq, bv_eq, sI_n (by decide), h.2.1]
theorem failB_ok {v : Int32} {σ : Mem} (h5 : σ.1 2 5 ≠ 0) : X5_fail v σ = some σ := by
  unfold X5_fail X5_isGood
  rw [if_neg h5, Option.bind_some]
  exact if_pos rfl
theorem isAt_ok {v : Int32} {σ : Mem} (h5 : σ.1 2 5 = 0) : X5_isAt v σ = some (tr (decide (σ.1 3 2 = v)), σ) := by
  unfold X5_isAt X5_isGood
  rw [if_pos h5, Option.bind_some]
  show (if (1 : Int32) = 0 then some ((0 : Int32), σ) else if σ.1 3 2 = v then some (1, σ) else some (0, σ)) = _
  rw [if_neg one_ne]
  by_cases z : σ.1 3 2 = v
  · rw [if_pos z, decide_eq_true z]
    rfl
  · rw [if_neg z, decide_eq_false z]
    rfl
theorem isAtB_ok {v : Int32} {σ : Mem} (h5 : σ.1 2 5 ≠ 0) : X5_isAt v σ = some (0, σ) := by
  unfold X5_isAt X5_isGood
  rw [if_neg h5, Option.bind_some]
  exact if_pos rfl
theorem wrong_ok {b : Nat → Nat} {k v : Nat} {x : Tk} {ρ : Mem} (hw : TW b k x) (h : RTok b k x ρ) (h2 : ρ.1 1000 2 = 0) : X12_wrong (nI v) ρ = some (sI (sI ρ 1000 2 (nI (fcode x v))) 1000 3 (nI x.2.1)) := by
  unfold X12_wrong X12_wrong_22 fcode
  rw [if_pos (by rw [h2]; exact Int32.le_refl _), h.2.2.1]
  by_cases z : x.1 = 1
  · rw [if_pos z, if_pos ((kindR_3 hw).mpr z), bv_eq, bv_eq, sI_k (by decide), h.2.1]
    rfl
  · rw [if_neg z, if_neg (fun e => z ((kindR_3 hw).mp e)), bv_eq, bv_eq, sI_k (by decide), h.2.1]
theorem wrongB_ok {v : Int32} {c : Nat} {ρ : Mem} (h2 : ρ.1 1000 2 = nI c) (h0 : 0 < c) (h5 : c ≤ 5) : X12_wrong v ρ = some ρ := by
  unfold X12_wrong
  rw [h2, if_neg (by rw [show (0 : Int32) = nI 0 from rfl, ni_le (by omega) (by omega)]; omega)]
