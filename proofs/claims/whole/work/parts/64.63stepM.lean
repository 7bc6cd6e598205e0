/-! town: steps of the reference through a formula -/
def RX (w c p : Nat) (ρ : Mem) : Prop := ρ.1 1000 2 = nI c ∧ ρ.1 1000 3 = nI p ∧ ∃ m, m ≤ 320 ∧ ρ.1 1005 w = nI m
theorem RX.k {w c p j : Nat} {v : Int32} {ρ : Mem} (h : RX w c p ρ) (h2 : j ≠ 2) (h3 : j ≠ 3) : RX w c p (sI ρ 1000 j v) :=
  ⟨by rw [sI_k (fun e => h2 e.symm)]; exact h.1, by rw [sI_k (fun e => h3 e.symm)]; exact h.2.1, by rw [sI_n (by decide)]; exact h.2.2⟩
theorem RX.s9 {w c p j : Nat} {v : Int32} {ρ : Mem} (h : RX w c p ρ) : RX w c p (sI ρ 1009 j v) :=
  ⟨by rw [sI_n (by decide)]; exact h.1, by rw [sI_n (by decide)]; exact h.2.1, by rw [sI_n (by decide)]; exact h.2.2⟩
theorem fcode_pos (x : Tk) {v : Nat} (h : 0 < v) (h5 : v ≤ 5) : 0 < fcode x v ∧ fcode x v ≤ 5 := by
  unfold fcode
  split <;> omega
section Steps
variable {b : Nat → Nat} {k w own all : Nat} {x : Tk} {out : Pg} {stk : List Int32} {ρ : Mem} {Q : Mem → Prop}
theorem rWrong (hw : TW b k x) (h : RF b k w x out stk own all ρ) (hl : out.length ≤ 320) : Ok (X12_wrong 2 ρ) (fun ρ' => RX w (fcode x 2) x.2.1 ρ' ∧ FW w ρ ρ' ∧ ρ'.1 1000 20 = ρ.1 1000 20 ∧ ρ'.1 1000 6 = ρ.1 1000 6) := by
  refine ⟨_, wrong_ok (v := 2) hw h.1 h.2.1, ⟨?_, ?_, out.length, hl, ?_⟩, (FW.refl.k (by decide)).k (by decide), ?_, ?_⟩
  · rw [sI_k (by decide), sI_e]
  · rw [sI_e]
  · rw [sI_n (by decide), sI_n (by decide)]
    exact h.2.2.1.2.1
  · rw [sI_k (by decide), sI_k (by decide)]
  · rw [sI_k (by decide), sI_k (by decide)]
theorem openUp_ok {s : Int32} (hb : TB b k) (hw : TW b k x) (h1 : x.1 ≠ 1) (h : RF b k w x out stk own all ρ) (hl : stk.length < 160) (hs : s = 20 ∨ s = 21) : Ok (X12_openUp s ρ) (fun ρ' => RF b k w (nxt b k x.2.2) out (s :: stk) own all ρ' ∧ FW w ρ ρ') := by
  unfold X12_openUp
  have e20 := h.2.2.2.1.1
  have e24 := h.2.2.2.1.2.2
  rw [e20]
  refine ok_pos (ib_t hl (by omega)) (ok_bv (ok_bv (ok_bv ?_)))
  rw [ni_cl (by omega), sI_n (a := 1000) (o := 1009) (by decide), e20, sI_k (a := 1000) (b := 24) (by decide), sI_n (a := 1000) (o := 1009) (by decide), e24, ni_succ, ni_succ]
  obtain ⟨g1, g2⟩ := rPush (s := s) h
  have g3 : RF b k w x out (s :: stk) own all (sI (sI (sI ρ 1009 stk.length s) 1000 20 (nI (stk.length + 1))) 1000 24 (nI (dpS stk + 1))) := by
    refine g1.set2024 rfl ⟨by rw [Nat.zero_add]; exact g2, g1.2.2.2.1.2.1⟩ ?_
    show _ = nI ((if s = 20 ∨ s = 21 then 1 else 0) + dpS stk)
    rw [if_pos hs, Nat.add_comm]
  refine ok_pos g3.2.1 (ok_bind (rTok_ok hb hw h1 g3) (fun ρ' q => ok_some ⟨q.1, ((FW.refl.s9.k (by decide)).k (by decide)).trans q.2⟩))
theorem openUpX_ok {s : Int32} {c p len : Nat} (h : RX w c p ρ) (h0 : 0 < c) (h5 : c ≤ 5) (h20 : ρ.1 1000 20 = nI len) (hl : len < 160) : Ok (X12_openUp s ρ) (fun ρ' => RX w c p ρ' ∧ FW w ρ ρ') := by
  unfold X12_openUp
  rw [h20]
  refine ok_pos (ib_t hl (by omega)) (ok_bv (ok_bv (ok_bv (ok_neg ?_ (ok_some ⟨(h.s9.k (by decide) (by decide)).k (by decide) (by decide), (FW.refl.s9.k (by decide)).k (by decide)⟩)))))
  rw [sI_k (by decide), sI_k (by decide), sI_n (by decide), h.1, show (0 : Int32) = nI 0 from rfl, ni_inj (by omega) (by omega)]
  omega
theorem unitX {n c p : Nat} {y : Int32} (h : RX w c p ρ) (h0 : 0 < c) (h5 : c ≤ 5) (hQ : Q ρ) : Ok (X12_unit_2 (n + 1) y ρ) Q := by
  have e : X12_unit_101 ρ = some ρ := by
    unfold X12_unit_101
    rw [h.1, if_neg (by rw [show (0 : Int32) = nI 0 from rfl, ni_le (by omega) (by omega)]; omega)]
  rw [X12_unit_2, e]
  refine ok_ite (fun _ => ok_some hQ) (fun _ => ok_neg ?_ (ok_some hQ))
  rw [h.1, show (0 : Int32) = nI 0 from rfl, ni_inj (by omega) (by omega)]
  omega
theorem u_not {n : Nat} (hb : TB b k) (hw : TW b k x) (h : RF b k w x out stk own all ρ) (hk : kindC b x = 115) (hm : mayN stk = true) (hl : stk.length < 160) (hd : dpS stk ≤ 6)
    (hQ : ∀ ρ', RF b k w (nxt b k x.2.2) out (21 :: stk) own all ρ' → FW w ρ ρ' → Ok (X12_unit_2 n 1 ρ') Q) : Ok (X12_unit_2 (n + 1) 1 ρ) Q := by
  have h3 : x.1 = 3 := ((kindC_own hw (i := 15) (by decide)).mp hk).1
  rw [X12_unit_2]
  refine ok_neg one_ne (ok_pos h.2.1 (ok_bindE (isWordM_ok 15 hw h.1 (by decide) wc15) ?_))
  show Ok (if tr (decide (kindC b x = nI 115)) = 0 then _ else _) _
  rw [decide_eq_true (show kindC b x = nI 115 from hk)]
  refine ok_neg one_ne (ok_bindE (mayNot_ok h.2.2.2.1 (by omega)) ?_)
  show Ok (if tr (mayN stk) = 0 then _ else _) _
  rw [hm]
  refine ok_neg one_ne (ok_pos ?_ ?_)
  · show ρ.1 1000 24 ≤ 6
    rw [h.2.2.2.1.2.2, show (6 : Int32) = nI 6 from rfl, ni_le (by omega) (by omega)]
    exact hd
  · unfold X12_unit_44
    exact ok_bind (openUp_ok hb hw (by omega) h hl (.inr rfl)) (fun ρ' q => hQ ρ' q.1 q.2)
theorem u_notX {n : Nat} (hw : TW b k x) (h : RF b k w x out stk own all ρ) (hk : kindC b x = 115) (hm : mayN stk = true) (hl : stk.length < 160) (ho : out.length ≤ 320) (hd : 6 < dpS stk) (hd' : dpS stk < 1000)
    (hQ : ∀ ρ', RX w (fcode x 2) x.2.1 ρ' → FW w ρ ρ' → Q ρ') : Ok (X12_unit_2 (n + 2) 1 ρ) Q := by
  have hc := fcode_pos x (v := 2) (by omega) (by omega)
  rw [X12_unit_2]
  refine ok_neg one_ne (ok_pos h.2.1 (ok_bindE (isWordM_ok 15 hw h.1 (by decide) wc15) ?_))
  show Ok (if tr (decide (kindC b x = nI 115)) = 0 then _ else _) _
  rw [decide_eq_true (show kindC b x = nI 115 from hk)]
  refine ok_neg one_ne (ok_bindE (mayNot_ok h.2.2.2.1 (by omega)) ?_)
  show Ok (if tr (mayN stk) = 0 then _ else _) _
  rw [hm]
  refine ok_neg one_ne (ok_neg ?_ (ok_bind (rWrong hw h ho) (fun ρ1 q => ?_)))
  · show ¬ ρ.1 1000 24 ≤ 6
    rw [h.2.2.2.1.2.2, show (6 : Int32) = nI 6 from rfl, ni_le (by omega) (by omega)]
    omega
  · unfold X12_unit_44
    refine ok_bind (openUpX_ok q.1 hc.1 hc.2 (by rw [q.2.2.1]; exact h.2.2.2.1.1) hl) (fun ρ' q' => unitX q'.1 hc.1 hc.2 (hQ ρ' q'.1 (q.2.1.trans q'.2)))
/-- past the test for 'not' -/
theorem u_53 {n : Nat} (hw : TW b k x) (h : RF b k w x out stk own all ρ) (hk : kindC b x = 115 → mayN stk = false) (hl : stk.length ≤ 160) (hQ : Ok (X12_unit_53 (X12_unit_2 n) 1 ρ) Q) : Ok (X12_unit_2 (n + 1) 1 ρ) Q := by
  rw [X12_unit_2]
  refine ok_neg one_ne (ok_pos h.2.1 (ok_bindE (isWordM_ok 15 hw h.1 (by decide) wc15) ?_))
  show Ok (if tr (decide (kindC b x = nI 115)) = 0 then _ else _) _
  by_cases z : kindC b x = nI 115
  · rw [decide_eq_true z]
    refine ok_neg one_ne (ok_bindE (mayNot_ok h.2.2.2.1 hl) ?_)
    show Ok (if tr (mayN stk) = 0 then _ else _) _
    rw [hk z]
    exact ok_pos rfl hQ
  · rw [decide_eq_false z]
    exact ok_pos rfl hQ
theorem kind40 (hw : TW b k x) (h : RF b k w x out stk own all ρ) : ρ.1 1000 6 = 40 ↔ kindC b x = 40 := by
  rw [h.1.2.2.1]
  exact kind_sort hw (v := 40) (by decide) (by decide) (by decide)
theorem kind2 (hw : TW b k x) (h : RF b k w x out stk own all ρ) : ρ.1 1000 6 = 2 ↔ kindC b x = 2 := by
  rw [h.1.2.2.1]
  exact kind_sort hw (v := 2) (by decide) (by decide) (by decide)
theorem u_br {n : Nat} (hb : TB b k) (hw : TW b k x) (h : RF b k w x out stk own all ρ) (hk : kindC b x = 40) (hl : stk.length < 160) (ha : all < 80) (ho : own < 30) (hd : dpS stk ≤ 6)
    (hQ : ∀ ρ', RF b k w (nxt b k x.2.2) out (20 :: stk) (own + 1) (all + 1) ρ' → FW w ρ ρ' → Ok (X12_unit_2 n 1 ρ') Q) : Ok (X12_unit_2 (n + 1) 1 ρ) Q := by
  have h4 : x.1 = 40 := (kindC_low hw (v := 40) (by decide) (by decide)).mp hk
  refine u_53 hw h (fun e => by rw [hk] at e; exact absurd e (by decide)) (by omega) ?_
  unfold X12_unit_53
  refine ok_pos ((kind40 hw h).mpr hk) (ok_bindE (isFull_ok h.2.2.2.2.1 h.2.2.2.2.2 (by omega) (by omega)) ?_)
  rw [decide_eq_false (show ¬ (all = 80 ∨ own = 30) by omega)]
  refine ok_pos rfl (ok_pos ?_ ?_)
  · show ρ.1 1000 24 ≤ 6
    rw [h.2.2.2.1.2.2, show (6 : Int32) = nI 6 from rfl, ni_le (by omega) (by omega)]
    exact hd
  · unfold X12_unit_83 X12_countUnit
    refine ok_bindE (b := sI (sI ρ 1000 21 (ρ.1 1000 21 + 1)) 1000 23 (ρ.1 1000 23 + 1)) (by rw [bv_eq, bv_eq, sI_k (by decide)]) ?_
    have g : RF b k w x out stk (own + 1) (all + 1) (sI (sI ρ 1000 21 (ρ.1 1000 21 + 1)) 1000 23 (ρ.1 1000 23 + 1)) := h.count (by rw [h.2.2.2.2.1, ni_succ]) (by rw [h.2.2.2.2.2, ni_succ])
    exact ok_bind (openUp_ok hb hw (by omega) g hl (.inl rfl)) (fun ρ' q => hQ ρ' q.1 (((FW.refl.k (by decide)).k (by decide)).trans q.2))
theorem u_brX {n : Nat} (hw : TW b k x) (h : RF b k w x out stk own all ρ) (hk : kindC b x = 40) (hl : stk.length < 160) (hol : out.length ≤ 320) (ha : all ≤ 80) (ho : own ≤ 30) (hd' : dpS stk < 1000) (hd : all = 80 ∨ own = 30 ∨ 6 < dpS stk)
    (hQ : ∀ ρ', RX w (fcode x 2) x.2.1 ρ' → FW w ρ ρ' → Q ρ') : Ok (X12_unit_2 (n + 2) 1 ρ) Q := by
  have hc := fcode_pos x (v := 2) (by omega) (by omega)
  refine u_53 hw h (fun e => by rw [hk] at e; exact absurd e (by decide)) (by omega) ?_
  have go : Ok (X12_unit_78 (X12_unit_83 (X12_unit_2 (n + 1))) 1 ρ) Q := by
    unfold X12_unit_78
    refine ok_bind (rWrong hw h hol) (fun ρ1 q => ?_)
    unfold X12_unit_83 X12_countUnit
    refine ok_bindE (b := sI (sI ρ1 1000 21 (ρ1.1 1000 21 + 1)) 1000 23 (ρ1.1 1000 23 + 1)) (by rw [bv_eq, bv_eq, sI_k (by decide)]) ?_
    refine ok_bind (openUpX_ok ((q.1.k (by decide) (by decide)).k (by decide) (by decide)) hc.1 hc.2 (by rw [sI_k (by decide), sI_k (by decide), q.2.2.1]; exact h.2.2.2.1.1) hl) (fun ρ' q' => unitX q'.1 hc.1 hc.2 (hQ ρ' q'.1 (((q.2.1.k (by decide)).k (by decide)).trans q'.2)))
  unfold X12_unit_53
  refine ok_pos ((kind40 hw h).mpr hk) (ok_bindE (isFull_ok h.2.2.2.2.1 h.2.2.2.2.2 ha ho) ?_)
  by_cases z : all = 80 ∨ own = 30
  · rw [decide_eq_true z]
    exact ok_neg one_ne go
  · rw [decide_eq_false z]
    refine ok_pos rfl (ok_neg ?_ go)
    show ¬ ρ.1 1000 24 ≤ 6
    rw [h.2.2.2.1.2.2, show (6 : Int32) = nI 6 from rfl, ni_le (by omega) (by omega)]
    omega
theorem askK_cases (v : Int32) : (askK v = -1 ∧ ∀ g, g < 7 → v ≠ nI (116 + g)) ∨ ∃ g, g < 7 ∧ v = nI (116 + g) ∧ askK v = nI g := by
  unfold askK
  by_cases z0 : v = 116
  · exact .inr ⟨0, by decide, z0, by rw [if_pos z0]; rfl⟩
  by_cases z1 : v = 117
  · exact .inr ⟨1, by decide, z1, by rw [if_neg z0, if_pos z1]; rfl⟩
  by_cases z2 : v = 118
  · exact .inr ⟨2, by decide, z2, by rw [if_neg z0, if_neg z1, if_pos z2]; rfl⟩
  by_cases z3 : v = 119
  · exact .inr ⟨3, by decide, z3, by rw [if_neg z0, if_neg z1, if_neg z2, if_pos z3]; rfl⟩
  by_cases z4 : v = 120
  · exact .inr ⟨4, by decide, z4, by rw [if_neg z0, if_neg z1, if_neg z2, if_neg z3, if_pos z4]; rfl⟩
  by_cases z5 : v = 121
  · exact .inr ⟨5, by decide, z5, by rw [if_neg z0, if_neg z1, if_neg z2, if_neg z3, if_neg z4, if_pos z5]; rfl⟩
  by_cases z6 : v = 122
  · exact .inr ⟨6, by decide, z6, by rw [if_neg z0, if_neg z1, if_neg z2, if_neg z3, if_neg z4, if_neg z5, if_pos z6]; rfl⟩
  refine .inl ⟨by rw [if_neg z0, if_neg z1, if_neg z2, if_neg z3, if_neg z4, if_neg z5, if_neg z6], fun g hg => ?_⟩
  match g, hg with
  | 0, _ => exact z0
  | 1, _ => exact z1
  | 2, _ => exact z2
  | 3, _ => exact z3
  | 4, _ => exact z4
  | 5, _ => exact z5
  | 6, _ => exact z6
  | n + 7, hg => exact absurd hg (by omega)
/-- what a unit gives -/
def leaf (b : Nat → Nat) (x : Tk) : Int32 × Int32 := if kindC b x = 2 then (0, nI (numV b (x.2.2 - x.2.1) x.2.1 0)) else (1, askK (kindC b x))
def isUnit (b : Nat → Nat) (x : Tk) : Prop := kindC b x = 2 ∨ ∃ g, g < 7 ∧ kindC b x = nI (116 + g)
theorem isUnit_ne1 (hw : TW b k x) (h : isUnit b x) : x.1 ≠ 1 ∧ x.1 ≠ 0 := by
  rcases h with h | ⟨g, hg, h⟩
  · have := (kindC_low hw (v := 2) (by decide) (by decide)).mp h
    omega
  · have := ((kindC_own hw (i := 16 + g) (by omega)).mp (by rw [h]; congr 1; omega)).1
    omega
theorem isUnit_not (h : isUnit b x) : kindC b x ≠ 115 ∧ kindC b x ≠ 40 := by
  rcases h with h | ⟨g, hg, h⟩
  · rw [h]
    decide
  · rw [h, show (115 : Int32) = nI 115 from rfl, show (40 : Int32) = nI 40 from rfl]
    constructor
    · rw [Ne, ni_inj (by omega) (by omega)]
      omega
    · rw [Ne, ni_inj (by omega) (by omega)]
      omega
theorem u_leaf {n : Nat} (hb : TB b k) (hw : TW b k x) (hw3 : w < 3) (h : RF b k w x out stk own all ρ) (hu : isUnit b x) (hl : stk.length ≤ 160) (hol : out.length < 320) (ha : all < 80) (ho : own < 30)
    (hQ : ∀ ρ', RF b k w (nxt b k x.2.2) (out ++ [leaf b x]) stk (own + 1) (all + 1) ρ' → FW w ρ ρ' → Q ρ') : Ok (X12_unit_2 (n + 2) 1 ρ) Q := by
  have hn1 := isUnit_ne1 hw hu
  have hnt := isUnit_not hu
  refine u_53 hw h (fun e => absurd e hnt.1) hl ?_
  unfold X12_unit_53
  refine ok_neg (fun e => hnt.2 ((kind40 hw h).mp e)) (ok_bv ?_)
  rw [X12_unit_2]
  refine ok_pos rfl ?_
  have fin : ∀ (s0 s1 : Int32), (s1, s0) = leaf b x → ∀ ρ1, RF b k w x out stk (own + 1) (all + 1) ρ1 → FW w ρ ρ1 → Ok (X12_unit_172 s0 s1 ρ1) Q := by
    intro s0 s1 hs ρ1 g1 g2
    unfold X12_unit_172
    refine ok_bind (rAdd_ok hw3 g1 hol) (fun ρ2 q => ok_bind (rTok_ok hb hw hn1.1 q.1) (fun ρ3 q' => ok_some (hQ ρ3 ?_ ((g2.trans q.2).trans q'.2))))
    rw [hs] at q'
    exact q'.1
  have g : RF b k w x out stk (own + 1) (all + 1) (sI (sI ρ 1000 21 (ρ.1 1000 21 + 1)) 1000 23 (ρ.1 1000 23 + 1)) := h.count (by rw [h.2.2.2.2.1, ni_succ]) (by rw [h.2.2.2.2.2, ni_succ])
  have go : ∀ v : Int32, v = askK (kindC b x) → Ok (X12_unit_126 (X12_unit_133 X12_unit_138) X12_unit_138 v ρ) Q := by
    intro v hv
    unfold X12_unit_126
    refine ok_bindE (isFull_ok h.2.2.2.2.1 h.2.2.2.2.2 (by omega) (by omega)) ?_
    rw [decide_eq_false (show ¬ (all = 80 ∨ own = 30) by omega)]
    refine ok_pos rfl ?_
    unfold X12_unit_138 X12_countUnit
    show Ok (if ρ.1 1000 2 ≤ 0 then _ else _) _
    rw [h.2.1]
    refine ok_pos (Int32.le_refl _) (ok_bindE (b := sI (sI ρ 1000 21 (ρ.1 1000 21 + 1)) 1000 23 (ρ.1 1000 23 + 1)) (by rw [bv_eq, bv_eq, sI_k (by decide)]) ?_)
    unfold X12_unit_160
    rcases askK_cases (kindC b x) with ⟨e, no⟩ | ⟨i, hi, e1, e2⟩
    · rw [hv, e]
      refine ok_neg (by decide) (ok_neg (by decide) (fin _ _ ?_ _ g ((FW.refl.k (by decide)).k (by decide))))
      have h2 : kindC b x = 2 := by
        rcases hu with h2 | ⟨i, hi, e⟩
        · exact h2
        · exact absurd e (no i hi)
      unfold leaf
      rw [if_pos h2, sI_k (by decide), sI_k (by decide), h.1.2.2.2.2.1 ((kindC_low hw (v := 2) (by decide) (by decide)).mp h2)]
    · rw [hv, e2]
      refine ok_pos (ni_nn (by omega)) (ok_pos (ni_nn (by omega)) (fin _ _ ?_ _ g ((FW.refl.k (by decide)).k (by decide))))
      unfold leaf
      rw [if_neg (by rw [e1, show (2 : Int32) = nI 2 from rfl, ni_inj (by omega) (by omega)]; omega), e2]
  unfold X12_unit_101
  rw [h.2.1]
  refine ok_pos (Int32.le_refl _) (ok_bindE (asked_ok hw h.1) (ok_bv (ok_ite (fun _ => go _ rfl) (fun z => ok_neg ?_ (go _ rfl)))))
  show ¬ askK (kindC b x) < 0
  rcases askK_cases (kindC b x) with ⟨e, no⟩ | ⟨i, hi, e1, e2⟩
  · exfalso
    rcases hu with h2 | ⟨i, hi, e⟩
    · exact z ((kind2 hw h).mpr h2)
    · exact no i hi e
  · rw [e2]
    exact Int32.not_lt.mpr (ni_nn (by omega))
theorem u_leafX {n : Nat} (hw : TW b k x) (h : RF b k w x out stk own all ρ) (hk : kindC b x = 115 → mayN stk = false) (h40 : kindC b x ≠ 40) (hl : stk.length ≤ 160) (hol : out.length ≤ 320) (ha : all ≤ 80) (ho : own ≤ 30) (hx : ¬ isUnit b x ∨ all = 80 ∨ own = 30)
    (hQ : ∀ ρ', RX w (fcode x 2) x.2.1 ρ' → FW w ρ ρ' → Q ρ') : Ok (X12_unit_2 (n + 2) 1 ρ) Q := by
  have hc := fcode_pos x (v := 2) (by omega) (by omega)
  refine u_53 hw h hk hl ?_
  unfold X12_unit_53
  refine ok_neg (fun e => h40 ((kind40 hw h).mp e)) (ok_bv ?_)
  rw [X12_unit_2]
  refine ok_pos rfl ?_
  have bad : ∀ v : Int32, Ok (X12_unit_133 X12_unit_138 v ρ) Q := by
    intro v
    unfold X12_unit_133 X12_unit_138
    refine ok_bind (rWrong hw h hol) (fun ρ1 q => ok_neg ?_ (ok_some (hQ ρ1 q.1 q.2.1)))
    rw [q.1.1, show (0 : Int32) = nI 0 from rfl, ni_le (by omega) (by omega)]
    omega
  have go : isUnit b x → ∀ v : Int32, Ok (X12_unit_126 (X12_unit_133 X12_unit_138) X12_unit_138 v ρ) Q := by
    intro hu v
    unfold X12_unit_126
    refine ok_bindE (isFull_ok h.2.2.2.2.1 h.2.2.2.2.2 ha ho) ?_
    rw [decide_eq_true (hx.elim (fun e => absurd hu e) id)]
    exact ok_neg one_ne (bad v)
  unfold X12_unit_101
  rw [h.2.1]
  refine ok_pos (Int32.le_refl _) (ok_bindE (asked_ok hw h.1) (ok_bv (ok_ite (fun z => go (.inl ((kind2 hw h).mp z)) _) (fun z => ok_ite (fun _ => bad _) (fun y => go ?_ _)))))
  have y : ¬ askK (kindC b x) < 0 := y
  rcases askK_cases (kindC b x) with ⟨e, no⟩ | ⟨i, hi, e1, e2⟩
  · rw [e] at y
    exact absurd neg1_lt y
  · exact .inr ⟨i, hi, e1⟩
/-! the loop over a formula's signs -/
theorem f_X {n c p : Nat} (h : RX w c p ρ) (h0 : 0 < c) (h5 : c ≤ 5) (hQ : Q ρ) : Ok (X12_formula_40 (n + 1) 1 ρ) Q := by
  have e : ¬ ρ.1 1000 2 = 0 := by
    rw [h.1, show (0 : Int32) = nI 0 from rfl, ni_inj (by omega) (by omega)]
    omega
  rw [X12_formula_40]
  refine ok_neg one_ne (ok_neg e ?_)
  unfold X12_formula_167 X12_formula_186
  exact ok_neg e (ok_neg e (ok_some hQ))
theorem f_bin {n L : Nat} {P O : List Int32} (hb : TB b k) (hw : TW b k x) (hw3 : w < 3) (h1 : x.1 ≠ 1) (h : RF b k w x out (P ++ O) own all ρ) (hs : sgK (kindC b x) ≠ 0) (hL : tgN (sgK (kindC b x)) = L) (h41 : kindC b x ≠ 41) (hP : hiT L P) (hO : lowT L O) (hr : L = 4 → hasRel (P ++ O) = false) (hl : (P ++ O).length < 160) (hol : out.length + P.length < 320) (h2021 : sgK (kindC b x) ≠ 20 ∧ sgK (kindC b x) ≠ 21)
    (hQ : ∀ ρ', RF b k w (nxt b k x.2.2) (out ++ flush P) (sgK (kindC b x) :: O) own all ρ' → FW w ρ ρ' → Ok ((X12_unit_2 fu 1 ρ').bind (X12_formula_40 n 1)) Q) : Ok (X12_formula_40 (n + 1) 1 ρ) Q := by
  have ht := tgN_le (sgK (kindC b x))
  have go : Ok (X12_formula_123 (X12_formula_164 (X12_formula_40 n)) 1 (sgK (kindC b x)) ρ) Q := by
    unfold X12_formula_123
    refine ok_bindE (tight_ok _ ρ) ?_
    show Ok ((X12_close (nI (tgN (sgK (kindC b x)))) ρ).bind _) _
    rw [hL]
    unfold X12_close
    have hlp : P.length ≤ (P ++ O).length := by rw [List.length_append]; omega
    have hlo : O.length ≤ (P ++ O).length := by rw [List.length_append]; omega
    refine ok_bind (close_ok hw3 (by omega) hO P out fu ρ h hP hol (by omega) (by unfold fu; omega)) (fun ρ1 q => ?_)
    rw [q.1.2.2.2.1.1]
    refine ok_pos (ib_t (by omega) (by omega)) (ok_bv (ok_bv ?_))
    rw [ni_cl (by omega), sI_n (by decide), q.1.2.2.2.1.1, ni_succ]
    obtain ⟨g1, g2⟩ := rPush (s := sgK (kindC b x)) q.1
    have g3 : RF b k w x (out ++ flush P) (sgK (kindC b x) :: O) own all (sI (sI ρ1 1009 O.length (sgK (kindC b x))) 1000 20 (nI (O.length + 1))) := by
      refine g1.set20 rfl ⟨by rw [Nat.zero_add]; exact g2, g1.2.2.2.1.2.1⟩ ?_
      show (if sgK (kindC b x) = 20 ∨ sgK (kindC b x) = 21 then 1 else 0) + dpS O = _
      rw [if_neg (fun e => e.elim h2021.1 h2021.2), Nat.zero_add]
    refine ok_bind (rTok_ok hb hw h1 g3) (fun ρ2 q2 => ?_)
    exact hQ ρ2 q2.1 ((q.2.s9.k (by decide)).trans q2.2)
  rw [X12_formula_40]
  refine ok_neg one_ne (ok_pos h.2.1 (ok_bindE (sign_ok hw h.1) (ok_bv (ok_neg ?_ ?_))))
  · show ¬ ρ.1 1000 6 = 41
    rw [h.1.2.2.1]
    exact fun e => h41 ((kind_sort hw (v := 41) (by decide) (by decide) (by decide)).mp e)
  · unfold X12_formula_104
    refine ok_neg hs (ok_bindE (tight_ok _ ρ) (ok_ite (fun z => ?_) (fun _ => go)))
    have z : nI (tgN (sgK (kindC b x))) = nI 4 := z
    rw [ni_inj (by omega) (by omega)] at z
    refine ok_bindE (hasRelation_ok h.2.2.2.1 (by omega)) ?_
    rw [hr (by omega)]
    exact ok_pos rfl go
theorem f_close {n : Nat} {P O : List Int32} (hb : TB b k) (hw : TW b k x) (hw3 : w < 3) (h : RF b k w x out (P ++ 20 :: O) own all ρ) (h41 : kindC b x = 41) (hP : hiT 0 P) (hl : (P ++ 20 :: O).length < 160) (hol : out.length + P.length < 320)
    (hQ : ∀ ρ', RF b k w (nxt b k x.2.2) (out ++ flush P) O own all ρ' → FW w ρ ρ' → Ok (X12_formula_40 n 1 ρ') Q) : Ok (X12_formula_40 (n + 1) 1 ρ) Q := by
  have h1 : x.1 = 41 := (kindC_low hw (v := 41) (by decide) (by decide)).mp h41
  have hB : hasB (P ++ 20 :: O) = true := by
    unfold hasB
    rw [List.any_append]
    simp
  rw [X12_formula_40]
  refine ok_neg one_ne (ok_pos h.2.1 (ok_bindE (sign_ok hw h.1) (ok_bv (ok_pos ?_ (ok_bindE (hasBracket_ok h.2.2.2.1 (by omega)) ?_)))))
  · show ρ.1 1000 6 = 41
    rw [h.1.2.2.1]
    exact (kind_sort hw (v := 41) (by decide) (by decide) (by decide)).mpr h41
  rw [hB]
  have hlp : P.length ≤ (P ++ 20 :: O).length := by rw [List.length_append]; omega
  refine ok_neg one_ne ?_
  unfold X12_close
  refine ok_bind (close_ok hw3 (L := 0) (O := 20 :: O) (by omega) (show lowT 0 (20 :: O) from Or.inl rfl) P out fu ρ h hP hol (by omega) (by unfold fu; omega)) (fun ρ1 q => ok_bv (ok_bv ?_))
  have e20 : ρ1.1 1000 20 = nI (O.length + 1) := q.1.2.2.2.1.1
  have e24 : ρ1.1 1000 24 = nI (1 + dpS O) := q.1.2.2.2.1.2.2
  rw [sI_k (by decide), e20, e24, ni_pred, Nat.add_comm, ni_pred]
  have g : RF b k w x (out ++ flush P) O own all (sI (sI ρ1 1000 20 (nI O.length)) 1000 24 (nI (dpS O))) := q.1.set2024 rfl q.1.2.2.2.1.2.1.2 rfl
  refine ok_bind (rTok_ok hb hw (by omega) g) (fun ρ2 q2 => ?_)
  exact hQ ρ2 q2.1 (((q.2.k (by decide)).k (by decide)).trans q2.2)
/-- nothing goes on: the loop ends -/
theorem f_stop {n : Nat} (hw : TW b k x) (h : RF b k w x out stk own all ρ) (h41 : kindC b x = 41 → hasB stk = false) (hs : sgK (kindC b x) = 0 ∨ (tgN (sgK (kindC b x)) = 4 ∧ hasRel stk = true)) (hl : stk.length < 160)
    (hQ : Ok (X12_formula_167 ρ) Q) : Ok (X12_formula_40 (n + 2) 1 ρ) Q := by
  have e0 : Ok (X12_formula_40 (n + 1) 0 ρ) Q := by
    rw [X12_formula_40]
    exact ok_pos rfl hQ
  have go : Ok (X12_formula_104 (X12_formula_164 (X12_formula_40 (n + 1))) 1 (sgK (kindC b x)) ρ) Q := by
    unfold X12_formula_104 X12_formula_162 X12_formula_164
    refine ok_ite (fun _ => e0) (fun z => ok_bindE (tight_ok _ ρ) ?_)
    rcases hs with hs | ⟨h4, hr⟩
    · exact absurd hs z
    · show Ok (if nI (tgN (sgK (kindC b x))) = 4 then _ else _) _
      rw [h4]
      refine ok_pos rfl (ok_bindE (hasRelation_ok h.2.2.2.1 (by omega)) ?_)
      rw [hr]
      exact ok_neg one_ne e0
  rw [X12_formula_40]
  refine ok_neg one_ne (ok_pos h.2.1 (ok_bindE (sign_ok hw h.1) (ok_bv (ok_ite (fun z => ok_bindE (hasBracket_ok h.2.2.2.1 (by omega)) ?_) (fun _ => go)))))
  have z : ρ.1 1000 6 = 41 := z
  rw [h.1.2.2.1] at z
  rw [h41 ((kind_sort hw (v := 41) (by decide) (by decide) (by decide)).mp z)]
  exact ok_pos rfl go
theorem f_endX (hw : TW b k x) (h : RF b k w x out stk own all ρ) (hB : hasB stk = true) (hl : stk.length < 160) (hol : out.length ≤ 320) (hQ : ∀ ρ', RX w (fcode x 2) x.2.1 ρ' → FW w ρ ρ' → Q ρ') : Ok (X12_formula_167 ρ) Q := by
  have hc := fcode_pos x (v := 2) (by omega) (by omega)
  unfold X12_formula_167
  refine ok_pos h.2.1 (ok_bindE (hasBracket_ok h.2.2.2.1 (by omega)) ?_)
  rw [hB]
  refine ok_neg one_ne (ok_bind (rWrong hw h hol) (fun ρ1 q => ?_))
  unfold X12_formula_186
  refine ok_neg ?_ (ok_some (hQ ρ1 q.1 q.2.1))
  rw [q.1.1, show (0 : Int32) = nI 0 from rfl, ni_inj (by omega) (by omega)]
  omega
theorem f_end (hw3 : w < 3) (h : RF b k w x out stk own all ρ) (hB : hasB stk = false) (hl : stk.length < 160) (hol : out.length + stk.length < 320) (hQ : ∀ ρ', RF b k w x (out ++ flush stk) [] own all ρ' → FW w ρ ρ' → Q ρ') : Ok (X12_formula_167 ρ) Q := by
  unfold X12_formula_167
  refine ok_pos h.2.1 (ok_bindE (hasBracket_ok h.2.2.2.1 (by omega)) ?_)
  rw [hB]
  refine ok_pos rfl ?_
  unfold X12_formula_186 X12_close
  refine ok_pos h.2.1 (ok_bind (close_ok hw3 (L := 0) (O := []) (by omega) trivial stk out fu ρ (by rw [List.append_nil]; exact h) (fun s hs => ⟨fun e => ?_, by omega⟩) hol (by rw [List.append_nil]; omega) (by unfold fu; omega)) (fun ρ1 q => ok_some (hQ ρ1 q.1 q.2)))
  unfold hasB at hB
  rw [List.any_eq_false] at hB
  exact hB s hs (decide_eq_true e)
end Steps
