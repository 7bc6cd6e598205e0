/-! town: a whole formula -/
section Form
variable {b : Nat → Nat} {k u f w : Nat}
theorem lp_readTerm {d : Nat} {R : Nat → Nat → Int32 → Mem → Option Mem} : LpE f 6 (R 5 f (nI d)) (fun n i σ => X5_readTerm_8 R f n (nI d) i σ) := by
  refine ⟨fun n i σ hi h5 hs ht => ?_, fun n i σ hi h5 hs => ?_, fun n i σ hi h5 => ?_⟩
  · show X5_readTerm_8 R f (n + 1) (nI d) (nI i) σ = _
    rw [X5_readTerm_8, if_neg (by rw [show (1600 : Int32) = nI 1600 from rfl, ni_le (by omega) (by omega)]; omega)]
    have em : X5_readTerm_42 R f (X5_readTerm_8 R f n) (nI d) (nI i) σ = ((X9_next σ).bind fun σ1 => (R 5 f (nI d) σ1).bind fun σ2 => X2_addOperation f (σ.1 3 2) σ2).bind fun σ3 => X5_readTerm_8 R f n (nI d) (nI (i + 1)) σ3 := by
      unfold X5_readTerm_42
      rw [bv_eq, Option.bind_assoc]
      congr 1
      funext τ
      rw [Option.bind_assoc]
      congr 1
      funext τ'
      congr 1
      funext τ''
      rw [bv_eq, ni_succ]
    rcases sg6 hs ht with e | e | e
    · rw [isAt_ok h5, Option.bind_some]
      rw [decide_eq_true e, if_neg (show ¬ tr true = 0 from one_ne)]
      exact em
    · rw [isAt_ok h5, Option.bind_some]
      rw [decide_eq_false (show ¬ σ.1 3 2 = 42 by rw [e]; decide), if_pos (show tr false = 0 from rfl), isAt_ok h5, Option.bind_some]
      rw [decide_eq_true e, if_neg (show ¬ tr true = 0 from one_ne)]
      exact em
    · rw [isAt_ok h5, Option.bind_some]
      rw [decide_eq_false (show ¬ σ.1 3 2 = 42 by rw [e]; decide), if_pos (show tr false = 0 from rfl), isAt_ok h5, Option.bind_some]
      rw [decide_eq_false (show ¬ σ.1 3 2 = 47 by rw [e]; decide), if_pos (show tr false = 0 from rfl), isAt_ok h5, Option.bind_some]
      rw [decide_eq_true e, if_neg (show ¬ tr true = 0 from one_ne)]
      exact em
  · show X5_readTerm_8 R f (n + 1) (nI d) (nI i) σ = _
    rw [X5_readTerm_8, if_neg (by rw [show (1600 : Int32) = nI 1600 from rfl, ni_le (by omega) (by omega)]; omega)]
    have z42 : ¬ σ.1 3 2 = 42 := fun e => hs (by rw [e]; decide)
    rw [isAt_ok h5, Option.bind_some, decide_eq_false z42, if_pos (show tr false = 0 from rfl)]
    have z47 : ¬ σ.1 3 2 = 47 := fun e => hs (by rw [e]; decide)
    rw [isAt_ok h5, Option.bind_some, decide_eq_false z47, if_pos (show tr false = 0 from rfl)]
    have z37 : ¬ σ.1 3 2 = 37 := fun e => hs (by rw [e]; decide)
    rw [isAt_ok h5, Option.bind_some, decide_eq_false z37, if_pos (show tr false = 0 from rfl)]
  · show X5_readTerm_8 R f (n + 1) (nI d) (nI i) σ = _
    rw [X5_readTerm_8, if_neg (by rw [show (1600 : Int32) = nI 1600 from rfl, ni_le (by omega) (by omega)]; omega)]
    rw [isAtB_ok h5, Option.bind_some, if_pos (show (0 : Int32) = 0 from rfl)]
    rw [isAtB_ok h5, Option.bind_some, if_pos (show (0 : Int32) = 0 from rfl)]
    rw [isAtB_ok h5, Option.bind_some, if_pos (show (0 : Int32) = 0 from rfl)]
theorem lp_readSum {d : Nat} {R : Nat → Nat → Int32 → Mem → Option Mem} : LpE f 5 (R 4 f (nI d)) (fun n i σ => X5_readSum_8 R f n (nI d) i σ) := by
  refine ⟨fun n i σ hi h5 hs ht => ?_, fun n i σ hi h5 hs => ?_, fun n i σ hi h5 => ?_⟩
  · show X5_readSum_8 R f (n + 1) (nI d) (nI i) σ = _
    rw [X5_readSum_8, if_neg (by rw [show (1600 : Int32) = nI 1600 from rfl, ni_le (by omega) (by omega)]; omega)]
    have em : X5_readSum_33 R f (X5_readSum_8 R f n) (nI d) (nI i) σ = ((X9_next σ).bind fun σ1 => (R 4 f (nI d) σ1).bind fun σ2 => X2_addOperation f (σ.1 3 2) σ2).bind fun σ3 => X5_readSum_8 R f n (nI d) (nI (i + 1)) σ3 := by
      unfold X5_readSum_33
      rw [bv_eq, Option.bind_assoc]
      congr 1
      funext τ
      rw [Option.bind_assoc]
      congr 1
      funext τ'
      congr 1
      funext τ''
      rw [bv_eq, ni_succ]
    rcases sg5 hs ht with e | e
    · rw [isAt_ok h5, Option.bind_some]
      rw [decide_eq_true e, if_neg (show ¬ tr true = 0 from one_ne)]
      exact em
    · rw [isAt_ok h5, Option.bind_some]
      rw [decide_eq_false (show ¬ σ.1 3 2 = 43 by rw [e]; decide), if_pos (show tr false = 0 from rfl), isAt_ok h5, Option.bind_some]
      rw [decide_eq_true e, if_neg (show ¬ tr true = 0 from one_ne)]
      exact em
  · show X5_readSum_8 R f (n + 1) (nI d) (nI i) σ = _
    rw [X5_readSum_8, if_neg (by rw [show (1600 : Int32) = nI 1600 from rfl, ni_le (by omega) (by omega)]; omega)]
    have z43 : ¬ σ.1 3 2 = 43 := fun e => hs (by rw [e]; decide)
    rw [isAt_ok h5, Option.bind_some, decide_eq_false z43, if_pos (show tr false = 0 from rfl)]
    have z45 : ¬ σ.1 3 2 = 45 := fun e => hs (by rw [e]; decide)
    rw [isAt_ok h5, Option.bind_some, decide_eq_false z45, if_pos (show tr false = 0 from rfl)]
  · show X5_readSum_8 R f (n + 1) (nI d) (nI i) σ = _
    rw [X5_readSum_8, if_neg (by rw [show (1600 : Int32) = nI 1600 from rfl, ni_le (by omega) (by omega)]; omega)]
    rw [isAtB_ok h5, Option.bind_some, if_pos (show (0 : Int32) = 0 from rfl)]
    rw [isAtB_ok h5, Option.bind_some, if_pos (show (0 : Int32) = 0 from rfl)]
theorem lp_readBoth {d : Nat} {R : Nat → Nat → Int32 → Mem → Option Mem} : LpE f 2 (R 2 f (nI d)) (fun n i σ => X5_readBoth_8 R f n (nI d) i σ) := by
  refine ⟨fun n i σ hi h5 hs ht => ?_, fun n i σ hi h5 hs => ?_, fun n i σ hi h5 => ?_⟩
  · show X5_readBoth_8 R f (n + 1) (nI d) (nI i) σ = _
    rw [X5_readBoth_8, if_neg (by rw [show (1600 : Int32) = nI 1600 from rfl, ni_le (by omega) (by omega)]; omega)]
    have e := sg2 hs ht
    rw [isAt_ok h5, Option.bind_some, decide_eq_true e, if_neg (show ¬ tr true = 0 from one_ne), e, Option.bind_assoc]
    congr 1
    funext τ
    rw [Option.bind_assoc]
    congr 1
    funext τ'
    congr 1
    funext τ''
    rw [bv_eq, ni_succ]
  · show X5_readBoth_8 R f (n + 1) (nI d) (nI i) σ = _
    rw [X5_readBoth_8, if_neg (by rw [show (1600 : Int32) = nI 1600 from rfl, ni_le (by omega) (by omega)]; omega)]
    have z114 : ¬ σ.1 3 2 = 114 := fun e => hs (by rw [e]; decide)
    rw [isAt_ok h5, Option.bind_some, decide_eq_false z114, if_pos (show tr false = 0 from rfl)]
  · show X5_readBoth_8 R f (n + 1) (nI d) (nI i) σ = _
    rw [X5_readBoth_8, if_neg (by rw [show (1600 : Int32) = nI 1600 from rfl, ni_le (by omega) (by omega)]; omega)]
    rw [isAtB_ok h5, Option.bind_some, if_pos (show (0 : Int32) = 0 from rfl)]
theorem lp_readWhole {d : Nat} {R : Nat → Nat → Int32 → Mem → Option Mem} : LpE f 1 (R 1 f (nI d)) (fun n i σ => X5_readWhole_8 R f n (nI d) i σ) := by
  refine ⟨fun n i σ hi h5 hs ht => ?_, fun n i σ hi h5 hs => ?_, fun n i σ hi h5 => ?_⟩
  · show X5_readWhole_8 R f (n + 1) (nI d) (nI i) σ = _
    rw [X5_readWhole_8, if_neg (by rw [show (1600 : Int32) = nI 1600 from rfl, ni_le (by omega) (by omega)]; omega)]
    have e := sg1 hs ht
    rw [isAt_ok h5, Option.bind_some, decide_eq_true e, if_neg (show ¬ tr true = 0 from one_ne), e, Option.bind_assoc]
    congr 1
    funext τ
    rw [Option.bind_assoc]
    congr 1
    funext τ'
    congr 1
    funext τ''
    rw [bv_eq, ni_succ]
  · show X5_readWhole_8 R f (n + 1) (nI d) (nI i) σ = _
    rw [X5_readWhole_8, if_neg (by rw [show (1600 : Int32) = nI 1600 from rfl, ni_le (by omega) (by omega)]; omega)]
    have z113 : ¬ σ.1 3 2 = 113 := fun e => hs (by rw [e]; decide)
    rw [isAt_ok h5, Option.bind_some, decide_eq_false z113, if_pos (show tr false = 0 from rfl)]
  · show X5_readWhole_8 R f (n + 1) (nI d) (nI i) σ = _
    rw [X5_readWhole_8, if_neg (by rw [show (1600 : Int32) = nI 1600 from rfl, ni_le (by omega) (by omega)]; omega)]
    rw [isAtB_ok h5, Option.bind_some, if_pos (show (0 : Int32) = 0 from rfl)]
theorem rd_ok (hb : TB b k) (hu : u = 7 ∨ u = 124) (hf : u < f) (hw3 : w < 3) : ∀ e d, d ≤ 7 →
    (6 * (8 - d) ≤ e → Lv b k u f w 1 1 (1 + d) d (C_rd e 0 f (nI d))) ∧ (6 * (8 - d) ≤ e + 1 → Lv b k u f w 2 2 (1 + d) d (C_rd e 1 f (nI d))) ∧ (6 * (8 - d) ≤ e + 2 → Lv b k u f w 4 3 (1 + d) d (C_rd e 2 f (nI d))) ∧
    (6 * (8 - d) ≤ e + 3 → Lv b k u f w 5 5 8 d (C_rd e 3 f (nI d))) ∧ (6 * (8 - d) ≤ e + 4 → Lv b k u f w 6 6 8 d (C_rd e 4 f (nI d))) ∧ (6 * (8 - d) ≤ e + 5 → Lv b k u f w 7 7 8 d (C_rd e 5 f (nI d)))
  | 0, d, hd => by
    refine ⟨fun h => ?_, fun h => ?_, fun h => ?_, fun h => ?_, fun h => ?_, fun h => ?_⟩
    all_goals omega
  | e + 1, d, hd => by
    have hu3 : 3 < u := by omega
    have ih := rd_ok hb hu hf hw3 e d hd
    have ih' : d ≤ 6 → _ := fun h => rd_ok hb hu hf hw3 e (d + 1) (by omega)
    refine ⟨fun h => ?_, fun h => ?_, fun h => ?_, fun h => ?_, fun h => ?_, fun h => ?_⟩
    · have e0 : C_rd (e + 1) 0 f (nI d) = fun σ => (C_rd e 1 f (nI d) σ).bind fun σ1 => X5_readWhole_8 (C_rd e) f fu (nI d) (nI 0) σ1 := by
        funext σ
        rw [C_rd, if_pos rfl]
        rfl
      rw [e0]
      exact lv_loop hb hu3 hf hw3 (by omega) lp_readWhole (ih.2.1 (by omega)) (by omega) (by omega) (by omega) (by omega)
    · have e0 : C_rd (e + 1) 1 f (nI d) = fun σ => (C_rd e 2 f (nI d) σ).bind fun σ1 => X5_readBoth_8 (C_rd e) f fu (nI d) (nI 0) σ1 := by
        funext σ
        rw [C_rd, if_neg (by decide), if_pos rfl]
        rfl
      rw [e0]
      exact lv_loop hb hu3 hf hw3 (by omega) lp_readBoth (ih.2.2.1 (by omega)) (by omega) (by omega) (by omega) (by omega)
    · have e0 : C_rd (e + 1) 2 f (nI d) = X5_readOne (C_rd e) f (nI d) := by
        funext σ
        rw [C_rd, if_neg (by decide), if_neg (by decide), if_pos rfl]
      rw [e0]
      exact lv_one hb hu hf hw3 hd (ih.2.2.2.1 (by omega)) (fun h6 => (ih' h6).2.2.1 (by omega))
    · have e0 : C_rd (e + 1) 3 f (nI d) = fun σ => (C_rd e 4 f (nI d) σ).bind fun σ1 => X5_readSum_8 (C_rd e) f fu (nI d) (nI 0) σ1 := by
        funext σ
        rw [C_rd, if_neg (by decide), if_neg (by decide), if_neg (by decide), if_pos rfl]
        rfl
      rw [e0]
      exact lv_loop hb hu3 hf hw3 (by omega) lp_readSum (ih.2.2.2.2.1 (by omega)) (by omega) (by omega) (by omega) (by omega)
    · have e0 : C_rd (e + 1) 4 f (nI d) = fun σ => (C_rd e 5 f (nI d) σ).bind fun σ1 => X5_readTerm_8 (C_rd e) f fu (nI d) (nI 0) σ1 := by
        funext σ
        rw [C_rd, if_neg (by decide), if_neg (by decide), if_neg (by decide), if_neg (by decide), if_pos rfl]
        rfl
      rw [e0]
      exact lv_loop hb hu3 hf hw3 (by omega) lp_readTerm (ih.2.2.2.2.2 (by omega)) (by omega) (by omega) (by omega) (by omega)
    · have e0 : C_rd (e + 1) 5 f (nI d) = X5_readUnit (C_rd e) f (nI d) := by
        funext σ
        rw [C_rd, if_neg (by decide), if_neg (by decide), if_neg (by decide), if_neg (by decide), if_neg (by decide)]
      rw [e0]
      exact lv_unit hb hu hf hw3 hd (fun h6 => (ih' h6).1 (by omega))
/-- what a formula that was read well is -/
def okP (pr : Pg) : Prop := wf pr 0 ∧ dpE pr 0 = 1 ∧ pr.length ≤ 270 ∧ (pos pr 0).length ≤ 30
def LFf (f : Nat) : List Nat := [3, f + 1, f + 2, f + 4]
def KFf (u f : Nat) : List (Nat × Nat) := [(2, 4), (2, 5), (2, 6), (u, 14), (f, 4), (f, 5), (f, 6), (f, 7)]
theorem form_ok {x : Tk} {all : Nat} {σ : Mem} (hb : TB b k) (hu : u = 7 ∨ u = 124) (hf : u < f) (hw3 : w < 3) (hw : TW b k x) (hx3 : x.1 = 3) (ha : all ≤ 80)
    (h : CTok b k x σ) (h25 : σ.1 2 5 = 0) (h23 : σ.1 2 3 = nI u) (hall : σ.1 u 14 = nI all) (f4 : σ.1 f 4 = 0) (f5 : σ.1 f 5 = 0) (f6 : σ.1 f 6 = 0) (f7 : σ.1 f 7 = 0) :
    Ok (X5_readFormula f σ) (fun σ' => Fr (LFf f) (KFf u f) σ σ' ∧
      ((∃ x' pr own all', CF b k u f x' pr own all' σ' ∧ σ'.1 f 5 = 1 ∧ TW b k x' ∧ x.2.1 < x'.2.1 ∧ all' ≤ 80 ∧ okP pr ∧ ∀ ρ, RTok b k x ρ → ρ.1 1000 2 = 0 → ρ.1 1000 21 = nI all → Ok (X12_formula (nI w) ρ) (fun ρ' => RF b k w x' pr [] own all' ρ' ∧ FW w ρ ρ')) ∨
       (∃ c p, CX f c p σ' ∧ 0 < c ∧ c ≤ 5 ∧ ∀ ρ, RTok b k x ρ → ρ.1 1000 2 = 0 → ρ.1 1000 21 = nI all → Ok (X12_formula (nI w) ρ) (fun ρ' => RX w c p ρ' ∧ FW w ρ ρ')))) := by
  have hu3 : 3 < u := by omega
  have hk := hb.1
  unfold X5_readFormula
  refine ok_pos f5 (ok_bv (ok_bv ?_))
  have e0 : CF b k u f x [] 0 all (sI (sI σ f 5 1) 2 4 0) := by
    refine ⟨(h.o (by omega) (by omega)).o (by decide) (by decide), ?_, ?_, sI_e _ _ _ _, ?_, ⟨?_, fun i hi => ?_⟩, ?_, ?_, fun j hj => ?_⟩
    · rw [sI_k (by decide), sI_n (by omega)]
      exact h25
    · rw [sI_k (by decide), sI_n (by omega)]
      exact h23
    · rw [sI_n (by omega), sI_n (by omega)]
      exact hall
    · rw [sI_n (by omega), sI_k (by decide)]
      exact f4
    · simp at hi
    · rw [sI_n (by omega), sI_k (by decide)]
      exact f6
    · rw [sI_n (by omega), sI_k (by decide)]
      exact f7
    · simp [pos] at hj
  have r0 : Fr (LFf f) (KFf u f) σ (sI (sI σ f 5 1) 2 4 0) := frIk (frIk Fr.refl (.inl (by unfold KFf; simp))) (.inl (by unfold KFf; simp))
  have s0 : (sI (sI σ f 5 1) 2 4 0).1 f 5 = 1 := by rw [sI_n (by omega), sI_e]
  generalize sI (sI σ f 5 1) 2 4 0 = σ0 at *
  have up : ∀ {τ τ' : Mem}, Fr (LFc f) (KFc u f) τ τ' → Fr (LFf f) (KFf u f) τ τ' ∧ τ'.1 f 5 = τ.1 f 5 := fun g => ⟨g.mono (by unfold LFc LFf; simp) (by unfold KFc KFf; simp), g.1 f 5 (by unfold LFc; simp; omega) (by unfold KFc; simp; omega)⟩
  refine ok_bind (cNext hb hu3 hf hw e0) (fun σ1 q1 => ?_)
  have hn := nxt_wf (b := b) (k := k) hw.2.1
  have hst := hw.2.2.1 (by omega)
  obtain ⟨x1, hx1e⟩ : ∃ y, y = nxt b k x.2.2 := ⟨_, rfl⟩
  rw [← hx1e] at q1 hn
  have hx1 : x1.2.1 ≤ 1600 := by have := hn.1.1; have := hn.1.2.1; omega
  refine ok_bind ((rd_ok hb hu hf hw3 100 0 (by omega)).1 (by omega) σ1 x1 [] 0 all [] q1.1 hn.1 ⟨by omega, ha, Nat.le_refl _, Nat.le_refl _⟩ rfl (Nat.le_refl _) trivial (fun e => absurd e (by decide))) (fun σ2 q2 => ok_some ?_)
  have hM : ∀ ρ, RTok b k x ρ → ρ.1 1000 2 = 0 → ρ.1 1000 21 = nI all → ∀ Q, (∀ ρ', RF b k w x1 [] [] 0 all ρ' → FW w ρ ρ' → Su x1 ρ' Q) → Ok (X12_formula (nI w) ρ) Q := by
    intro ρ r1 r2 r3 Q hQ
    unfold X12_formula
    refine ok_bind (ok_fr (tokenM_ok hb r1.1 hw.2.1 (r1.2.2.2.1 (by omega))) (fr_X12_token ρ Fr.refl)) (fun ρ1 g => ?_)
    have e : ∀ c, c ∉ KF → ρ1.1 1000 c = ρ.1 1000 c := fun c hc => (FW.refl (w := w).tk g.2 g.1.2).1 1000 c (by decide) (by decide) (by decide) (by decide) (by decide) (fun _ => hc)
    have e2 : ρ1.1 1000 2 = 0 := (g.2.1 1000 2 (by decide) (by decide)).trans r2
    have e21 : ρ1.1 1000 21 = nI all := (g.2.1 1000 21 (by decide) (by decide)).trans r3
    refine ok_bv ?_
    rw [sI_e, ni_cl (by omega)]
    refine ok_pos (ib_t hw3 (by omega)) (ok_bv (ok_bv (ok_bv (ok_bv ?_))))
    have hF : RF b k w x1 [] [] 0 all (sI (sI (sI (sI (sI ρ1 1000 19 (nI w)) 1005 w 0) 1000 20 0) 1000 24 0) 1000 23 0) := by
      rw [hx1e]
      refine ⟨((((g.1.1.k (by decide)).o (by decide) (by decide)).k (by decide)).k (by decide)).k (by decide), ?_, ⟨?_, ?_, fun i hi => ?_⟩, ⟨?_, trivial, ?_⟩, ?_, sI_e _ _ _ _⟩
      · rw [sI_k (by decide), sI_k (by decide), sI_k (by decide), sI_n (by decide), sI_k (by decide)]
        exact e2
      · rw [sI_k (by decide), sI_k (by decide), sI_k (by decide), sI_n (by decide), sI_e]
      · rw [sI_n (by decide), sI_n (by decide), sI_n (by decide), sI_e]
        rfl
      · simp at hi
      · rw [sI_k (by decide), sI_k (by decide), sI_e]
        rfl
      · rw [sI_k (by decide), sI_e]
        rfl
      · rw [sI_k (by decide), sI_k (by decide), sI_k (by decide), sI_n (by decide), sI_k (by decide)]
        exact e21
    have hW : FW w ρ (sI (sI (sI (sI (sI ρ1 1000 19 (nI w)) 1005 w 0) 1000 20 0) 1000 24 0) 1000 23 0) := by
      have w1 : FW w ρ (sI ρ1 1000 19 (nI w)) := (FW.refl.tk g.2 g.1.2).k (by decide)
      have w2 : FW w ρ (sI (sI ρ1 1000 19 (nI w)) 1005 w 0) := by
        refine ⟨fun a c h0 h1 h2 h3 h4 h5 => ?_, fun a c h1 h2 => ?_, fun c h1 => ?_, w1.2.2.2⟩
        · rw [sI_n h3]
          exact w1.1 a c h0 h1 h2 h3 h4 h5
        · rw [sI_n (by omega)]
          exact w1.2.1 a c h1 h2
        · rw [sI_k h1]
          exact w1.2.2.1 c h1
      exact ((w2.k (by decide)).k (by decide)).k (by decide)
    unfold X12_unit
    exact hQ _ hF hW fu fu (by unfold fu; omega) (by unfold fu; omega)
  rcases q2 with ⟨qf, ⟨x2, q, M, P, own2, all2, ⟨c1, c2, c3, c4, c5, c6, c7, c8, c9, c10, c11, c12⟩, st⟩ | ⟨c, p, hX, h0, h5, run⟩⟩
  · have hq := c7.2.2.1
    have hl := lenMP c8
    rw [List.append_nil] at c10 c11
    rw [List.nil_append] at c1 c8
    have hwf := c7.1 0 (by omega)
    refine ⟨r0.trans ((up q1.2).1.trans (up qf).1), .inl ⟨x2, q, own2, all2, c1, ?_, c2, by omega, c6, ⟨hwf.1, hwf.2, by omega, by have := c7.2.1; omega⟩, fun ρ r1 r2 r3 => ?_⟩⟩
    · rw [(up qf).2, (up q1.2).2]
      exact s0
    · refine hM ρ r1 r2 r3 _ (fun ρ1 e1 e2 => c12 ρ1 _ e1 (fun ρ2 e3 e4 n hn' => ?_))
      have hx2 : x2.2.1 ≤ 1600 := by have := c2.1; have := c2.2.1; omega
      obtain ⟨n, rfl⟩ : ∃ j, n = j + 2 := ⟨n - 2, by omega⟩
      rw [List.append_nil] at e3
      have hB : hasB P = false := by
        unfold hasB
        rw [List.any_eq_false]
        intro s hs e
        exact (c9 s hs).1 (of_decide_eq_true e)
      have hl0 : M.length + P.length = q.length := by rw [hl]; exact Nat.zero_add _
      refine f_stop c2 e3 (fun _ => hB) ?_ (by omega) (f_end hw3 e3 hB (by omega) (by omega) (fun ρ3 e5 e6 => ⟨?_, (e2.trans e4).trans e6⟩))
      · by_cases zs : sgK (kindC b x2) = 0
        · exact .inl zs
        · rcases st zs with g | g
          · have := tgN_le (sgK (kindC b x2))
            omega
          · exact .inr g
      · rw [c8]
        exact e5
  · refine ⟨r0.trans ((up q1.2).1.trans (up qf).1), .inr ⟨c, p, hX, h0, h5, fun ρ r1 r2 r3 => ?_⟩⟩
    exact hM ρ r1 r2 r3 _ (fun ρ1 e1 e2 => run ρ1 _ e1 (fun ρ2 e3 e4 => ⟨e3, e2.trans e4⟩))
end Form
