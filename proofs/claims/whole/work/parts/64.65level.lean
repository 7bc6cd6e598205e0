/-! town: class and reference go through a formula side by side -/
theorem wfA : ∀ (p q : Pg) (d : Nat), wf (p ++ q) d ↔ wf p d ∧ wf q (dpE p d)
  | [], q, d => by
    show wf q d ↔ True ∧ wf q d
    simp
  | c :: r, q, d => by
    have := wfA r q (dp1 c d)
    show (okC c ∧ (c.1 = 2 → 1 ≤ d) ∧ (c.1 = 3 → 2 ≤ d) ∧ dp1 c d ≤ 30 ∧ wf (r ++ q) (dp1 c d)) ↔ (okC c ∧ (c.1 = 2 → 1 ≤ d) ∧ (c.1 = 3 → 2 ≤ d) ∧ dp1 c d ≤ 30 ∧ wf r (dp1 c d)) ∧ wf q (dpE r (dp1 c d))
    rw [this]
    simp only [and_assoc]
theorem dpEA (p q : Pg) (d : Nat) : dpE (p ++ q) d = dpE q (dpE p d) := by
  unfold dpE
  rw [List.foldl_append]
def Ck (q : Pg) (n c : Nat) : Prop := (∀ d, d + n ≤ 30 → wf q d ∧ dpE q d = d + 1) ∧ (pos q 0).length ≤ n ∧ q.length + c ≤ 9 * n ∧ 1 ≤ n
theorem posA (p q : Pg) : (pos (p ++ q) 0).length = (pos p 0).length + (pos q 0).length := by
  rw [pos_append, List.length_append, pos_len q, pos_len q 0]
theorem Ck.mono {q : Pg} {n c n' c' : Nat} (h : Ck q n c) (hn : n ≤ n') (hc : q.length + c' ≤ 9 * n') : Ck q n' c' :=
  ⟨fun d hd => h.1 d (by omega), by have := h.2.1; omega, hc, by have := h.2.2.2; omega⟩
def isOp (s : Int32) : Prop := s = 43 ∨ s = 45 ∨ s = 42 ∨ s = 47 ∨ s = 37 ∨ s = 60 ∨ s = 62 ∨ s = 61 ∨ s = 38 ∨ s = 124
theorem Ck.bin {q r : Pg} {n m c : Nat} {s : Int32} (h : Ck q n c) (g : Ck r m c) (hc : 1 ≤ c) (hs : isOp s) : Ck (q ++ r ++ [(3, s)]) (n + m) c := by
  have h4 := h.2.2.2
  have g4 := g.2.2.2
  refine ⟨fun d hd => ?_, ?_, ?_, by omega⟩
  · obtain ⟨a1, a2⟩ := h.1 d (by omega)
    obtain ⟨b1, b2⟩ := g.1 (d + 1) (by omega)
    rw [wfA, wfA, dpEA, dpEA, dpEA, a2, b2]
    refine ⟨⟨⟨a1, b1⟩, .inr (.inr (.inr ⟨rfl, hs⟩)), fun _ => by omega, fun _ => by omega, ?_, trivial⟩, ?_⟩
    · show d + 1 + 1 - 1 ≤ 30
      omega
    · show d + 1 + 1 - 1 = d + 1
      omega
  · rw [posA, posA]
    have e : (pos [((3 : Int32), s)] 0).length = 0 := rfl
    have := h.2.1
    have := g.2.1
    omega
  · rw [List.length_append, List.length_append, List.length_singleton]
    have := h.2.2.1
    have := g.2.2.1
    omega
theorem Ck.not {q : Pg} {n c : Nat} (h : Ck q n (c + 1)) : Ck (q ++ [(2, 0)]) n c := by
  refine ⟨fun d hd => ?_, ?_, ?_, h.2.2.2⟩
  · obtain ⟨a1, a2⟩ := h.1 d hd
    have := h.2.2.2
    rw [wfA, dpEA, a2]
    refine ⟨⟨a1, .inr (.inr (.inl ⟨rfl, rfl⟩)), fun _ => by omega, fun e => absurd e (by decide), ?_, trivial⟩, ?_⟩
    · show d + 1 ≤ 30
      omega
    · rfl
  · rw [posA]
    have e : (pos [((2 : Int32), (0 : Int32))] 0).length = 0 := rfl
    have := h.2.1
    omega
  · rw [List.length_append, List.length_singleton]
    have := h.2.2.1
    omega
theorem Ck_leaf {b : Nat → Nat} {x : Tk} (h : isUnit b x) : Ck [leaf b x] 1 8 := by
  have go : ∀ c : Int32 × Int32, okC c → (c.1 = 0 ∨ c.1 = 1) → Ck [c] 1 8 := fun c hc h01 => by
    refine ⟨fun d hd => ⟨⟨hc, fun e => ?_, fun e => ?_, ?_, trivial⟩, ?_⟩, ?_, Nat.le_refl _, Nat.le_refl _⟩
    · rcases h01 with h | h <;> (rw [h] at e; exact absurd e (by decide))
    · rcases h01 with h | h <;> (rw [h] at e; exact absurd e (by decide))
    · show dp1 c d ≤ 30
      unfold dp1
      rw [if_pos h01]
      exact hd
    · show dp1 c d = d + 1
      unfold dp1
      rw [if_pos h01]
    · unfold pos pos
      split <;> simp
  unfold leaf
  by_cases z : kindC b x = 2
  · rw [if_pos z]
    exact go _ (.inl rfl) (.inl rfl)
  · rw [if_neg z]
    rcases askK_cases (kindC b x) with ⟨_, no⟩ | ⟨g, hg, _, e2⟩
    · rcases h with h | ⟨g, hg, e⟩
      · exact absurd h z
      · exact absurd e (no g hg)
    · rw [e2]
      exact go _ (.inr (.inl ⟨rfl, ni_nn (by omega), (ni_le (a := g) (b := 6) (by omega) (by omega)).mpr (by omega)⟩)) (.inr rfl)
/-! signs -/
theorem sgK_op (v : Int32) (h : sgK v ≠ 0) : isOp (sgK v) ∧ unsg (sgK v) = v ∧ sgK v ≠ 20 ∧ sgK v ≠ 21 ∧ tgN (sgK v) ≠ 3 ∧ v ≠ 41 ∧ v ≠ 1 ∧ v ≠ 0 := by
  unfold isOp
  unfold sgK at *
  by_cases z1 : v = 114
  · subst z1; decide
  by_cases z2 : v = 113
  · subst z2; decide
  by_cases z3 : v = 60
  · subst z3; decide
  by_cases z4 : v = 62
  · subst z4; decide
  by_cases z5 : v = 61
  · subst z5; decide
  by_cases z6 : v = 43
  · subst z6; decide
  by_cases z7 : v = 45
  · subst z7; decide
  by_cases z8 : v = 42
  · subst z8; decide
  by_cases z9 : v = 47
  · subst z9; decide
  by_cases z10 : v = 37
  · subst z10; decide
  rw [if_neg z1, if_neg z2, if_neg z3, if_neg z4, if_neg z5, if_neg z6, if_neg z7, if_neg z8, if_neg z9, if_neg z10] at h
  exact absurd rfl h
theorem sgK_tok {b : Nat → Nat} {k : Nat} {x : Tk} (hw : TW b k x) (h : sgK (kindC b x) ≠ 0) : x.1 ≠ 1 ∧ x.1 ≠ 0 := by
  have := sgK_op _ h
  exact ⟨fun e => this.2.2.2.2.2.2.1 ((kindC_low hw (v := 1) (by decide) (by decide)).mpr e), fun e => this.2.2.2.2.2.2.2 ((kindC_low hw (v := 0) (by decide) (by decide)).mpr e)⟩
theorem dpS_app : ∀ P O : List Int32, dpS (P ++ O) = dpS P + dpS O
  | [], O => (Nat.zero_add _).symm
  | s :: P, O => by
    rw [List.cons_append, dpS, dpS, dpS_app P O]
    omega
theorem dpS_le : ∀ P : List Int32, dpS P ≤ P.length
  | [] => Nat.le_refl _
  | s :: P => by
    rw [dpS, List.length_cons]
    have := dpS_le P
    split <;> omega
theorem flushA (P Q : List Int32) : flush (P ++ Q) = flush P ++ flush Q := List.map_append
theorem flush1 {s : Int32} (h : s ≠ 21) : flush [s] = [(3, s)] := by
  unfold flush
  rw [List.map_cons, if_neg h]
  rfl
theorem hasRel_app : ∀ P Q : List Int32, hasRel P = true → hasRel (P ++ Q) = true
  | [], _, h => by cases h
  | s :: P, Q, h => by
    rw [List.cons_append]
    unfold hasRel at h ⊢
    by_cases z : s = 20
    · rw [if_pos z] at h
      cases h
    · rw [if_neg z] at h ⊢
      by_cases y : tgN s ≤ 4
      · rw [if_pos y] at h ⊢
        exact h
      · rw [if_neg y] at h ⊢
        exact hasRel_app P Q h
theorem hasRel_5 : ∀ (P O : List Int32), hiT 5 P → hasRel (P ++ O) = hasRel O
  | [], _, _ => rfl
  | s :: P, O, h => by
    obtain ⟨h1, h2⟩ := h s (.head _)
    rw [List.cons_append, hasRel, if_neg h1, if_neg (by omega)]
    exact hasRel_5 P O (fun t ht => h t (.tail _ ht))
theorem hasRel_low {O : List Int32} (h : lowT 4 O) : hasRel O = false := by
  cases O with
  | nil => rfl
  | cons s r =>
    unfold hasRel
    by_cases z : s = 20
    · rw [if_pos z]
    · have h : tgN s < 4 := h.elim (fun e => absurd e z) id
      rw [if_neg z, if_pos (by omega), decide_eq_false (by omega)]
theorem lowT_mono {L L' : Nat} {O : List Int32} (h : lowT L O) (hl : L ≤ L') : lowT L' O := by
  cases O with
  | nil => trivial
  | cons s r => exact h.imp id (fun e => by omega)
theorem hiT_mono {L L' : Nat} {P : List Int32} (h : hiT L' P) (hl : L ≤ L') : hiT L P := fun s hs => ⟨(h s hs).1, by have := (h s hs).2; omega⟩
theorem hiT_snoc {L : Nat} {P : List Int32} {s : Int32} (h : hiT L P) (h1 : s ≠ 20) (h2 : L ≤ tgN s) : hiT L (P ++ [s]) := fun t ht => by
  rcases List.mem_append.mp ht with ht | ht
  · exact h t ht
  · rw [List.mem_singleton.mp ht]
    exact ⟨h1, h2⟩
/-! how a level ends -/
def StopA (L : Nat) (v : Int32) (P : List Int32) : Prop := sgK v ≠ 0 → tgN (sgK v) < L ∨ (tgN (sgK v) = 4 ∧ hasRel P = true)
def Su (x : Tk) (ρ : Mem) (Q : Mem → Prop) : Prop := ∀ m n, 2000 ≤ m + x.2.1 → 2000 ≤ n + x.2.1 → Ok ((X12_unit_2 m 1 ρ).bind (X12_formula_40 n 1)) Q
def Sf (x : Tk) (ρ : Mem) (Q : Mem → Prop) : Prop := ∀ n, 2000 ≤ n + x.2.1 → Ok (X12_formula_40 n 1 ρ) Q
/-- one good end, with all that is known of it -/
def GW1 (b : Nat → Nat) (k u f w Lx c own0 s0 : Nat) (C0 : Pg) (O : List Int32) (A : Mem → Prop) (S : Mem → (Mem → Prop) → Prop) (x : Tk) (q M : Pg) (P : List Int32) (own all : Nat) (σ : Mem) : Prop :=
  CF b k u f x (C0 ++ q) own all σ ∧ TW b k x ∧ s0 < x.2.1 ∧ own0 < own ∧ own ≤ 30 ∧ all ≤ 80 ∧ Ck q (own - own0) c ∧ C0 ++ q = M ++ flush P ∧ hiT Lx P ∧ (P ++ O).length + 1 ≤ own + dpS (P ++ O) ∧ dpS (P ++ O) ≤ 7 ∧
  ∀ ρ Q, A ρ → (∀ ρ', RF b k w x M (P ++ O) own all ρ' → FW w ρ ρ' → Sf x ρ' Q) → S ρ Q
def GE (b : Nat → Nat) (k u f w Lx c own0 s0 : Nat) (C0 : Pg) (O : List Int32) (A : Mem → Prop) (S : Mem → (Mem → Prop) → Prop) (σ : Mem) : Prop :=
  ∃ x q M P own all, GW1 b k u f w Lx c own0 s0 C0 O A S x q M P own all σ ∧ StopA Lx (kindC b x) P
def BE (f w : Nat) (A : Mem → Prop) (S : Mem → (Mem → Prop) → Prop) (σ : Mem) : Prop := ∃ c p, CX f c p σ ∧ 0 < c ∧ c ≤ 5 ∧ ∀ ρ Q, A ρ → (∀ ρ', RX w c p ρ' → FW w ρ ρ' → Q ρ') → S ρ Q
/-- a formula's text so far, and its room -/
def Pre (own all : Nat) (C : Pg) : Prop := own ≤ 30 ∧ all ≤ 80 ∧ C.length ≤ 9 * own ∧ (pos C 0).length ≤ own
def Lv (b : Nat → Nat) (k u f w Le Lx c d : Nat) (G : Mem → Option Mem) : Prop :=
  ∀ (σ : Mem) (x : Tk) (C : Pg) (own all : Nat) (O : List Int32), CF b k u f x C own all σ → TW b k x → Pre own all C → dpS O = d → O.length ≤ own + d → lowT Le O → (4 < Le → kindC b x = 115 → mayN O = false) →
  Ok (G σ) (fun σ' => Fr (LFc f) (KFc u f) σ σ' ∧ (GE b k u f w Lx c own x.2.1 C O (RF b k w x C O own all) (Su x) σ' ∨ BE f w (RF b k w x C O own all) (Su x) σ'))
theorem Pre.up {own all own' all' c : Nat} {C q : Pg} (h : Pre own all C) (ho : own ≤ own') (h1 : own' ≤ 30) (h2 : all' ≤ 80) (hq : Ck q (own' - own) c) : Pre own' all' (C ++ q) := by
  have a := h.2.2.1
  have a' := h.2.2.2
  have b1 := hq.2.1
  have b2 := hq.2.2.1
  refine ⟨h1, h2, ?_, ?_⟩
  · rw [List.length_append]
    omega
  · rw [posA]
    omega
theorem encOp {v a : Int32} (h : sgK v ≠ 0) : encR v a (3, sgK v) := .inr (.inr (.inr ⟨rfl, (sgK_op v h).2.1.symm⟩))
theorem lenMP {C q M : Pg} {P : List Int32} (h : C ++ q = M ++ flush P) : M.length + P.length = C.length + q.length := by
  have := congrArg List.length h
  rw [List.length_append, List.length_append] at this
  rw [show P.length = (flush P).length by unfold flush; rw [List.length_map]]
  omega
section Lvs
variable {b : Nat → Nat} {k u f w : Nat}
theorem Su_X {x : Tk} {ρ : Mem} {Q : Mem → Prop} {c p : Nat} (hx : x.2.1 ≤ 1600) (h0 : 0 < c) (h5 : c ≤ 5) (h : ∀ n (Q' : Mem → Prop), (∀ ρ', RX w c p ρ' → FW w ρ ρ' → Q' ρ') → Ok (X12_unit_2 (n + 2) 1 ρ) Q') (hQ : ∀ ρ', RX w c p ρ' → FW w ρ ρ' → Q ρ') : Su x ρ Q := fun m n hm hn => by
  obtain ⟨m, rfl⟩ : ∃ j, m = j + 2 := ⟨m - 2, by omega⟩
  obtain ⟨n, rfl⟩ : ∃ j, n = j + 1 := ⟨n - 1, by omega⟩
  exact ok_bindB (h m _ (fun ρ' g1 g2 => f_X g1 h0 h5 (hQ ρ' g1 g2)))
/-- the unit -/
theorem lv_unit {d : Nat} {R : Nat → Nat → Int32 → Mem → Option Mem} (hb : TB b k) (hu : u = 7 ∨ u = 124) (hf : u < f) (hw3 : w < 3) (hd : d ≤ 7)
    (hR : d ≤ 6 → Lv b k u f w 1 1 (1 + (d + 1)) (d + 1) (R 0 f (nI (d + 1)))) : Lv b k u f w 7 7 8 d (X5_readUnit R f (nI d)) := by
  intro σ x C own all O h hw hp hdO hlO hlow hnot
  have hu3 : 3 < u := by omega
  have hk := hb.1
  have hx1 : x.2.1 ≤ 1600 := by have := hw.1; have := hw.2.1; omega
  obtain ⟨ho, ha, hC, hpC⟩ := hp
  have hc := fcode_pos x (v := 2) (by omega) (by omega)
  have gU : gT (σ.1 2 3) = fun (F : Nat → Option Mem) => F u := by
    funext F
    rw [h.2.2.1]
    unfold gT
    rcases hu with rfl | rfl
    · rw [if_pos rfl]
    · rw [if_neg (by decide), if_pos rfl]
  -- a fault here
  have bad : (∀ ρ, RF b k w x C O own all ρ → ∀ n (Q' : Mem → Prop), (∀ ρ', RX w (fcode x 2) x.2.1 ρ' → FW w ρ ρ' → Q' ρ') → Ok (X12_unit_2 (n + 2) 1 ρ) Q') → Ok (X5_readUnit_97 R f σ) (fun σ' => Fr (LFc f) (KFc u f) σ σ' ∧ (GE b k u f w 7 8 own x.2.1 C O (RF b k w x C O own all) (Su x) σ' ∨ BE f w (RF b k w x C O own all) (Su x) σ')) := fun hX => by
    unfold X5_readUnit_97
    refine ok_bind (cFail hw h (by omega) (by omega)) (fun σ1 g => ok_some ⟨g.2, .inr ⟨_, _, g.1, hc.1, hc.2, fun ρ Q hA hQ => ?_⟩⟩)
    exact Su_X hx1 hc.1 hc.2 (hX ρ hA) hQ
  by_cases hU : isUnit b x
  · have hnt := isUnit_not hU
    have hne := isUnit_ne1 hw hU
    rw [ru_leaf h hU]
    unfold X5_readUnit_69
    refine ok_neg one_ne ?_
    rw [h.2.2.2.1, gU]
    refine ok_ite (fun z => ?_) (fun z => ?_)
    · rw [show (30 : Int32) = nI 30 from rfl, ni_le (by omega) (by omega)] at z
      exact bad (fun ρ hA n Q' hQ => u_leafX hw hA (fun e => absurd e hnt.1) hnt.2 (by omega) (by omega) ha ho (.inr (.inr (by omega))) hQ)
    rw [show (30 : Int32) = nI 30 from rfl, ni_le (by omega) (by omega)] at z
    show Ok (if σ.1 u 14 < 80 then _ else _) _
    rw [h.2.2.2.2.1]
    refine ok_ite (fun y => ?_) (fun y => ?_)
    · rw [show (80 : Int32) = nI 80 from rfl, ni_lt (by omega) (by omega)] at y
      obtain ⟨g1, g2⟩ := cCount h hu3 hf
      refine ok_bv ?_
      rw [ni_succ]
      have gU' : gT ((sI σ 2 4 (nI (own + 1))).1 2 3) = fun (F : Nat → Option Mem) => F u := by
        rw [sI_k (by decide)]
        exact gU
      rw [gU']
      refine ok_bv ?_
      rw [sI_n (by omega), h.2.2.2.2.1, ni_succ]
      generalize sI (sI σ 2 4 (nI (own + 1))) u 14 (nI (all + 1)) = σ7 at *
      refine ok_bindE (isAt_ok g1.2.1) ?_
      rw [g1.1.2.2.2.1, decide_eq_false hnt.2]
      refine ok_pos rfl ?_
      have q0 := cLeaf hb hu3 hf hw g1 hU (by omega) (by omega) (R := R)
      rw [g1.1.2.2.2.1] at q0
      refine ok_mono q0 (fun σ' q => ⟨g2.trans q.2, .inl ?_⟩)
      have hn := nxt_wf (b := b) (k := k) hw.2.1
      have hst := hw.2.2.1 hne.2
      refine ⟨nxt b k x.2.2, [leaf b x], C ++ [leaf b x], [], own + 1, all + 1, ⟨q.1, hn.1, by omega, by omega, by omega, by omega, ?_, ?_, ?_, ?_, ?_, ?_⟩, fun _ => .inl ?_⟩
      · rw [show own + 1 - own = 1 by omega]
        exact Ck_leaf hU
      · exact (List.append_nil _).symm
      · intro s hs
        cases hs
      · rw [List.nil_append]
        omega
      · rw [List.nil_append]
        omega
      · intro ρ Q hA hQ m n hm hn'
        obtain ⟨m, rfl⟩ : ∃ j, m = j + 2 := ⟨m - 2, by omega⟩
        refine ok_bindB (u_leaf hb hw hw3 hA hU (by omega) (by omega) (by omega) (by omega) (fun ρ' q1 q2 => hQ ρ' q1 q2 n (by omega)))
      · have := tgN_le (sgK (kindC b (nxt b k x.2.2)))
        omega
    · rw [show (80 : Int32) = nI 80 from rfl, ni_lt (by omega) (by omega)] at y
      exact bad (fun ρ hA n Q' hQ => u_leafX hw hA (fun e => absurd e hnt.1) hnt.2 (by omega) (by omega) ha ho (.inr (.inl (by omega))) hQ)
  · rw [ru_other hw h hU (by omega)]
    by_cases z4 : kindC b x = 40
    · have hx4 : x.1 = 40 := (kindC_low hw (v := 40) (by decide) (by decide)).mp z4
      by_cases z6 : d ≤ 6
      · rw [if_pos ⟨z4, z6⟩]
        unfold X5_readUnit_69
        refine ok_neg one_ne ?_
        rw [h.2.2.2.1, gU]
        refine ok_ite (fun z => ?_) (fun z => ?_)
        · rw [show (30 : Int32) = nI 30 from rfl, ni_le (by omega) (by omega)] at z
          exact bad (fun ρ hA n Q' hQ => u_brX hw hA z4 (by omega) (by omega) ha ho (by omega) (.inr (.inl (by omega))) hQ)
        rw [show (30 : Int32) = nI 30 from rfl, ni_le (by omega) (by omega)] at z
        show Ok (if σ.1 u 14 < 80 then _ else _) _
        rw [h.2.2.2.2.1]
        refine ok_ite (fun y => ?_) (fun y => ?_)
        · rw [show (80 : Int32) = nI 80 from rfl, ni_lt (by omega) (by omega)] at y
          obtain ⟨g1, g2⟩ := cCount h hu3 hf
          refine ok_bv ?_
          rw [ni_succ]
          have gU' : gT ((sI σ 2 4 (nI (own + 1))).1 2 3) = fun (F : Nat → Option Mem) => F u := by
            rw [sI_k (by decide)]
            exact gU
          rw [gU']
          refine ok_bv ?_
          rw [sI_n (by omega), h.2.2.2.2.1, ni_succ]
          generalize sI (sI σ 2 4 (nI (own + 1))) u 14 (nI (all + 1)) = σ7 at *
          refine ok_bindE (isAt_ok g1.2.1) ?_
          rw [g1.1.2.2.2.1, decide_eq_true z4]
          refine ok_neg one_ne (ok_bind (cNext hb hu3 hf hw g1) (fun σ1 q1 => ?_))
          have hn := nxt_wf (b := b) (k := k) hw.2.1
          have hst := hw.2.2.1 (by omega)
          obtain ⟨x1, hx1e⟩ : ∃ y, y = nxt b k x.2.2 := ⟨_, rfl⟩
          rw [← hx1e] at q1 hn
          rw [ni_succ]
          have hd20 : dpS (20 :: O) = d + 1 := by
            show (if (20 : Int32) = 20 ∨ (20 : Int32) = 21 then 1 else 0) + dpS O = _
            rw [if_pos (.inl rfl)]
            omega
          refine ok_bind (hR z6 σ1 x1 C (own + 1) (all + 1) (20 :: O) q1.1 hn.1 ⟨by omega, by omega, by omega, by omega⟩ hd20 (by rw [List.length_cons]; omega) (.inl rfl) (fun e => absurd e (by decide))) (fun σ2 q2 => ?_)
          have hrun0 : ∀ ρ, RF b k w x C O own all ρ → ∀ Q, (∀ ρ', RF b k w x1 C (20 :: O) (own + 1) (all + 1) ρ' → FW w ρ ρ' → Su x1 ρ' Q) → Su x ρ Q := fun ρ hA Q hQ m n hm hn' => by
            obtain ⟨m, rfl⟩ : ∃ j, m = j + 1 := ⟨m - 1, by omega⟩
            refine ok_bindB (u_br hb hw hA z4 (by omega) (by omega) (by omega) (by omega) (fun ρ' e1 e2 => ok_unbind (hQ ρ' ?_ e2 m n (by omega) (by omega))))
            rw [hx1e]
            exact e1
          unfold X5_expect
          rcases q2 with ⟨qf, ⟨x2, q, M, P, own2, all2, ⟨c1, c2, c3, c4, c5, c6, c7, c8, c9, c10, c11, c12⟩, st⟩ | ⟨c, p, hX, h0, h5, run⟩⟩
          · have hl2 := lenMP c8
            have hq2 := c7.2.2.1
            have hx2 : x2.2.1 ≤ 1600 := by have := c2.1; have := c2.2.1; omega
            rw [isAt_ok c1.2.1, Option.bind_some, c1.1.2.2.2.1]
            by_cases z41 : kindC b x2 = 41
            · have hx41 : x2.1 = 41 := (kindC_low c2 (v := 41) (by decide) (by decide)).mp z41
              have hn2 := nxt_wf (b := b) (k := k) c2.2.1
              have hst2 := c2.2.2.1 (by omega)
              rw [decide_eq_true z41]
              refine ok_bindB (ok_neg one_ne (ok_bind (cNext hb hu3 hf c2 c1) (fun σ3 q3 => ok_some (ok_some ⟨(((g2.trans q1.2).trans qf).trans q3.2), .inl ⟨nxt b k x2.2.2, q, C ++ q, [], own2, all2, ⟨q3.1, hn2.1, by omega, by omega, c5, c6, c7.mono (by omega) (by omega), (List.append_nil _).symm, ?_, ?_, ?_, ?_⟩, fun _ => .inl ?_⟩⟩))))
              · intro s hs
                cases hs
              · rw [List.nil_append]
                omega
              · rw [List.nil_append]
                omega
              · intro ρ Q hA hQ
                refine hrun0 ρ hA Q (fun ρ1 e1 e2 => c12 ρ1 Q e1 (fun ρ2 e3 e4 n hn' => ?_))
                obtain ⟨n, rfl⟩ : ∃ j, n = j + 1 := ⟨n - 1, by omega⟩
                refine f_close hb c2 hw3 e3 z41 (hiT_mono c9 (by omega)) (by omega) (by omega) (fun ρ3 e5 e6 => hQ ρ3 ?_ ((e2.trans e4).trans e6) n (by omega))
                rw [c8]
                exact e5
              · have := tgN_le (sgK (kindC b (nxt b k x2.2.2)))
                omega
            · have hc2 := fcode_pos x2 (v := 2) (by omega) (by omega)
              rw [decide_eq_false z41]
              refine ok_bindB (ok_pos rfl (ok_bind (cFail c2 c1 (by omega) (by rw [List.length_append]; omega)) (fun σ3 q3 => ok_some (ok_some ⟨(((g2.trans q1.2).trans qf).trans q3.2), .inr ⟨_, _, q3.1, hc2.1, hc2.2, ?_⟩⟩))))
              intro ρ Q hA hQ
              refine hrun0 ρ hA Q (fun ρ1 e1 e2 => c12 ρ1 Q e1 (fun ρ2 e3 e4 n hn' => ?_))
              obtain ⟨n, rfl⟩ : ∃ j, n = j + 2 := ⟨n - 2, by omega⟩
              refine f_stop c2 e3 (fun e => absurd e z41) ?_ (by omega) (f_endX c2 e3 ?_ (by omega) (by omega) (fun ρ3 e5 e6 => hQ ρ3 e5 ((e2.trans e4).trans e6)))
              · by_cases zs : sgK (kindC b x2) = 0
                · exact .inl zs
                · rcases st zs with g | ⟨g1, g2⟩
                  · have := tgN_le (sgK (kindC b x2))
                    omega
                  · exact .inr ⟨g1, hasRel_app P _ g2⟩
              · unfold hasB
                rw [List.any_append]
                simp
          · have hne := hX.ne h0 h5
            rw [isAtB_ok hne, Option.bind_some]
            refine ok_bindB (ok_pos rfl (ok_bindE (failB_ok hne) (ok_some (ok_some ⟨(g2.trans q1.2).trans qf, .inr ⟨c, p, hX, h0, h5, ?_⟩⟩))))
            intro ρ Q hA hQ
            exact hrun0 ρ hA Q (fun ρ1 e1 e2 => run ρ1 Q e1 (fun ρ2 e3 e4 => hQ ρ2 e3 (e2.trans e4)))
        · rw [show (80 : Int32) = nI 80 from rfl, ni_lt (by omega) (by omega)] at y
          exact bad (fun ρ hA n Q' hQ => u_brX hw hA z4 (by omega) (by omega) ha ho (by omega) (.inl (by omega)) hQ)
      · rw [if_neg (fun e => z6 e.2)]
        unfold X5_readUnit_69
        refine ok_pos rfl (bad (fun ρ hA n Q' hQ => u_brX hw hA z4 (by omega) (by omega) ha ho (by omega) (.inr (.inr (by omega))) hQ))
    · rw [if_neg (fun e => z4 e.1)]
      unfold X5_readUnit_69
      refine ok_pos rfl (bad (fun ρ hA n Q' hQ => u_leafX hw hA (hnot (by decide)) z4 (by omega) (by omega) ha ho (.inl hU) hQ))
end Lvs
