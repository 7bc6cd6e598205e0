/-! town: the levels of a formula -/
theorem sg6 {v : Int32} (h : sgK v ≠ 0) (ht : tgN (sgK v) = 6) : v = 42 ∨ v = 47 ∨ v = 37 := by
  unfold sgK at *
  by_cases z114 : v = 114
  · subst z114
    exact absurd ht (by decide)
  by_cases z113 : v = 113
  · subst z113
    exact absurd ht (by decide)
  by_cases z60 : v = 60
  · subst z60
    exact absurd ht (by decide)
  by_cases z62 : v = 62
  · subst z62
    exact absurd ht (by decide)
  by_cases z61 : v = 61
  · subst z61
    exact absurd ht (by decide)
  by_cases z43 : v = 43
  · subst z43
    exact absurd ht (by decide)
  by_cases z45 : v = 45
  · subst z45
    exact absurd ht (by decide)
  by_cases z42 : v = 42
  · exact (.inl z42)
  by_cases z47 : v = 47
  · exact (.inr (.inl z47))
  by_cases z37 : v = 37
  · exact (.inr (.inr z37))
  rw [if_neg z114, if_neg z113, if_neg z60, if_neg z62, if_neg z61, if_neg z43, if_neg z45, if_neg z42, if_neg z47, if_neg z37] at h
  exact absurd rfl h
theorem sg5 {v : Int32} (h : sgK v ≠ 0) (ht : tgN (sgK v) = 5) : v = 43 ∨ v = 45 := by
  unfold sgK at *
  by_cases z114 : v = 114
  · subst z114
    exact absurd ht (by decide)
  by_cases z113 : v = 113
  · subst z113
    exact absurd ht (by decide)
  by_cases z60 : v = 60
  · subst z60
    exact absurd ht (by decide)
  by_cases z62 : v = 62
  · subst z62
    exact absurd ht (by decide)
  by_cases z61 : v = 61
  · subst z61
    exact absurd ht (by decide)
  by_cases z43 : v = 43
  · exact (.inl z43)
  by_cases z45 : v = 45
  · exact (.inr z45)
  by_cases z42 : v = 42
  · subst z42
    exact absurd ht (by decide)
  by_cases z47 : v = 47
  · subst z47
    exact absurd ht (by decide)
  by_cases z37 : v = 37
  · subst z37
    exact absurd ht (by decide)
  rw [if_neg z114, if_neg z113, if_neg z60, if_neg z62, if_neg z61, if_neg z43, if_neg z45, if_neg z42, if_neg z47, if_neg z37] at h
  exact absurd rfl h
theorem sg4 {v : Int32} (h : sgK v ≠ 0) (ht : tgN (sgK v) = 4) : v = 60 ∨ v = 62 ∨ v = 61 := by
  unfold sgK at *
  by_cases z114 : v = 114
  · subst z114
    exact absurd ht (by decide)
  by_cases z113 : v = 113
  · subst z113
    exact absurd ht (by decide)
  by_cases z60 : v = 60
  · exact (.inl z60)
  by_cases z62 : v = 62
  · exact (.inr (.inl z62))
  by_cases z61 : v = 61
  · exact (.inr (.inr z61))
  by_cases z43 : v = 43
  · subst z43
    exact absurd ht (by decide)
  by_cases z45 : v = 45
  · subst z45
    exact absurd ht (by decide)
  by_cases z42 : v = 42
  · subst z42
    exact absurd ht (by decide)
  by_cases z47 : v = 47
  · subst z47
    exact absurd ht (by decide)
  by_cases z37 : v = 37
  · subst z37
    exact absurd ht (by decide)
  rw [if_neg z114, if_neg z113, if_neg z60, if_neg z62, if_neg z61, if_neg z43, if_neg z45, if_neg z42, if_neg z47, if_neg z37] at h
  exact absurd rfl h
theorem sg2 {v : Int32} (h : sgK v ≠ 0) (ht : tgN (sgK v) = 2) : v = 114 := by
  unfold sgK at *
  by_cases z114 : v = 114
  · exact z114
  by_cases z113 : v = 113
  · subst z113
    exact absurd ht (by decide)
  by_cases z60 : v = 60
  · subst z60
    exact absurd ht (by decide)
  by_cases z62 : v = 62
  · subst z62
    exact absurd ht (by decide)
  by_cases z61 : v = 61
  · subst z61
    exact absurd ht (by decide)
  by_cases z43 : v = 43
  · subst z43
    exact absurd ht (by decide)
  by_cases z45 : v = 45
  · subst z45
    exact absurd ht (by decide)
  by_cases z42 : v = 42
  · subst z42
    exact absurd ht (by decide)
  by_cases z47 : v = 47
  · subst z47
    exact absurd ht (by decide)
  by_cases z37 : v = 37
  · subst z37
    exact absurd ht (by decide)
  rw [if_neg z114, if_neg z113, if_neg z60, if_neg z62, if_neg z61, if_neg z43, if_neg z45, if_neg z42, if_neg z47, if_neg z37] at h
  exact absurd rfl h
theorem sg1 {v : Int32} (h : sgK v ≠ 0) (ht : tgN (sgK v) = 1) : v = 113 := by
  unfold sgK at *
  by_cases z114 : v = 114
  · subst z114
    exact absurd ht (by decide)
  by_cases z113 : v = 113
  · exact z113
  by_cases z60 : v = 60
  · subst z60
    exact absurd ht (by decide)
  by_cases z62 : v = 62
  · subst z62
    exact absurd ht (by decide)
  by_cases z61 : v = 61
  · subst z61
    exact absurd ht (by decide)
  by_cases z43 : v = 43
  · subst z43
    exact absurd ht (by decide)
  by_cases z45 : v = 45
  · subst z45
    exact absurd ht (by decide)
  by_cases z42 : v = 42
  · subst z42
    exact absurd ht (by decide)
  by_cases z47 : v = 47
  · subst z47
    exact absurd ht (by decide)
  by_cases z37 : v = 37
  · subst z37
    exact absurd ht (by decide)
  rw [if_neg z114, if_neg z113, if_neg z60, if_neg z62, if_neg z61, if_neg z43, if_neg z45, if_neg z42, if_neg z47, if_neg z37] at h
  exact absurd rfl h
section Loops
variable {b : Nat → Nat} {k u f w : Nat}
/-- one sign, and the side behind it -/
theorem op_step {L Le Ls c d own0 s0 own all : Nat} {C0 q M : Pg} {P O : List Int32} {A : Mem → Prop} {S : Mem → (Mem → Prop) → Prop} {x : Tk} {σ : Mem} {G : Mem → Option Mem}
    (hb : TB b k) (hu : 3 < u) (hf : u < f) (hw3 : w < 3) (hc : 1 ≤ c) (hsub : Lv b k u f w Le Ls c d G) (hLe : L < Le) (hLe4 : 4 < Le → 4 ≤ L) (hP0 : Pre own0 all C0 ∨ Pre own0 80 C0)
    (h : GW1 b k u f w L c own0 s0 C0 O A S x q M P own all σ) (hdO : dpS O = d) (hlow : lowT L O) (hs : sgK (kindC b x) ≠ 0) (hL : tgN (sgK (kindC b x)) = L) (hr : L = 4 → hasRel (P ++ O) = false) (hLs : L ≤ Ls) :
    Ok ((X9_next σ).bind fun σ1 => (G σ1).bind fun σ2 => X2_addOperation f (kindC b x) σ2) (fun σ' => Fr (LFc f) (KFc u f) σ σ' ∧
      ((∃ x' q' M' P' own' all', GW1 b k u f w L c own0 s0 C0 O A S x' q' M' (P' ++ [sgK (kindC b x)]) own' all' σ' ∧ x.2.1 < x'.2.1 ∧ hiT Ls P' ∧ StopA Ls (kindC b x') P') ∨ BE f w A S σ')) := by
  obtain ⟨c1, c2, c3, c4, c5, c6, c7, c8, c9, c10, c11, c12⟩ := h
  have hp0 : Pre own0 80 C0 := hP0.elim (fun e => ⟨e.1, Nat.le_refl _, e.2.2⟩) id
  obtain ⟨o1, o2, o3, o4, o5, o6, o7, o8⟩ := sgK_op _ hs
  have ht := sgK_tok c2 hs
  have hn := nxt_wf (b := b) (k := k) c2.2.1
  have hst := c2.2.2.1 ht.2
  have hl := lenMP c8
  have hq := c7.2.2.1
  have hpre : Pre own all (C0 ++ q) := hp0.up (by omega) c5 c6 c7
  have hdp := dpS_le P
  rw [dpS_app, hdO, List.length_append] at c10
  rw [dpS_app, hdO] at c11
  have hpl := hpre.2.2.1
  rw [List.length_append] at hpl
  obtain ⟨x1, hx1⟩ : ∃ y, y = nxt b k x.2.2 := ⟨_, rfl⟩
  generalize hsg : sgK (kindC b x) = s at *
  have hdsO : dpS (s :: O) = d := by
    show (if s = 20 ∨ s = 21 then 1 else 0) + dpS O = _
    rw [if_neg (fun e => e.elim o3 o4), hdO, Nat.zero_add]
  refine ok_bind (cNext hb hu hf c2 c1) (fun σ1 q1 => ?_)
  rw [← hx1] at q1 hn
  refine ok_bind (hsub σ1 x1 (C0 ++ q) own all (s :: O) q1.1 hn.1 hpre hdsO (by rw [List.length_cons]; omega) (.inr (by omega)) (fun e _ => ?_)) (fun σ2 q2 => ?_)
  · have := hLe4 e
    show (decide (s = 20) || decide (tgN s < 4)) = false
    rw [decide_eq_false o3, decide_eq_false (by omega)]
    rfl
  have hrun0 : ∀ ρ, A ρ → ∀ Q, (∀ ρ', RF b k w x1 (C0 ++ q) (s :: O) own all ρ' → FW w ρ ρ' → Su x1 ρ' Q) → S ρ Q := fun ρ hA Q hQ => by
    refine c12 ρ Q hA (fun ρ1 e1 e2 n hn' => ?_)
    have hx1600 : x.2.1 ≤ 1600 := by have := c2.1; have := c2.2.1; have := hb.1; omega
    obtain ⟨n, rfl⟩ : ∃ j, n = j + 1 := ⟨n - 1, by omega⟩
    refine f_bin hb c2 hw3 ht.1 e1 (by rw [hsg]; exact hs) (by rw [hsg]; exact hL) o6 c9 hlow hr (by rw [List.length_append]; omega) (by omega) (by rw [hsg]; exact ⟨o3, o4⟩) (fun ρ2 e3 e4 => ?_)
    rw [hsg, ← c8, ← hx1] at e3
    exact hQ ρ2 e3 (e2.trans e4) fu n (by unfold fu; omega) (by omega)
  rcases q2 with ⟨qf, ⟨x2, q2, M2, P2, own2, all2, ⟨d1, d2, d3, d4, d5, d6, d7, d8, d9, d10, d11, d12⟩, st⟩ | ⟨c, p, hX, h0, h5, run⟩⟩
  · have hl2 := d7.2.2.1
    rw [List.append_assoc] at d1
    refine ok_mono (cAdd d1 hu hf (by rw [List.length_append, List.length_append]; omega) (c := (3, s)) (fun a => ?_) (by show (3 : Int32) ≠ 0; decide) (by show (3 : Int32) ≠ 1; decide)) (fun σ3 q3 => ⟨(q1.2.trans qf).trans q3.2, .inl ⟨x2, q ++ q2 ++ [(3, s)], M2, P2, own2, all2, ⟨?_, d2, by omega, by omega, d5, d6, ?_, ?_, ?_, ?_, ?_, ?_⟩, by omega, d9, st⟩⟩)
    · have := encOp (v := kindC b x) (a := a) (by rw [hsg]; exact hs)
      rw [hsg] at this
      exact this
    · have := q3.1
      rw [List.append_assoc] at this
      exact this
    · have := c7.bin d7 hc o1
      rw [show own - own0 + (own2 - own) = own2 - own0 by omega] at this
      exact this
    · rw [flushA, flush1 o4, ← List.append_assoc, ← List.append_assoc, ← List.append_assoc, d8]
    · exact hiT_snoc (hiT_mono d9 hLs) o3 (by omega)
    · rw [List.append_assoc]
      exact d10
    · rw [List.append_assoc]
      exact d11
    · intro ρ Q hA hQ
      refine hrun0 ρ hA Q (fun ρ1 e1 e2 => d12 ρ1 Q e1 (fun ρ2 e3 e4 => hQ ρ2 ?_ (e2.trans e4)))
      rw [List.append_assoc]
      exact e3
  · refine ok_mono (addX hX (by omega)) (fun σ3 q3 => ⟨(q1.2.trans qf).trans q3.2, .inr ⟨c, p, q3.1, h0, h5, ?_⟩⟩)
    intro ρ Q hA hQ
    exact hrun0 ρ hA Q (fun ρ1 e1 e2 => run ρ1 Q e1 (fun ρ2 e3 e4 => hQ ρ2 e3 (e2.trans e4)))
/-- the class's loop over signs of one tightness -/
def LpE (f L : Nat) (G : Mem → Option Mem) (F : Nat → Int32 → Mem → Option Mem) : Prop :=
  (∀ n i σ, i < 1600 → σ.1 2 5 = 0 → sgK (σ.1 3 2) ≠ 0 → tgN (sgK (σ.1 3 2)) = L → F (n + 1) (nI i) σ = ((X9_next σ).bind fun σ1 => (G σ1).bind fun σ2 => X2_addOperation f (σ.1 3 2) σ2).bind fun σ3 => F n (nI (i + 1)) σ3) ∧
  (∀ n i σ, i < 1600 → σ.1 2 5 = 0 → ¬ (sgK (σ.1 3 2) ≠ 0 ∧ tgN (sgK (σ.1 3 2)) = L) → F (n + 1) (nI i) σ = some σ) ∧
  (∀ n i σ, i < 1600 → σ.1 2 5 ≠ 0 → F (n + 1) (nI i) σ = some σ)
theorem loop_ok {L Le c d own0 s0 : Nat} {C0 : Pg} {O : List Int32} {A : Mem → Prop} {S : Mem → (Mem → Prop) → Prop} {G : Mem → Option Mem} {F : Nat → Int32 → Mem → Option Mem}
    (hb : TB b k) (hu : 3 < u) (hf : u < f) (hw3 : w < 3) (hc : 1 ≤ c) (hF : LpE f L G F) (hsub : Lv b k u f w Le (L + 1) c d G) (hLe : L < Le) (hLe4 : 4 < Le → 4 ≤ L) (hL4 : L ≠ 4) (hP0 : Pre own0 80 C0) (hdO : dpS O = d) (hlow : lowT L O) :
    ∀ (r i n : Nat) (x : Tk) (q M : Pg) (P : List Int32) (own all : Nat) (σ : Mem), GW1 b k u f w L c own0 s0 C0 O A S x q M P own all σ → StopA (L + 1) (kindC b x) P → i < x.2.1 → 2000 ≤ n + x.2.1 → 1600 ≤ r + x.2.1 →
    Ok (F n (nI i) σ) (fun σ' => Fr (LFc f) (KFc u f) σ σ' ∧ (GE b k u f w L c own0 s0 C0 O A S σ' ∨ BE f w A S σ')) := by
  intro r
  induction r with
  | zero =>
    intro i n x q M P own all σ h hs hi hn hr
    have hk := hb.1
    have c1 := h.1
    have c2 := h.2.1
    have h1 := c2.1
    have h2 := c2.2.1
    obtain ⟨n, rfl⟩ : ∃ j, n = j + 1 := ⟨n - 1, by omega⟩
    have hx0 : ¬ sgK (kindC b x) ≠ 0 := fun e => by
      have := c2.2.2.1 (sgK_tok c2 e).2
      omega
    rw [hF.2.1 n i σ (by omega) c1.2.1 (fun e => hx0 (by rw [← c1.1.2.2.2.1]; exact e.1))]
    exact ok_some ⟨Fr.refl, .inl ⟨x, q, M, P, own, all, h, fun e => absurd e hx0⟩⟩
  | succ r ih =>
    intro i n x q M P own all σ h hs hi hn hr
    have hk := hb.1
    have c1 := h.1
    have c2 := h.2.1
    have h1 := c2.1
    have h2 := c2.2.1
    obtain ⟨n, rfl⟩ : ∃ j, n = j + 1 := ⟨n - 1, by omega⟩
    have ek : σ.1 3 2 = kindC b x := c1.1.2.2.2.1
    by_cases z : sgK (kindC b x) ≠ 0 ∧ tgN (sgK (kindC b x)) = L
    · have hst := c2.2.2.1 (sgK_tok c2 z.1).2
      rw [hF.1 n i σ (by omega) c1.2.1 (by rw [ek]; exact z.1) (by rw [ek]; exact z.2), ek]
      refine ok_bind (op_step hb hu hf hw3 hc hsub hLe hLe4 (.inr hP0) h hdO hlow z.1 z.2 (fun e => absurd e hL4) (by omega)) (fun σ1 q1 => ?_)
      rcases q1 with ⟨qf, ⟨x', q', M', P', own', all', g1, g2, g3, g4⟩ | ⟨cc, p, hX, h0, h5, run⟩⟩
      · refine ok_mono (ih (i + 1) n x' q' M' _ own' all' σ1 g1 (fun e => ?_) (by omega) (by omega) (by omega)) (fun σ2 q2 => ⟨qf.trans q2.1, q2.2⟩)
        exact (g4 e).imp id (fun e => ⟨e.1, hasRel_app _ _ e.2⟩)
      · obtain ⟨n, rfl⟩ : ∃ j, n = j + 1 := ⟨n - 1, by omega⟩
        rw [hF.2.2 n (i + 1) σ1 (by omega) (hX.ne h0 h5)]
        exact ok_some ⟨qf, .inr ⟨cc, p, hX, h0, h5, run⟩⟩
    · rw [hF.2.1 n i σ (by omega) c1.2.1 (by rw [ek]; exact z)]
      refine ok_some ⟨Fr.refl, .inl ⟨x, q, M, P, own, all, h, fun e => ?_⟩⟩
      rcases hs e with g | g
      · have : tgN (sgK (kindC b x)) ≠ L := fun e' => z ⟨e, e'⟩
        exact .inl (by omega)
      · exact .inr g
/-- a level that reads the next one, then loops -/
theorem lv_loop {L Le c d : Nat} {G : Mem → Option Mem} {F : Nat → Int32 → Mem → Option Mem}
    (hb : TB b k) (hu : 3 < u) (hf : u < f) (hw3 : w < 3) (hc : 1 ≤ c) (hF : LpE f L G F) (hsub : Lv b k u f w Le (L + 1) c d G) (hLe : L < Le) (hLe4 : 4 < Le → 4 ≤ L) (hL4 : L ≠ 4) (hnot : 4 < Le → 4 < L) : Lv b k u f w L L c d (fun σ => (G σ).bind fun σ1 => F fu (nI 0) σ1) := by
  intro σ x C own all O h hw hp hdO hlO hlow hn
  refine ok_bind (hsub σ x C own all O h hw hp hdO hlO (lowT_mono hlow (by omega)) (fun e => hn (hnot e))) (fun σ1 q1 => ?_)
  rcases q1 with ⟨qf, ⟨x', q, M, P, own', all', g, st⟩ | ⟨cc, p, hX, h0, h5, run⟩⟩
  · have hx' := g.2.2.1
    have g' : GW1 b k u f w L c own x.2.1 C O (RF b k w x C O own all) (Su x) x' q M P own' all' σ1 := by
      obtain ⟨c1, c2, c3, c4, c5, c6, c7, c8, c9, c10, c11, c12⟩ := g
      exact ⟨c1, c2, c3, c4, c5, c6, c7, c8, hiT_mono c9 (by omega), c10, c11, c12⟩
    exact ok_mono (loop_ok hb hu hf hw3 hc hF hsub hLe hLe4 hL4 ⟨hp.1, Nat.le_refl _, hp.2.2⟩ hdO hlow 1600 0 fu x' q M P own' all' σ1 g' st (by omega) (by unfold fu; omega) (by omega)) (fun σ2 q2 => ⟨qf.trans q2.1, q2.2⟩)
  · obtain ⟨m, hm⟩ : ∃ j, fu = j + 1 := ⟨4999, rfl⟩
    rw [hm, hF.2.2 m 0 σ1 (by decide) (hX.ne h0 h5)]
    exact ok_some ⟨qf, .inr ⟨cc, p, hX, h0, h5, run⟩⟩
/-- 'not', and a relation -/
theorem lv_one {d : Nat} {R : Nat → Nat → Int32 → Mem → Option Mem} (hb : TB b k) (hu : u = 7 ∨ u = 124) (hf : u < f) (hw3 : w < 3) (hd : d ≤ 7)
    (hS : Lv b k u f w 5 5 8 d (R 3 f (nI d))) (hN : d ≤ 6 → Lv b k u f w 4 3 (1 + (d + 1)) (d + 1) (R 2 f (nI (d + 1)))) : Lv b k u f w 4 3 (1 + d) d (X5_readOne R f (nI d)) := by
  intro σ x C own all O h hw hp hdO hlO hlow _
  have hu3 : 3 < u := by omega
  have hk := hb.1
  have hx1 : x.2.1 ≤ 1600 := by have := hw.1; have := hw.2.1; omega
  obtain ⟨ho, ha, hC, hpC⟩ := hp
  have hc := fcode_pos x (v := 2) (by omega) (by omega)
  have hmay : mayN O = true := by
    cases O with
    | nil => rfl
    | cons s r =>
      show (decide (s = 20) || decide (tgN s < 4)) = true
      rcases hlow with e | e
      · rw [decide_eq_true e]
        rfl
      · rw [decide_eq_true e, Bool.or_true]
  unfold X5_readOne
  refine ok_bindE (isAt_ok h.2.1) ?_
  rw [h.1.2.2.2.1]
  by_cases z : kindC b x = 115
  · have hx3 : x.1 = 3 := ((kindC_own hw (i := 15) (by decide)).mp z).1
    have hst := hw.2.2.1 (by omega)
    rw [decide_eq_true z]
    refine ok_neg one_ne ?_
    refine ok_ite (fun y => ?_) (fun y => ?_)
    · rw [show (6 : Int32) = nI 6 from rfl, ni_le (by omega) (by omega)] at y
      refine ok_bind (cNext hb hu3 hf hw h) (fun σ1 q1 => ?_)
      have hn := nxt_wf (b := b) (k := k) hw.2.1
      obtain ⟨x1, hx1e⟩ : ∃ y, y = nxt b k x.2.2 := ⟨_, rfl⟩
      rw [← hx1e] at q1 hn
      rw [ni_succ]
      have hd21 : dpS (21 :: O) = d + 1 := by
        show (if (21 : Int32) = 20 ∨ (21 : Int32) = 21 then 1 else 0) + dpS O = _
        rw [if_pos (.inr rfl)]
        omega
      refine ok_bind (hN y σ1 x1 C own all (21 :: O) q1.1 hn.1 ⟨ho, ha, hC, hpC⟩ hd21 (by rw [List.length_cons]; omega) (.inr (by decide)) (fun e => absurd e (by decide))) (fun σ2 q2 => ?_)
      have hrun0 : ∀ ρ, RF b k w x C O own all ρ → ∀ Q, (∀ ρ', RF b k w x1 C (21 :: O) own all ρ' → FW w ρ ρ' → Su x1 ρ' Q) → Su x ρ Q := fun ρ hA Q hQ m n hm hn' => by
        obtain ⟨m, rfl⟩ : ∃ j, m = j + 1 := ⟨m - 1, by omega⟩
        refine ok_bindB (u_not hb hw hA z hmay (by omega) (by omega) (fun ρ' e1 e2 => ok_unbind (hQ ρ' ?_ e2 m n (by omega) (by omega))))
        rw [hx1e]
        exact e1
      rcases q2 with ⟨qf, ⟨x2, q, M, P, own2, all2, ⟨c1, c2, c3, c4, c5, c6, c7, c8, c9, c10, c11, c12⟩, st⟩ | ⟨c, p, hX, h0, h5, run⟩⟩
      · have hq := c7.2.2.1
        refine ok_bind (cAdd c1 hu3 hf (by rw [List.length_append]; omega) (c := (2, 0)) (fun a => .inr (.inr (.inl ⟨rfl, rfl⟩))) (by show (2 : Int32) ≠ 0; decide) (by show (2 : Int32) ≠ 1; decide)) (fun σ3 q3 => ok_some ⟨(q1.2.trans qf).trans q3.2, .inl ⟨x2, q ++ [(2, 0)], M, P ++ [21], own2, all2, ⟨?_, c2, by omega, c4, c5, c6, ?_, ?_, hiT_snoc c9 (by decide) (by decide), ?_, ?_, ?_⟩, fun e => ?_⟩⟩)
        · have := q3.1
          rw [List.append_assoc] at this
          exact this
        · have c7' : Ck q (own2 - own) (1 + d + 1) := c7
          exact c7'.not
        · rw [flushA, ← List.append_assoc, ← List.append_assoc, c8]
          rfl
        · rw [List.append_assoc]
          exact c10
        · rw [List.append_assoc]
          exact c11
        · intro ρ Q hA hQ
          refine hrun0 ρ hA Q (fun ρ1 e1 e2 => c12 ρ1 Q e1 (fun ρ2 e3 e4 => hQ ρ2 ?_ (e2.trans e4)))
          rw [List.append_assoc]
          exact e3
        · exact (st e).imp id (fun e => ⟨e.1, hasRel_app _ _ e.2⟩)
      · refine ok_bind (addX (u := u) hX (by omega)) (fun σ3 q3 => ok_some ⟨(q1.2.trans qf).trans q3.2, .inr ⟨c, p, q3.1, h0, h5, ?_⟩⟩)
        intro ρ Q hA hQ
        exact hrun0 ρ hA Q (fun ρ1 e1 e2 => run ρ1 Q e1 (fun ρ2 e3 e4 => hQ ρ2 e3 (e2.trans e4)))
    · rw [show (6 : Int32) = nI 6 from rfl, ni_le (by omega) (by omega)] at y
      refine ok_bind (cFail hw h (by omega) (by omega)) (fun σ1 g => ok_some ⟨g.2, .inr ⟨_, _, g.1, hc.1, hc.2, fun ρ Q hA hQ => ?_⟩⟩)
      exact Su_X hx1 hc.1 hc.2 (fun n Q' hQ' => u_notX hw hA z hmay (by omega) (by omega) (by omega) (by omega) hQ') hQ
  · rw [decide_eq_false z]
    refine ok_pos rfl (ok_bind (hS σ x C own all O h hw ⟨ho, ha, hC, hpC⟩ hdO hlO (lowT_mono hlow (by omega)) (fun _ e => absurd e z)) (fun σ1 q1 => ?_))
    rcases q1 with ⟨qf, ⟨x', q, M, P, own', all', g, st⟩ | ⟨cc, p, hX, h0, h5, run⟩⟩
    · have hk' := g.1.1.2.2.2.1
      have hgood := g.1.2.1
      have hP5 : hiT 5 P := g.2.2.2.2.2.2.2.2.1
      have g4 : GW1 b k u f w 4 8 own x.2.1 C O (RF b k w x C O own all) (Su x) x' q M P own' all' σ1 := by
        obtain ⟨c1, c2, c3, c4, c5, c6, c7, c8, c9, c10, c11, c12⟩ := g
        exact ⟨c1, c2, c3, c4, c5, c6, c7, c8, hiT_mono c9 (by omega), c10, c11, c12⟩
      have down : ∀ {y : Tk} {q' M' : Pg} {P' : List Int32} {o a : Nat} {τ : Mem}, GW1 b k u f w 4 8 own x.2.1 C O (RF b k w x C O own all) (Su x) y q' M' P' o a τ → GW1 b k u f w 3 (1 + d) own x.2.1 C O (RF b k w x C O own all) (Su x) y q' M' P' o a τ := fun g => by
        obtain ⟨c1, c2, c3, c4, c5, c6, c7, c8, c9, c10, c11, c12⟩ := g
        have := c7.2.2.1
        exact ⟨c1, c2, c3, c4, c5, c6, c7.mono (Nat.le_refl _) (by omega), c8, hiT_mono c9 (by omega), c10, c11, c12⟩
      have rel : (sgK (kindC b x') ≠ 0 ∧ tgN (sgK (kindC b x')) = 4) → Ok (X5_readOne_76 R f (nI d) σ1) (fun σ' => Fr (LFc f) (KFc u f) σ σ' ∧ (GE b k u f w 3 (1 + d) own x.2.1 C O (RF b k w x C O own all) (Su x) σ' ∨ BE f w (RF b k w x C O own all) (Su x) σ')) := fun zz => by
        obtain ⟨o1, o2, o3, o4, o5, o6, o7, o8⟩ := sgK_op _ zz.1
        have key := op_step hb hu3 hf hw3 (by decide) hS (L := 4) (by decide) (fun _ => by decide) (.inr ⟨ho, Nat.le_refl _, hC, hpC⟩) g4 hdO hlow zz.1 zz.2 (fun _ => by rw [hasRel_5 P O hP5]; exact hasRel_low hlow) (by decide)
        have e : X5_readOne_76 R f (nI d) σ1 = ((X9_next σ1).bind fun σ1 => (R 3 f (nI d) σ1).bind fun σ2 => X2_addOperation f (kindC b x') σ2) := by
          unfold X5_readOne_76
          rw [bv_eq, hk']
          congr 1
          funext τ
          congr 1
          funext τ'
          cases X2_addOperation f (kindC b x') τ' <;> rfl
        rw [e]
        refine ok_mono key (fun σ2 q2 => ⟨qf.trans q2.1, ?_⟩)
        rcases q2.2 with ⟨x2, q', M', P', own2, all2, k1, k2, k3, k4⟩ | k
        · refine .inl ⟨x2, q', M', _, own2, all2, down k1, fun e => ?_⟩
          rcases k4 e with k | ⟨k, k'⟩
          · by_cases zz4 : tgN (sgK (kindC b x2)) = 4
            · refine .inr ⟨zz4, ?_⟩
              rw [hasRel_5 P' _ k3]
              unfold hasRel
              rw [if_neg o3, if_pos (by omega), decide_eq_true zz.2]
            · have := (sgK_op _ e).2.2.2.2.1
              exact .inl (by omega)
          · exact .inr ⟨k, hasRel_app _ _ k'⟩
        · exact .inr k
      have fin : ¬ (sgK (kindC b x') ≠ 0 ∧ tgN (sgK (kindC b x')) = 4) → Ok (some σ1) (fun σ' => Fr (LFc f) (KFc u f) σ σ' ∧ (GE b k u f w 3 (1 + d) own x.2.1 C O (RF b k w x C O own all) (Su x) σ' ∨ BE f w (RF b k w x C O own all) (Su x) σ')) := fun zz => by
        refine ok_some ⟨qf, .inl ⟨x', q, M, P, own', all', down g4, fun e => ?_⟩⟩
        have n3 := (sgK_op _ e).2.2.2.2.1
        rcases st e with k | k
        · have : tgN (sgK (kindC b x')) ≠ 4 := fun e' => zz ⟨e, e'⟩
          exact .inl (by omega)
        · exact absurd ⟨e, k.1⟩ zz
      refine ok_bindE (isAt_ok hgood) ?_
      rw [hk']
      by_cases z60 : kindC b x' = 60
      · rw [decide_eq_true z60]
        exact ok_neg one_ne (rel (by rw [z60]; decide))
      rw [decide_eq_false z60]
      refine ok_pos rfl (ok_bindE (isAt_ok hgood) ?_)
      rw [hk']
      by_cases z62 : kindC b x' = 62
      · rw [decide_eq_true z62]
        exact ok_neg one_ne (rel (by rw [z62]; decide))
      rw [decide_eq_false z62]
      refine ok_pos rfl (ok_bindE (isAt_ok hgood) ?_)
      rw [hk']
      by_cases z61 : kindC b x' = 61
      · rw [decide_eq_true z61]
        exact ok_neg one_ne (rel (by rw [z61]; decide))
      rw [decide_eq_false z61]
      refine ok_pos rfl (fin (fun e => ?_))
      have := sg4 e.1 e.2
      rcases this with h | h | h
      · exact z60 h
      · exact z62 h
      · exact z61 h
    · have hne := hX.ne h0 h5
      refine ok_bindE (isAtB_ok hne) (ok_pos rfl (ok_bindE (isAtB_ok hne) (ok_pos rfl (ok_bindE (isAtB_ok hne) (ok_pos rfl (ok_some ⟨qf, .inr ⟨cc, p, hX, h0, h5, run⟩⟩))))))
end Loops
