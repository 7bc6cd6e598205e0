/-! an hour of the class: chairs, rain, the roll -/
theorem fill_ok {a al : Nat} (x : Int32) (σ : Mem) (hal : al < 4000) : Ok (J7_fill_53178 a al x σ) (fun σ' => ∀ k, k < al → σ'.1 a k = x) := by
  unfold J7_fill_53178
  refine ok_bv (ok_bv ?_)
  rw [show Int32.ofNat al = nI al from rfl]
  refine ok_loop0 (F := fun n i σ => J7_fill_53178_5 a al n x i (nI al) σ) (N := al) (I := fun i σ' => ∀ k, k < i → σ'.1 a k = x) 0 σ (by omega) (by omega) (fun k hk => by omega) ?_ ?_
  · intro n i σ' hi hI hk
    show Ok (J7_fill_53178_5 a al (n + 1) x (nI i) (nI al) σ') _
    rw [J7_fill_53178_5]
    refine ok_neg (by rw [ni_le (by omega) (by omega)]; omega) (ok_pos (ib_t hi (by omega)) (ok_bv (ok_bv ?_)))
    rw [ni_cl (by omega), ni_succ]
    refine hk _ (fun k hk => ?_)
    rw [sI_o]
    by_cases z : k = i
    · rw [if_pos z]
    · rw [if_neg z]
      exact hI k (by omega)
  · intro n σ' hI
    show Ok (J7_fill_53178_5 a al (n + 1) x (nI al) (nI al) σ') _
    rw [J7_fill_53178_5]
    exact ok_pos (Int32.le_refl _) (ok_some hI)
theorem Fr.ne {L : List Nat} {σ σ' : Mem} (h : Fr L [] σ σ') {a : Nat} (ha : a ∉ L) : σ'.1 a = σ.1 a := by
  funext b
  exact h.1 a b ha (by simp)
theorem wetC_ok {T : Tn} {o t u : Nat} {σ : Mem} (hT : okT T) (hs : sep o t u) (h : CT T t σ) (d x : Int32) : Ok (X0_wetness o t d x σ) (fun r => r.1 = wetF T d x) := by
  unfold sep at hs
  unfold X0_wetness wetF
  refine ok_bind (ok_fr (fill_ok 0 σ (by omega)) (fr_J7_fill_53178 _ _ _ _ Fr.refl)) ?_
  rintro σ1 ⟨h1, f1⟩
  have f1 : Fr [o + 1] [] σ σ1 := f1
  refine ok_bv (ok_bv ?_)
  have f2 : Fr [o + 1] [] σ (sI (sI σ1 (o + 1) 1 d) (o + 1) 2 x) := frI (frI f1 (.head _)) (.head _)
  have h2 : CT T t (sI (sI σ1 (o + 1) 1 d) (o + 1) 2 x) := h.keep (fun a h1 h2 _ _ _ => f2.ne (by simp; omega))
  have a2 : ∀ k, k < 7 → (sI (sI σ1 (o + 1) 1 d) (o + 1) 2 x).1 (o + 1) k = asks2 d x k := by
    intro k hk
    unfold asks2
    rw [sI_o, sI_o]
    by_cases z1 : k = 1
    · subst z1
      rfl
    · by_cases z2 : k = 2
      · subst z2
        rfl
      · rw [if_neg z2, if_neg z1, if_neg z1, if_neg z2]
        exact h1 k hk
  generalize (sI (sI σ1 (o + 1) 1 d) (o + 1) 2 x) = σ2 at *
  have hp := h2.2.2.2.2.2.1
  unfold CPf at hp
  cases e : tP T 2 with
  | none =>
    rw [e] at hp
    exact ok_pos hp (ok_some rfl)
  | some pr =>
    rw [e] at hp
    have hpr := okT_P hT e
    refine ok_neg (by rw [show σ2.1 (t + 19) 5 = 1 from hp.1]; decide) ?_
    refine ok_bind (value_ok hpr.1 hpr.2.1 hpr.2.2 hp.2 (by omega) a2) ?_
    rintro ⟨v, σ3⟩ hv
    rw [hv]
    refine ok_ite (fun z => ok_some ?_) (fun z => ok_some ?_)
    · exact (if_pos z).symm
    · exact (if_neg z).symm
/-- who waits and who meets, as bits -/
def RB (T : Tn) (s : St) (x : Int32) : Prop := ∀ p, p < tN T → tb x p = wts T s p ∧ tb x (6 + p) = mts T s p
theorem wts_aim {T : Tn} {s : St} (hS : okS T s) {p : Nat} (hp : p < tN T) (h : wts T s p = true) : ∃ q, q < tN T ∧ q ≠ p ∧ s 2 p = nI q := by
  rcases okS_aim hS hp with e | e
  · exfalso
    have hm : mts T s p = false := by unfold mts; rw [e]; rfl
    unfold wts at h
    rw [hm, e] at h
    simp at h
  · exact e
theorem cnt_le (f : Nat → Bool) : ∀ i, cnt f i ≤ i
  | 0 => Nat.le_refl _
  | i + 1 => by
    have := cnt_le f i
    unfold cnt
    split <;> omega
theorem cnt_succ (f : Nat → Bool) (i : Nat) : cnt f (i + 1) = cnt f i + (if f i then 1 else 0) := rfl
theorem seats_ok {T : Tn} {s : St} {o t u : Nat} {σ : Mem} (hT : okT T) (hS : okS T s) (hs : sep o t u) (h : CR T s σ t u) {x : Int32} (hx : RB T s x) :
    Ok (X0_seats o t u x σ) (fun r => (∀ k, k < 32 → tb r.1 k = (decide (12 ≤ k) && decide (k - 12 < tN T) && wts T s (k - 12) && std T s (k - 12))) ∧ ∀ q, q < tN T → r.2.1 (o + 2) q = nI (crw T s (nI q) (tN T))) := by
  have hn := hT.1
  have hs' := hs
  unfold sep at hs'
  unfold X0_seats
  refine ok_bv ?_
  refine ok_bind (ok_fr (fill_ok 0 σ (by omega)) (fr_J7_fill_53178 _ _ _ _ Fr.refl)) ?_
  rintro σ1 ⟨h1, f1⟩
  have f1 : Fr [o + 2] [] σ σ1 := f1
  refine ok_bv ?_
  refine ok_loop0 (F := fun n i (y : Int32 × Mem) => X0_seats_14 o t u n x y.1 i y.2) (N := tN T) (I := fun i y => Fr [o + 2] [] σ y.2 ∧ (∀ k, k < 32 → tb y.1 k = (decide (12 ≤ k) && decide (k - 12 < i) && wts T s (k - 12) && std T s (k - 12))) ∧ ∀ q, q < tN T → y.2.1 (o + 2) q = nI (crw T s (nI q) i)) 0 (0, σ1) (by omega) (by omega) ⟨f1, fun k hk => by rw [tb_zero]; simp, fun q hq => h1 q (by omega)⟩ ?_ ?_
  · rintro n i ⟨y, σ'⟩ hi ⟨hf, hI, hJ⟩ hk
    have hf : Fr [o + 2] [] σ σ' := hf
    have hR : CR T s σ' t u := h.keep (fun a ha => hf.ne (by simp; omega))
    have bi := ib_t (n := i) (k := 6) (by omega) (by omega)
    have ci := ni_cl (n := i) (by omega)
    show Ok (X0_seats_14 o t u (n + 1) x y (nI i) σ') _
    have hskip : (wts T s i && std T s i) = false → (∀ a, atD T s a i = false) → Ok (X0_seats_90 o t u (X0_seats_14 o t u n) x y (nI i) σ') (fun r => (∀ k, k < 32 → tb r.1 k = (decide (12 ≤ k) && decide (k - 12 < tN T) && wts T s (k - 12) && std T s (k - 12))) ∧ ∀ q, q < tN T → r.2.1 (o + 2) q = nI (crw T s (nI q) (tN T))) := by
      intro e1 e2
      unfold X0_seats_90
      refine ok_bv ?_
      rw [ni_succ]
      refine hk (y, σ') ⟨hf, fun k hk' => ?_, fun q hq => ?_⟩
      · rw [hI k hk']
        by_cases z : k - 12 = i
        · rw [z]
          simp only [Bool.and_assoc, e1, Bool.and_false]
        · have : decide (k - 12 < i + 1) = decide (k - 12 < i) := by rw [decide_eq_decide]; omega
          rw [this]
      · show σ'.1 (o + 2) q = nI (crw T s (nI q) (i + 1))
        have hq' : σ'.1 (o + 2) q = nI (crw T s (nI q) i) := hJ q hq
        rw [hq']
        unfold crw
        rw [cnt_succ, e2]
        rfl
    rw [X0_seats_14, hR.1.1]
    refine ok_neg (by rw [ni_le (by omega) (by omega)]; omega) ?_
    refine ok_bindE (isWaiting_ok x (by omega) σ') ?_
    show Ok (if tr (tb x i) = 0 then _ else _) _
    rw [(hx i hi).1]
    refine ok_ite (fun z => ?_) (fun z => ?_)
    · rw [tr_ne] at z
      exact hskip (by rw [z, Bool.false_and]) (fun a => by unfold atD; rw [z]; rfl)
    · have zt : wts T s i = true := by rw [tr_ne] at z; simpa using z
      refine ok_bindE (isMeeting_ok x (by omega) _) ?_
      show Ok (if tr (tb x (6 + i)) = 0 then _ else _) _
      rw [(hx i hi).2]
      refine ok_ite (fun w => ?_) (fun w => ?_)
      · rw [tr_ne] at w
        obtain ⟨q, hq, hqi, e⟩ := wts_aim hS hi zt
        have bq := ib_t (n := q) (k := 6) (by omega) (by omega)
        have cq := ni_cl (n := q) (by omega)
        refine ok_pos bi (ok_bv ?_)
        show Ok (if ib (σ'.1 (u + 2) (nI i).toNatClampNeg) 6 = true then _ else _) _
        rw [ci, (hR.2.1 i hi).1, e]
        refine ok_pos bq (ok_pos bq ?_)
        rw [cq]
        show Ok (if σ'.1 (t + 4) q ≤ σ'.1 (o + 2) q then _ else _) _
        rw [(hR.1.2.2.1 q hq).2.2.2.1, show σ'.1 (o + 2) q = nI (crw T s (nI q) i) from hJ q hq]
        have hcl := cnt_le (atD T s (nI q)) i
        have hstd : std T s i = decide (nI (crw T s (nI q) i) < tR T 4 q) := by
          unfold std
          rw [w, e, show ix (nI q) = q from cq]
          rfl
        have hgo : ∀ (b : Bool) (y' : Int32), std T s i = b → (∀ k, k < 32 → tb y' k = (tb y k || (b && decide (k = 12 + i)))) → Ok (X0_seats_79 o t u (X0_seats_90 o t u (X0_seats_14 o t u n)) x y' (nI i) (nI q) σ') (fun r => (∀ k, k < 32 → tb r.1 k = (decide (12 ≤ k) && decide (k - 12 < tN T) && wts T s (k - 12) && std T s (k - 12))) ∧ ∀ q, q < tN T → r.2.1 (o + 2) q = nI (crw T s (nI q) (tN T))) := by
          intro b y' hb hy'
          unfold X0_seats_79 X0_seats_90
          refine ok_pos bq (ok_pos bq (ok_bv (ok_bv ?_)))
          rw [cq, ni_succ, show σ'.1 (o + 2) q = nI (crw T s (nI q) i) from hJ q hq, ni_succ]
          refine hk (y', _) ⟨frI hf (.head _), fun k hk' => ?_, fun q' hq' => ?_⟩
          · show tb y' k = _
            rw [hy' k hk', hI k hk']
            by_cases z2 : k = 12 + i
            · subst z2
              simp [zt, hb]
            · have : (decide (12 ≤ k) && decide (k - 12 < i + 1)) = (decide (12 ≤ k) && decide (k - 12 < i)) := by
                rw [← Bool.decide_and, ← Bool.decide_and, decide_eq_decide]
                omega
              rw [this, decide_eq_false z2]
              simp
          · show (sI σ' (o + 2) q (nI (crw T s (nI q) i + 1))).1 (o + 2) q' = nI (crw T s (nI q') (i + 1))
            rw [sI_o]
            unfold crw
            rw [cnt_succ]
            by_cases z2 : q' = q
            · have hat : atD T s (nI q') i = true := by
                unfold atD
                rw [zt, w, e, z2]
                simp
              rw [if_pos z2, hat, z2]
              rfl
            · have hat : atD T s (nI q') i = false := by
                unfold atD
                rw [e, decide_eq_false (by rw [ni_inj (by omega) (by omega)]; omega), Bool.and_false]
              rw [if_neg z2, hat]
              exact hJ q' hq'
        refine ok_ite (fun v => ?_) (fun v => ?_)
        · exact hgo false y (by rw [hstd]; exact decide_eq_false (Int32.not_lt.mpr v)) (fun k hk => by simp)
        · refine ok_bv (hgo true _ (by rw [hstd]; exact decide_eq_true (Int32.not_le.mp v)) (fun k hk => ?_))
          rw [show (12 : Int32) + nI i = nI (12 + i) from ni_add 12 i, tb_or, tb_one (by omega) hk]
          simp
      · have wt : mts T s i = true := by rw [tr_ne] at w; simpa using w
        exact hskip (by unfold std; rw [wt]; simp) (fun a => by unfold atD; rw [wt]; simp)
  · rintro n ⟨y, σ'⟩ ⟨hf, hI, hJ⟩
    have hf : Fr [o + 2] [] σ σ' := hf
    have hR : CR T s σ' t u := h.keep (fun a ha => hf.ne (by simp; omega))
    show Ok (X0_seats_14 o t u (n + 1) x y (nI (tN T)) σ') _
    rw [X0_seats_14, hR.1.1]
    exact ok_pos (Int32.le_refl _) (ok_some ⟨hI, hJ⟩)
/-- an hour's roll -/
def RollOk (T : Tn) (s : St) (x : Int32) : Prop := (∀ p, p < tN T → tb x p = wts T s p ∧ tb x (6 + p) = mts T s p ∧ (wts T s p = true → tb x (12 + p) = std T s p)) ∧
  (∀ pr, tP T 0 = some pr → asksW pr = true → (∃ p, p < tN T ∧ wts T s p = true) → tr (tb x 18) = wetF T (s 0 5) (s 0 6))
theorem wetF_01 (T : Tn) (d h : Int32) : wetF T d h = 0 ∨ wetF T d h = 1 := by
  unfold wetF
  split
  · exact .inl rfl
  · split
    · exact .inl rfl
    · exact .inr rfl
theorem call_ok {T : Tn} {s : St} {o t u : Nat} {σ : Mem} (hT : okT T) (hS : okS T s) (hs : sep o t u) (h : CR T s σ t u) (hp : ∀ p, p < tN T → σ.1 (u + 1) p = s 1 p) :
    Ok (X0_call o t u σ) (fun r => RollOk T s r.1 ∧ (∀ p, p < tN T → r.2.1 (u + 1) p = plc T s p) ∧ ∀ q, q < tN T → r.2.1 (o + 2) q = nI (crw T s (nI q) (tN T))) := by
  have hn := hT.1
  have hs' := hs
  unfold sep at hs'
  unfold X0_call
  refine ok_bind (meetings_ok hT hS h hp) ?_
  rintro ⟨x0, σ0⟩ ⟨e0, hb0⟩
  have e0 : σ0 = σ := e0
  subst e0
  refine ok_bv (ok_bv ?_)
  refine ok_loop0 (F := fun n i (y : Int32 × Mem) => X0_call_10 o t u n y.1 i y.2) (N := tN T) (I := fun i y => Fr [u + 1] [] σ0 y.2 ∧ (∀ k, k < 32 → tb y.1 k = (tb x0 k || (decide (k < i) && wts T s k))) ∧ (∀ p, p < i → y.2.1 (u + 1) p = plc T s p) ∧ ∀ p, i ≤ p → y.2.1 (u + 1) p = σ0.1 (u + 1) p) 0 (x0, σ0) (by omega) (by omega) ⟨Fr.refl, fun k hk => by simp, fun p hp => by omega, fun _ _ => rfl⟩ ?_ ?_
  · rintro n i ⟨y, σ'⟩ hi ⟨hf, hI, hJ, hJ2⟩ hk
    have hf : Fr [u + 1] [] σ0 σ' := hf
    have hR : CR T s σ' t u := h.keep (fun a ha => hf.ne (by simp; omega))
    have hm6 : tb y (6 + i) = mts T s i := by
      rw [show tb y (6 + i) = _ from hI (6 + i) (by omega), hb0 (6 + i) (by omega), decide_eq_false (show ¬ 6 + i < i by omega), decide_eq_false (show ¬ 6 + i < tN T by omega)]
      simp [hi]
    show Ok (X0_call_10 o t u (n + 1) y (nI i) σ') _
    rw [X0_call_10, hR.1.1]
    refine ok_neg (by rw [ni_le (by omega) (by omega)]; omega) ?_
    refine ok_bindE (isMeeting_ok y (by omega) σ') ?_
    show Ok (if tr (tb y (6 + i)) = 0 then _ else _) _
    rw [hm6]
    refine ok_ite (fun z => ?_) (fun z => ?_)
    · rw [tr_ne] at z
      refine ok_bind (ok_fr (stays_ok (o := o) hT hS hR hi (by rw [show σ'.1 (u + 1) i = σ0.1 (u + 1) i from hJ2 i (Nat.le_refl _)]; exact hp i hi) z) (fr_X0_staysToWait _ _ _ _ _ Fr.refl)) ?_
      rintro ⟨r, σ2⟩ ⟨⟨a1, a2, a3⟩, f2⟩
      have f2 : Fr [u + 1] [] σ' σ2 := f2
      have a1 : r = tr (wts T s i) := a1
      have hI2 : ∀ y', (∀ k, k < 32 → tb y' k = (tb y k || (wts T s i && decide (k = i)))) → Ok (X0_call_46 o t u (X0_call_10 o t u n) y' (nI i) σ2) (fun r => RollOk T s r.1 ∧ (∀ p, p < tN T → r.2.1 (u + 1) p = plc T s p) ∧ ∀ q, q < tN T → r.2.1 (o + 2) q = nI (crw T s (nI q) (tN T))) := by
        intro y' hy'
        unfold X0_call_46
        refine ok_bv ?_
        rw [ni_succ]
        refine hk (y', σ2) ⟨hf.trans f2, fun k hk' => ?_, fun p hp' => ?_, fun p hp' => ?_⟩
        · show tb y' k = _
          rw [hy' k hk', show tb y k = _ from hI k hk']
          by_cases v : k = i
          · subst v
            simp
          · have : decide (k < i + 1) = decide (k < i) := by rw [decide_eq_decide]; omega
            rw [this, decide_eq_false v]
            simp
        · by_cases v : p = i
          · rw [v]
            exact a2
          · show σ2.1 (u + 1) p = _
            rw [show σ2.1 (u + 1) p = σ'.1 (u + 1) p from a3 p v]
            exact hJ p (by omega)
        · show σ2.1 (u + 1) p = _
          rw [show σ2.1 (u + 1) p = σ'.1 (u + 1) p from a3 p (by omega)]
          exact hJ2 p (by omega)
      show Ok (if r = 0 then _ else _) _
      rw [a1]
      refine ok_ite (fun v => ?_) (fun v => ?_)
      · rw [tr_ne] at v
        exact hI2 y (fun k hk => by rw [v]; simp)
      · have v' : wts T s i = true := by rw [tr_ne] at v; simpa using v
        refine ok_bv (hI2 _ (fun k hk => ?_))
        rw [tb_or, tb_one (by omega) hk, v']
        simp
    · have z' : mts T s i = true := by rw [tr_ne] at z; simpa using z
      have hw : wts T s i = true := by unfold wts; rw [z']; rfl
      unfold X0_call_46
      refine ok_bv ?_
      rw [ni_succ]
      refine hk (y, σ') ⟨hf, fun k hk' => ?_, fun p hp' => ?_, fun p hp' => hJ2 p (by omega)⟩
      · rw [hI k hk']
        by_cases v : k = i
        · subst v
          rw [hb0 k (by omega)]
          simp [hi, z']
        · have : decide (k < i + 1) = decide (k < i) := by rw [decide_eq_decide]; omega
          rw [this]
      · by_cases v : p = i
        · show σ'.1 (u + 1) p = _
          rw [v, show σ'.1 (u + 1) i = σ0.1 (u + 1) i from hJ2 i (Nat.le_refl _), hp i hi]
          unfold plc
          rw [z', if_pos rfl]
        · exact hJ p (by omega)
  · rintro n ⟨y, σ'⟩ ⟨hf, hI, hJ, hJ2⟩
    have hf : Fr [u + 1] [] σ0 σ' := hf
    have hR : CR T s σ' t u := h.keep (fun a ha => hf.ne (by simp; omega))
    have hrb : RB T s y := by
      intro p hp'
      refine ⟨?_, ?_⟩
      · rw [show tb y p = _ from hI p (by omega), hb0 p (by omega), decide_eq_true hp', decide_eq_false (show ¬ 6 ≤ p by omega)]
        unfold wts
        simp
      · rw [show tb y (6 + p) = _ from hI (6 + p) (by omega), hb0 (6 + p) (by omega), decide_eq_false (show ¬ 6 + p < tN T by omega)]
        simp [hp']
    have hy12 : ∀ k, 12 ≤ k → k < 32 → tb y k = false := by
      intro k h1 h2
      rw [show tb y k = _ from hI k h2, hb0 k h2, decide_eq_false (show ¬ k < tN T by omega), decide_eq_false (show ¬ k - 6 < tN T by omega)]
      simp
    show Ok (X0_call_10 o t u (n + 1) y (nI (tN T)) σ') _
    rw [X0_call_10, hR.1.1]
    refine ok_pos (Int32.le_refl _) ?_
    refine ok_bind (ok_fr (seats_ok hT hS hs hR hrb) (fr_X0_seats _ _ _ _ _ Fr.refl)) ?_
    rintro ⟨z, σ2⟩ ⟨⟨a1, a2⟩, f2⟩
    have f2 : Fr [o + 2] [] σ' σ2 := f2
    have hR2 : CR T s σ2 t u := hR.keep (fun a ha => f2.ne (by simp; omega))
    refine ok_bv ?_
    have hbits : ∀ p, p < tN T → tb (y ||| z) p = wts T s p ∧ tb (y ||| z) (6 + p) = mts T s p ∧ (wts T s p = true → tb (y ||| z) (12 + p) = std T s p) := by
      intro p hp'
      refine ⟨?_, ?_, fun hw => ?_⟩
      · rw [tb_or, (hrb p hp').1, a1 p (by omega), decide_eq_false (show ¬ 12 ≤ p by omega)]
        simp
      · rw [tb_or, (hrb p hp').2, a1 (6 + p) (by omega), decide_eq_false (show ¬ 12 ≤ 6 + p by omega)]
        simp
      · rw [tb_or, hy12 _ (by omega) (by omega), a1 (12 + p) (by omega)]
        simp [hp', hw]
    have hpl : ∀ p, p < tN T → σ2.1 (u + 1) p = plc T s p := fun p hp' => by
      rw [f2.ne (a := u + 1) (by simp; omega)]
      exact hJ p hp'
    show Ok (if σ2.1 (t + 9) 6 = 0 then some (y ||| z, σ2) else if y ||| z = 0 then some (y ||| z, σ2) else _) _
    refine ok_ite (fun w => ok_some ⟨⟨hbits, fun pr e1 e2 _ => ?_⟩, hpl, a2⟩) (fun w => ok_ite (fun w2 => ok_some ⟨⟨hbits, fun pr e1 e2 he => ?_⟩, hpl, a2⟩) (fun w2 => ?_))
    · have := hR2.1.2.2.2.2.2.2 pr e1
      rw [e2, w] at this
      exact absurd this (by decide)
    · obtain ⟨p, hp', hw⟩ := he
      have := (hbits p hp').1
      rw [w2, tb_zero, hw] at this
      cases this
    · show Ok ((X0_wetness o t (σ2.1 u 5) (σ2.1 u 6) σ2).bind _) _
      rw [hR2.2.2.1, hR2.2.2.2]
      refine ok_bind (ok_fr (wetC_ok (u := u) hT hs hR2.1 _ _) (fr_X0_wetness _ _ _ _ _ Fr.refl)) ?_
      rintro ⟨v, σ3⟩ ⟨hv, f3⟩
      have f3 : Fr [o + 1, t + 22] [] σ2 σ3 := f3
      have hv : v = wetF T (s 0 5) (s 0 6) := hv
      have hpl3 : ∀ p, p < tN T → σ3.1 (u + 1) p = plc T s p := fun p hp' => by
        rw [f3.ne (a := u + 1) (by simp; omega)]
        exact hpl p hp'
      have ha3 : ∀ q, q < tN T → σ3.1 (o + 2) q = nI (crw T s (nI q) (tN T)) := fun q hq => by
        rw [f3.ne (a := o + 2) (by simp; omega)]
        exact a2 q hq
      show Ok (if v = 0 then some (y ||| z, σ3) else bv (y ||| z ||| 262144) fun v7 => some (v7, σ3)) _
      refine ok_ite (fun w3 => ok_some ⟨⟨hbits, fun pr e1 e2 he => ?_⟩, hpl3, ha3⟩) (fun w3 => ok_bv (ok_some ⟨⟨fun p hp' => ?_, fun pr e1 e2 he => ?_⟩, hpl3, ha3⟩))
      · show tr (tb (y ||| z) 18) = _
        rw [← hv, w3, tb_or, hy12 18 (by omega) (by omega), a1 18 (by omega), decide_eq_false (show ¬ 18 - 12 < tN T by omega)]
        simp [tr]
      · show tb (y ||| z ||| 262144) p = _ ∧ tb (y ||| z ||| 262144) (6 + p) = _ ∧ (_ → tb (y ||| z ||| 262144) (12 + p) = _)
        rw [tb_or, tb_or _ _ (6 + p), tb_or _ _ (12 + p), tb_18n (by omega) (by omega), tb_18n (by omega) (by omega), tb_18n (k := 12 + p) (by omega) (by omega), Bool.or_false, Bool.or_false, Bool.or_false]
        exact hbits p hp'
      · show tr (tb (y ||| z ||| 262144) 18) = _
        rw [tb_or, tb_18, Bool.or_true, ← hv]
        rcases wetF_01 T (s 0 5) (s 0 6) with g | g
        · rw [← hv] at g
          exact absurd g w3
        · rw [hv, g]
          rfl
