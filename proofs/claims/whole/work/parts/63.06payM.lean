/-! payments, dusk and hour of the reference -/
theorem noAsks_ok (ρ : Mem) : Ok (X12_noAsks ρ) (fun ρ' => ∀ k, k < 7 → ρ'.1 1011 k = 0) := by
  unfold X12_noAsks
  refine ok_bv ?_
  refine ok_loop0 (F := fun n i ρ => X12_noAsks_2 n i ρ) (N := 7) (I := fun i ρ' => ∀ k, k < i → ρ'.1 1011 k = 0) 0 ρ (by omega) (by omega) (fun k hk => by omega) ?_ ?_
  · intro n i ρ' hi hI hk
    show Ok (X12_noAsks_2 (n + 1) (nI i) ρ') _
    rw [X12_noAsks_2]
    refine ok_neg (by rw [show (7 : Int32) = nI 7 from rfl, ni_le (by omega) (by omega)]; omega) (ok_pos (ib_t hi (by omega)) (ok_bv (ok_bv ?_)))
    rw [ni_cl (by omega), ni_succ]
    refine hk _ (fun k hk => ?_)
    rw [sI_o]
    by_cases z : k = i
    · rw [if_pos z]
    · rw [if_neg z]
      exact hI k (by omega)
  · intro n ρ' hI
    show Ok (X12_noAsks_2 (n + 1) (nI 7) ρ') _
    rw [X12_noAsks_2]
    exact ok_pos (Int32.le_refl _) (ok_some hI)
theorem okT_P {T : Tn} (h : okT T) {w : Nat} {pr : Pg} (e : tP T w = some pr) : wf pr 0 ∧ dpE pr 0 = 1 ∧ pr.length ≤ 270 := h.2.2.2.2 w pr e
theorem MT_P {T : Tn} {ρ : Mem} (h : MT T ρ) {w : Nat} (hw : w < 3) : MPg T ρ w := by
  have := h.2.2.2
  match w, hw with
  | 0, _ => exact this.1
  | 1, _ => exact this.2.1
  | 2, _ => exact this.2.2
theorem wetAt_ok {T : Tn} {ρ : Mem} (hT : okT T) (h : MT T ρ) (d u : Int32) : Ok (X12_wetAt d u ρ) (fun r => r.1 = wetF T d u) := by
  have hp := MT_P h (w := 2) (by omega)
  unfold MPg at hp
  unfold X12_wetAt wetF
  cases e : tP T 2 with
  | none =>
    rw [e] at hp
    rw [show ρ.1 1000 54 = 0 from hp]
    exact ok_pos rfl (ok_some rfl)
  | some pr =>
    rw [e] at hp
    have hp2 := okT_P hT e
    rw [show ρ.1 1000 54 = 1 from hp.1]
    refine ok_neg (by decide) ?_
    refine ok_bind (ok_fr (noAsks_ok ρ) (fr_X12_noAsks ρ Fr.refl)) (fun ρ1 ⟨h1, f1⟩ => ?_)
    have f1 : Fr L_X12_noAsks K_X12_noAsks ρ ρ1 := f1
    refine ok_bv (ok_bv ?_)
    have f2 : Fr L_X12_noAsks K_X12_noAsks ρ (sI (sI ρ1 1011 1 d) 1011 2 u) := frI (frI f1 (.head _)) (.head _)
    have g := f2.off (A := [1006, 1007, 1008]) (B := []) (by decide)
    refine ok_bind (worked_ok (w := 2) hp2.1 hp2.2.1 (by omega) (hp.2.keep (g.1 _ (by decide)) (g.1 _ (by decide)) (g.1 _ (by decide))) (by omega) (g := asks2 d u) ?_) ?_
    · intro k hk
      unfold asks2
      rw [sI_o, sI_o]
      by_cases z1 : k = 1
      · subst z1
        rfl
      · by_cases z2 : k = 2
        · subst z2
          rfl
        · rw [if_neg z2, if_neg z1, if_neg z1, if_neg z2]
          exact h1 k hk
    · intro r hr
      rw [hr]
      refine ok_ite (fun z => ?_) (fun z => ?_)
      · refine ok_some ?_
        exact (if_pos z).symm
      · refine ok_some ?_
        exact (if_neg z).symm
/-- debts are good: small numbers; none to oneself, none beyond the people -/
def okD (n : Nat) (d : Nat → Int32) : Prop := ∀ i j, i < 6 → j < 6 → (∃ v, v ≤ 9999 ∧ d (6 * i + j) = nI v) ∧ ((n ≤ i ∨ n ≤ j ∨ i = j) → d (6 * i + j) = 0)
theorem clampF_r (a : Int32) : ∃ v, v ≤ 240 ∧ clampF a = nI v := by
  unfold clampF
  split
  · exact ⟨0, by omega, rfl⟩
  · rename_i z
    split
    · exact ⟨240, by omega, rfl⟩
    · rename_i y
      obtain ⟨v, hv, e⟩ := ni_of (Int32.not_lt.mp z)
      refine ⟨v, ?_, e⟩
      rw [e, show (240 : Int32) = nI 240 from rfl, ni_lt (by omega) hv] at y
      omega
theorem lawF_r (T : Tn) (s : St) (p : Nat) {o : Nat} (ho : o ≤ 9999) : ∃ v, v ≤ o ∧ lawF T s (nI o) p = nI v := by
  unfold lawF
  obtain ⟨v, hv, e⟩ := clampF_r (rawF T s (nI o) p)
  rw [e]
  by_cases z : nI o < nI v
  · rw [if_pos z]
    exact ⟨o, Nat.le_refl _, rfl⟩
  · rw [if_neg z]
    refine ⟨v, ?_, rfl⟩
    rw [ni_lt (by omega) (by omega)] at z
    omega
theorem payF_okD {T : Tn} {s : St} {p : Nat} {cd : (Nat → Int32) × (Nat → Int32)} (h : okD (tN T) cd.2) : okD (tN T) (payF T s p cd).2.2 := by
  unfold payF
  split
  · exact h
  · rename_i z
    have key : okD (tN T) (upd cd.2 (pix s p) (cd.2 (pix s p) - lawF T s (cd.2 (pix s p)) p)) := by
      intro i j hi hj
      unfold upd
      by_cases y : 6 * i + j = pix s p
      · simp only [y, if_true]
        have hh := h i j hi hj
        rw [y] at hh
        obtain ⟨o, ho, e⟩ := hh.1
        obtain ⟨v, hv, e2⟩ := lawF_r T s p ho
        rw [e, e2, ni_sub hv]
        refine ⟨⟨o - v, by omega, rfl⟩, fun w => ?_⟩
        have := hh.2 w
        rw [this] at z
        simp at z
      · simp only [y, if_false]
        exact h i j hi hj
    split
    · exact key
    · split
      · exact h
      · exact key
theorem paysF_okD {T : Tn} {s : St} (h : okD (tN T) (s 5)) : ∀ i, okD (tN T) (paysF T s i).2
  | 0 => h
  | i + 1 => payF_okD (paysF_okD h i)
theorem okS_D {T : Tn} {s : St} (h : okS T s) : okD (tN T) (s 5) := h.2.1
/-- coins and debts of the working rows -/
def MC (n : Nat) (cd : (Nat → Int32) × (Nat → Int32)) (ρ : Mem) : Prop := (∀ p, p < n → ρ.1 1032 p = cd.1 p) ∧ (∀ k, k < 36 → ρ.1 1033 k = cd.2 k)
theorem ni_cell {a b : Nat} : (6 : Int32) * nI a + nI b = nI (6 * a + b) := by
  rw [show (6 : Int32) = nI 6 from rfl, ni_mul, ni_add]
theorem truth_ok (b : Bool) (ρ : Mem) : X12_truth (tr b) ρ = some (tr b, ρ) := by cases b <;> rfl
theorem pay300_ok {T : Tn} {n : Nat} {p i : Nat} {v : Int32} {ρ : Mem} {c : Nat → Int32} {d : Nat → Int32} (hp : p < 6) (hi : i < 36) (h : MC n (c, d) ρ) :
    Ok (X12_pay_300 (nI p) (nI i) v ρ) (fun ρ' => ρ'.1 1038 p = v ∧ (∀ q, q ≠ p → ρ'.1 1038 q = ρ.1 1038 q) ∧ MC n (c, upd d i (d i - v)) ρ') := by
  unfold X12_pay_300
  refine ok_pos (ib_t hp (by omega)) (ok_bv (ok_pos (ib_t hi (by omega)) (ok_pos (ib_t hi (by omega)) (ok_bv (ok_some ?_)))))
  rw [ni_cl (by omega), ni_cl (by omega)]
  refine ⟨?_, fun q hq => ?_, fun q hq => ?_, fun k hk => ?_⟩
  · rw [sI_n (by decide), sI_e]
  · rw [sI_n (by decide), sI_k hq]
  · rw [sI_n (by decide), sI_n (by decide)]
    exact h.1 q hq
  · rw [sI_o, sI_n (by decide), sI_n (by decide)]
    show _ = upd d i (d i - v) k
    unfold upd
    rw [h.2 i hi, h.2 k hk]
theorem pay_ok {T : Tn} {s : St} {ρ : Mem} {cd : (Nat → Int32) × (Nat → Int32)} (hT : okT T) (hS : okS T s) (h : MR T s ρ) (hg : ∀ p, p < tN T → ρ.1 1035 p = tr (mts T s p)) (hw : ∀ p, p < tN T → ρ.1 1037 p = tr (wts T s p)) (hc : MC (tN T) cd ρ) (hD : okD (tN T) cd.2) {p : Nat} (hp : p < tN T) :
    Ok (X12_pay (nI p) ρ) (fun ρ' => ρ'.1 1038 p = (payF T s p cd).1 ∧ (∀ q, q ≠ p → ρ'.1 1038 q = ρ.1 1038 q) ∧ MC (tN T) (payF T s p cd).2 ρ') := by
  have hn := hT.1
  have bi := ib_t (n := p) (k := 6) (by omega) (by omega)
  have ci := ni_cl (n := p) (by omega)
  obtain ⟨c, d⟩ := cd
  have hend : (payF T s p (c, d)) = (0, c, d) → (sI ρ 1038 p 0).1 1038 p = (payF T s p (c, d)).1 ∧ (∀ q, q ≠ p → (sI ρ 1038 p 0).1 1038 q = ρ.1 1038 q) ∧ MC (tN T) (payF T s p (c, d)).2 (sI ρ 1038 p 0) := by
    intro e
    rw [e]
    refine ⟨sI_e _ _ _ _, fun q hq => sI_k hq _, fun q hq => ?_, fun k hk => ?_⟩
    · rw [sI_n (by decide)]
      exact hc.1 q hq
    · rw [sI_n (by decide)]
      exact hc.2 k hk
  have h1 : MR T s (sI ρ 1038 p 0) := h.keep (L := [1038]) (K := []) (frI Fr.refl (.head _)) (by decide)
  obtain ⟨w, hwn, ew⟩ := (hS.1 p hp).2.1
  unfold X12_pay
  refine ok_pos bi (ok_bv (ok_pos bi ?_))
  rw [ci, show (sI ρ 1038 p 0).1 1037 p = ρ.1 1037 p from sI_n (by decide) _, hw p hp]
  refine ok_ite (fun z => ?_) (fun z => ?_)
  · rw [tr_ne] at z
    refine ok_some (hend ?_)
    unfold payF
    simp [z]
  · have z' : wts T s p = true := by rw [tr_ne] at z; simpa using z
    refine ok_pos bi (ok_pos bi ?_)
    rw [(h1.2.1 p hp).1, (h1.2.1 p hp).2, ew]
    rcases okS_aim hS hp with e | ⟨q, hq, hqi, e⟩
    · -- who waits has an aim
      have hm : mts T s p = false := by unfold mts; rw [e]; rfl
      unfold wts at z'
      rw [hm, e] at z'
      simp at z'
    have hcell : (6 : Int32) * s 3 p + s 2 p = nI (6 * w + q) := by rw [ew, e, ni_cell]
    have hix : pix s p = 6 * w + q := by unfold pix; rw [hcell]; exact ni_cl (by omega)
    obtain ⟨⟨o, ho, eo⟩, hdz⟩ := hD w q (by omega) (by omega)
    rw [e]
    refine ok_ite (fun y => ?_) (fun y => ?_)
    · rw [ni_inj (by omega) (by omega)] at y
      refine ok_some (hend ?_)
      unfold payF
      rw [hix, if_pos (.inr (.inl (hdz (.inr (.inr y)))))]
    · refine ok_pos bi (ok_pos bi (ok_bv ?_))
      rw [ni_cell, h1.2.2.1, h1.2.2.2]
      refine ok_bind (ok_fr (wetAt_ok hT h1.1 (s 0 5) (s 0 6)) (fr_X12_wetAt _ _ _ Fr.refl)) ?_
      rintro ⟨wt, ρ2⟩ ⟨hwt, f2⟩
      have hwt : wt = wetF T (s 0 5) (s 0 6) := hwt
      have f2 : Fr L_X12_wetAt K_X12_wetAt (sI ρ 1038 p 0) ρ2 := f2
      refine ok_bv (ok_pos bi ?_)
      have h2 := h1.keep f2 (by decide)
      have g2 := f2.off (A := [1032, 1033, 1035, 1037, 1038]) (B := []) (by decide)
      have hc2 : MC (tN T) (c, d) ρ2 := by
        refine ⟨fun q hq => ?_, fun k hk => ?_⟩
        · rw [g2.1 1032 (by decide), sI_n (by decide)]
          exact hc.1 q hq
        · rw [g2.1 1033 (by decide), sI_n (by decide)]
          exact hc.2 k hk
      have e38 : ρ2.1 1038 p = 0 := by rw [g2.1 1038 (by decide), sI_e]
      have e38' : ∀ q, q ≠ p → ρ2.1 1038 q = ρ.1 1038 q := fun q hq => by rw [g2.1 1038 (by decide), sI_k hq]
      rw [show (wt, ρ2).2.1 1031 p = nI w from ((h2.2.1 p hp).2).trans ew]
      -- the payment itself, by whether p stands for another
      have main : ∀ b : Int32, (if s 3 p = nI p then 0 else 1) = b → Ok (X12_pay_77 (nI p) (nI (6 * w + q)) wt b ρ2) (fun ρ' => ρ'.1 1038 p = (payF T s p (c, d)).1 ∧ (∀ q, q ≠ p → ρ'.1 1038 q = ρ.1 1038 q) ∧ MC (tN T) (payF T s p (c, d)).2 ρ') := by
        intro b hb
        have hb01 : b = 0 ∨ b = 1 := by
          rw [← hb]
          split
          · exact .inl rfl
          · exact .inr rfl
        have ht : X12_truth b = fun ρ => some (b, ρ) := by
          rcases hb01 with e | e <;> (subst e; rfl)
        have eo' : d (6 * w + q) = nI o := eo
        have bc : ib (nI (6 * w + q)) 36 = true := ib_t (by omega) (by omega)
        have cc := ni_cl (n := 6 * w + q) (by omega)
        -- behind the formula: v is what it gave
        have tail : ∀ (ρ3 : Mem) (v : Int32), MC (tN T) (c, d) ρ3 → MR T s ρ3 → ρ3.1 1038 = ρ2.1 1038 → v = rawF T s (nI o) p → Ok (X12_pay_176 (nI p) (nI (6 * w + q)) b v ρ3) (fun ρ' => ρ'.1 1038 p = (payF T s p (c, d)).1 ∧ (∀ q, q ≠ p → ρ'.1 1038 q = ρ.1 1038 q) ∧ MC (tN T) (payF T s p (c, d)).2 ρ') := by
          intro ρ3 v hc3 h3 e3 hv
          have hcl : X12_pay_176 (nI p) (nI (6 * w + q)) b v ρ3 = X12_pay_203 (nI p) (nI (6 * w + q)) b (clampF v) ρ3 := by
            unfold X12_pay_176 clampF
            by_cases x : v < 0
            · rw [if_neg (Int32.not_le.mpr x), if_pos x]
            · rw [if_pos (Int32.not_lt.mp x), if_neg x]
              by_cases x2 : 240 < v
              · rw [if_neg (Int32.not_le.mpr x2), if_pos x2]
              · rw [if_pos (Int32.not_lt.mp x2), if_neg x2]
          have hlw : X12_pay_203 (nI p) (nI (6 * w + q)) b (clampF v) ρ3 = X12_pay_227 (nI p) (nI (6 * w + q)) b (lawF T s (nI o) p) ρ3 := by
            unfold X12_pay_203 lawF
            rw [if_pos bc, if_pos bc, cc, hc3.2 _ (by omega), ← hv]
            show (if clampF v ≤ d (6 * w + q) then _ else X12_pay_227 _ _ _ (d (6 * w + q)) _) = _
            rw [eo']
            by_cases x : nI o < clampF v
            · rw [if_neg (Int32.not_le.mpr x), if_pos x]
            · rw [if_pos (Int32.not_lt.mp x), if_neg x]
          rw [hcl, hlw]
          have hnone : payF T s p (c, d) = (0, c, d) → Ok (some ρ3) (fun ρ' => ρ'.1 1038 p = (payF T s p (c, d)).1 ∧ (∀ q, q ≠ p → ρ'.1 1038 q = ρ.1 1038 q) ∧ MC (tN T) (payF T s p (c, d)).2 ρ') := by
            intro e
            rw [e]
            exact ok_some ⟨by rw [e3, e38], fun q hq => by rw [e3]; exact e38' q hq, hc3⟩
          unfold X12_pay_227
          refine ok_ite (fun x => ?_) (fun x => ?_)
          · refine hnone ?_
            unfold payF
            rw [hix, if_pos (.inr (.inr (by show lawF T s (d (6 * w + q)) p = 0; rw [eo']; exact x)))]
          · have ho0 : nI o ≠ 0 := by
              intro e0
              obtain ⟨v', hv', e'⟩ := lawF_r T s p ho
              rw [show (0 : Int32) = nI 0 from rfl, ni_inj (by omega) (by omega)] at e0
              apply x
              rw [e', show v' = 0 by omega]
              rfl
            have hgo : ¬ (wts T s p = false ∨ (c, d).2 (pix s p) = 0 ∨ lawF T s ((c, d).2 (pix s p)) p = 0) := by
              rw [hix]
              show ¬ (_ ∨ d (6 * w + q) = 0 ∨ lawF T s (d (6 * w + q)) p = 0)
              rw [eo', z']
              rintro (g | g | g)
              · cases g
              · exact ho0 g
              · exact x g
            by_cases hself : s 3 p = nI p
            · rw [if_pos hself] at hb
              have hpay : payF T s p (c, d) = (lawF T s (nI o) p, c, upd d (6 * w + q) (d (6 * w + q) - lawF T s (nI o) p)) := by
                unfold payF
                rw [if_neg hgo, if_pos hself, hix]
                show (lawF T s (d (6 * w + q)) p, c, upd d (6 * w + q) (d (6 * w + q) - lawF T s (d (6 * w + q)) p)) = _
                rw [eo']
              refine ok_pos hb.symm ?_
              unfold X12_pay_260
              refine ok_pos hb.symm ?_
              rw [hpay]
              refine ok_mono (pay300_ok (T := T) (by omega) (by omega) hc3) ?_
              rintro ρ' ⟨g1, g2, g3⟩
              exact ⟨g1, fun q hq => by rw [g2 q hq, e3]; exact e38' q hq, g3⟩
            · rw [if_neg hself] at hb
              have hb0 : ¬ b = 0 := by rw [← hb]; decide
              have hwp : w ≠ p := fun e0 => hself (by rw [ew, e0])
              have bw := ib_t (n := w) (k := 6) (by omega) (by omega)
              have cw := ni_cl (n := w) (by omega)
              refine ok_neg hb0 (ok_pos bi ?_)
              rw [ci, (h3.2.1 p hp).2, ew]
              refine ok_pos bw (ok_pos bi ?_)
              rw [cw, (h3.1.2.2.1 p hp).2.2.2.2.2, hc3.1 w hwn]
              refine ok_ite (fun g => ?_) (fun g => ?_)
              · have hpay : payF T s p (c, d) = (lawF T s (nI o) p, upd (upd c w (c w - tR T 6 p)) p (c p + tR T 6 p), upd d (6 * w + q) (d (6 * w + q) - lawF T s (nI o) p)) := by
                  unfold payF
                  rw [if_neg hgo, if_neg hself, if_neg (by rw [ew, show ix (nI w) = w from cw]; exact Int32.not_lt.mpr g), hix, ew, show ix (nI w) = w from cw]
                  show (lawF T s (d (6 * w + q)) p, _, upd d (6 * w + q) (d (6 * w + q) - lawF T s (d (6 * w + q)) p)) = _
                  rw [eo']
                unfold X12_pay_260
                refine ok_neg hb0 (ok_pos bi (ok_bv ?_))
                rw [ci, (h3.2.1 p hp).2, ew]
                refine ok_pos bw (ok_pos bi (ok_pos bw (ok_bv (ok_pos bi (ok_pos bi (ok_pos bi (ok_bv ?_)))))))
                rw [cw, hpay]
                refine ok_mono (pay300_ok (T := T) (n := tN T) (c := upd (upd c w (c w - tR T 6 p)) p (c p + tR T 6 p)) (d := d) (by omega) (by omega) ⟨fun q hq => ?_, fun k hk => ?_⟩) ?_
                · show _ = upd (upd c w (c w - tR T 6 p)) p (c p + tR T 6 p) q
                  unfold upd
                  rw [sI_o, sI_o, sI_o, if_neg (Ne.symm hwp), sI_n (a := 1025) (by decide), hc3.1 p hp, (h3.1.2.2.1 p hp).2.2.2.2.2, hc3.1 w hwn, hc3.1 q hq]
                · rw [sI_n (by decide), sI_n (by decide)]
                  exact hc3.2 k hk
                · rintro ρ' ⟨g1, g2, g3⟩
                  refine ⟨g1, fun q hq => ?_, g3⟩
                  rw [g2 q hq, sI_n (by decide), sI_n (by decide), e3]
                  exact e38' q hq
              · refine hnone ?_
                unfold payF
                rw [if_neg hgo, if_neg hself, if_pos (by rw [ew, show ix (nI w) = w from cw]; exact Int32.not_le.mp g)]
        unfold X12_pay_77
        refine ok_pos bc (ok_bv (ok_bv (ok_bv (ok_bv ?_))))
        rw [cc, show ρ2.1 1033 (6 * w + q) = nI o from (hc2.2 _ (by omega)).trans eo', sI_n (a := 1000) (by decide), sI_n (a := 1000) (by decide), sI_n (a := 1000) (by decide), h2.2.2.1, h2.2.2.2]
        have f4 : Fr [1011] [] ρ2 (sI (sI (sI (sI ρ2 1011 0 (nI o)) 1011 1 (s 0 5)) 1011 2 (s 0 6)) 1011 3 wt) := frI (frI (frI (frI Fr.refl (.head _)) (.head _)) (.head _)) (.head _)
        have a3 : ∀ k, k < 4 → (sI (sI (sI (sI ρ2 1011 0 (nI o)) 1011 1 (s 0 5)) 1011 2 (s 0 6)) 1011 3 wt).1 1011 k = asks7 T s (nI o) p k := by
          intro k hk
          rw [sI_o, sI_o, sI_o, sI_o]
          match k, hk with
          | 0, _ => rfl
          | 1, _ => rfl
          | 2, _ => rfl
          | 3, _ => exact hwt
        generalize (sI (sI (sI (sI ρ2 1011 0 (nI o)) 1011 1 (s 0 5)) 1011 2 (s 0 6)) 1011 3 wt) = ρ4 at f4 a3
        have h4 := h2.keep f4 (by decide)
        have k4 := f4.off (A := [1035, 1037]) (B := []) (by decide)
        have hg4 : ∀ p, p < tN T → ρ4.1 1035 p = tr (mts T s p) := fun p hp => by rw [k4.1 1035 (by decide), g2.1 1035 (by decide), sI_n (by decide)]; exact hg p hp
        have hw4 : ∀ p, p < tN T → ρ4.1 1037 p = tr (wts T s p) := fun p hp => by rw [k4.1 1037 (by decide), g2.1 1037 (by decide), sI_n (by decide)]; exact hw p hp
        refine ok_bind (isSeated_ok hT h4 hg4 hw4 hp hq e) ?_
        rintro _ rfl
        refine ok_bindE (truth_ok _ _) (ok_bv (ok_pos bi ?_))
        rw [ci, show (sI ρ4 1011 4 (tr (std T s p))).1 1035 p = tr (mts T s p) by rw [sI_n (by decide)]; exact hg4 p hp]
        refine ok_bindE (truth_ok _ _) (ok_bv ?_)
        rw [ht]
        refine ok_bindE rfl (ok_bv ?_)
        have f5 : Fr [1011] [] ρ2 (sI (sI (sI ρ4 1011 4 (tr (std T s p))) 1011 5 (tr (mts T s p))) 1011 6 b) := frI (frI (frI f4 (.head _)) (.head _)) (.head _)
        have a5 : ∀ k, k < 7 → (sI (sI (sI ρ4 1011 4 (tr (std T s p))) 1011 5 (tr (mts T s p))) 1011 6 b).1 1011 k = asks7 T s (nI o) p k := by
          intro k hk
          rw [sI_o, sI_o, sI_o]
          match k, hk with
          | 0, _ => exact a3 0 (by omega)
          | 1, _ => exact a3 1 (by omega)
          | 2, _ => exact a3 2 (by omega)
          | 3, _ => exact a3 3 (by omega)
          | 4, _ => rfl
          | 5, _ => rfl
          | 6, _ => exact hb.symm
        show Ok (if (sI (sI (sI ρ4 1011 4 (tr (std T s p))) 1011 5 (tr (mts T s p))) 1011 6 b).1 1000 52 = 0 then X12_pay_176 (nI p) (nI (6 * w + q)) b 60 (sI (sI (sI ρ4 1011 4 (tr (std T s p))) 1011 5 (tr (mts T s p))) 1011 6 b) else (X12_worked 0 (sI (sI (sI ρ4 1011 4 (tr (std T s p))) 1011 5 (tr (mts T s p))) 1011 6 b)).bind fun r16 => X12_pay_176 (nI p) (nI (6 * w + q)) b r16.1 r16.2) _
        generalize (sI (sI (sI ρ4 1011 4 (tr (std T s p))) 1011 5 (tr (mts T s p))) 1011 6 b) = ρ5 at f5 a5
        have h5 := h2.keep f5 (by decide)
        have k5 := f5.off (A := [1032, 1033, 1038]) (B := []) (by decide)
        have hc5 : MC (tN T) (c, d) ρ5 := ⟨fun q hq => by rw [k5.1 1032 (by decide)]; exact hc2.1 q hq, fun k hk => by rw [k5.1 1033 (by decide)]; exact hc2.2 k hk⟩
        have hp0 := MT_P h5.1 (w := 0) (by omega)
        unfold MPg at hp0
        cases eP : tP T 0 with
        | none =>
          rw [eP] at hp0
          refine ok_pos hp0 (tail ρ5 60 hc5 h5 (k5.1 1038 (by decide)) ?_)
          unfold rawF
          rw [eP]
        | some pr =>
          rw [eP] at hp0
          have hpr := okT_P hT eP
          refine ok_neg (by rw [show ρ5.1 1000 52 = 1 from hp0.1]; decide) ?_
          refine ok_bind (ok_fr (worked_ok (w := 0) hpr.1 hpr.2.1 (by omega) hp0.2 (by omega) a5) (fr_X12_worked _ _ Fr.refl)) ?_
          rintro ⟨v, ρ6⟩ ⟨hv, f6⟩
          have f6 : Fr L_X12_worked K_X12_worked ρ5 ρ6 := f6
          have k6 := f6.off (A := [1032, 1033, 1038]) (B := []) (by decide)
          refine tail ρ6 v ⟨fun q hq => by rw [k6.1 1032 (by decide)]; exact hc5.1 q hq, fun k hk => by rw [k6.1 1033 (by decide)]; exact hc5.2 k hk⟩ (h5.keep f6 (by decide)) (by rw [k6.1 1038 (by decide), k5.1 1038 (by decide)]) ?_
          unfold rawF
          rw [eP]
          exact hv
      by_cases x : s 3 p = nI p
      · refine ok_pos (by rw [← ew]; exact x) (main 0 (if_pos x))
      · refine ok_neg (by rw [← ew]; exact x) (main 1 (if_neg x))
